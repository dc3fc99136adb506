/-! Runs that make new objects: what they leave. -/
section GROW
variable {n top : Int} {R N : Nat → Int} {h h2 h3 : zH} {W W2 : Nat → Nat → Prop} {d e d2 e2 : Nat}
/-- at most d new cells, 16 slots for each and e more; of the old ones only those of W are written -/
def Gw (W : Nat → Nat → Prop) (d e : Nat) (h h2 : zH) : Prop := (hN h ≤ hN h2 ∧ hN h2 ≤ hN h + d ∧ hU h2 + 16 * hN h ≤ hU h + 16 * hN h2 + e) ∧ (∀ a, (a < hN h ∨ zVB ≤ a) → hT h2 a = hT h a ∧ hL h2 a = hL h a) ∧ ∀ a k, (a < hN h ∨ zVB ≤ a) → ¬ W a k → hR h2 a k = hR h a k ∧ hI h2 a k = hI h a k ∧ hJ h2 a k = hJ h a k ∧ hF h2 a k = hF h a k ∧ hD h2 a k = hD h a k
theorem Gw_r (W : Nat → Nat → Prop) (h : zH) : Gw W 0 0 h h := ⟨⟨Nat.le_refl _, Nat.le_refl _, Nat.le_refl _⟩, fun _ _ => ⟨rfl, rfl⟩, fun _ _ _ _ => ⟨rfl, rfl, rfl, rfl, rfl⟩⟩
theorem Gw_t (F : Gw W d e h h2) (G : Gw W2 d2 e2 h2 h3) (w : ∀ a k, (a < hN h ∨ zVB ≤ a) → W2 a k → W a k) : Gw W (d + d2) (e + e2) h h3 := by
  obtain ⟨⟨a1, a2, a3⟩, a4, a5⟩ := F
  obtain ⟨⟨b1, b2, b3⟩, b4, b5⟩ := G
  refine ⟨⟨by omega, by omega, by omega⟩, fun a ha => ?_, fun a k ha hw => ?_⟩
  · have := b4 a (by omega)
    have := a4 a ha
    exact ⟨by rw [(b4 a (by omega)).1]; exact this.1, by rw [(b4 a (by omega)).2]; exact this.2⟩
  · obtain ⟨c1, c2, c3, c4, c5⟩ := a5 a k ha hw
    obtain ⟨g1, g2, g3, g4, g5⟩ := b5 a k (by omega) (fun z => hw (w a k ha z))
    exact ⟨g1.trans c1, g2.trans c2, g3.trans c3, g4.trans c4, g5.trans c5⟩
theorem Gw_m (F : Gw W d e h h2) (w : ∀ a k, (a < hN h ∨ zVB ≤ a) → W a k → W2 a k) (hd : d ≤ d2) (he : e ≤ e2) : Gw W2 d2 e2 h h2 :=
  ⟨⟨F.1.1, by have := F.1.2.1; omega, by have := F.1.2.2; omega⟩, F.2.1, fun a k ha hw => F.2.2 a k ha (fun z => hw (w a k ha z))⟩
theorem Gw_of {A : FA} (F : Fr A h h2) (w : ∀ a k, inA A a k = true → W a k) : Gw W 0 0 h h2 :=
  ⟨⟨Nat.le_of_eq F.1.symm, Nat.le_of_eq F.1, by have := F.1; have := F.2.1; omega⟩, fun a _ => ⟨congrFun F.2.2.1 a, congrFun F.2.2.2.1 a⟩, fun a k _ hw => F.2.2.2.2 a k (by cases g : inA A a k with | false => rfl | true => exact absurd (w a k g) hw)⟩
theorem zu1_n {α : Type} (f : Nat → α) {a b : Nat} (v : α) (hb : b ≠ a) : zu1 f a v b = f b := if_neg hb
theorem zu1_s {α : Type} (f : Nat → α) (a : Nat) (v : α) : zu1 f a v a = v := if_pos rfl
theorem Gw_new (W : Nat → Nat → Prop) (h : zH) (t m : Nat) (hn : hN h < zVB) : Gw W 1 m h (hNew h t m) := by
  refine ⟨⟨Nat.le_succ _, Nat.le_refl _, by show hU h + m + 16 * hN h ≤ hU h + 16 * (hN h + 1) + m; omega⟩, fun a ha => ?_, fun a k ha _ => ?_⟩
  · have : a ≠ hN h := by omega
    exact ⟨zu1_n _ _ this, zu1_n _ _ this⟩
  · have : a ≠ hN h := by omega
    exact ⟨congrFun (zu1_n _ _ this) k, congrFun (zu1_n _ _ this) k, congrFun (zu1_n _ _ this) k, congrFun (zu1_n _ _ this) k, congrFun (zu1_n _ _ this) k⟩
theorem Gw_sI {a k : Nat} (F : Gw W d e h h2) (v : Int) (w : (a < hN h ∨ zVB ≤ a) → W a k) : Gw W d e h (sI h2 a k v) :=
  ⟨F.1, F.2.1, fun b j hb hw => by
    obtain ⟨c1, c2, c3, c4, c5⟩ := F.2.2 b j hb hw
    exact ⟨c1, (zup_n _ _ _ _ _ _ (fun z => hw (by obtain ⟨z1, z2⟩ := z; subst z1; subst z2; exact w hb))).trans c2, c3, c4, c5⟩⟩
theorem Gw_sR {a k : Nat} (F : Gw W d e h h2) (v : Option Nat) (w : (a < hN h ∨ zVB ≤ a) → W a k) : Gw W d e h (sR h2 a k v) :=
  ⟨F.1, F.2.1, fun b j hb hw => by
    obtain ⟨c1, c2, c3, c4, c5⟩ := F.2.2 b j hb hw
    exact ⟨(zup_n _ _ _ _ _ _ (fun z => hw (by obtain ⟨z1, z2⟩ := z; subst z1; subst z2; exact w hb))).trans c1, c2, c3, c4, c5⟩⟩
theorem gT (G : Gw W d e h h2) {a : Nat} (ha : a < hN h ∨ zVB ≤ a) : hT h2 a = hT h a := (G.2.1 a ha).1
theorem gL (G : Gw W d e h h2) {a : Nat} (ha : a < hN h ∨ zVB ≤ a) : hL h2 a = hL h a := (G.2.1 a ha).2
theorem gR (G : Gw W d e h h2) {a k : Nat} (ha : a < hN h ∨ zVB ≤ a) (w : ¬ W a k) : hR h2 a k = hR h a k := (G.2.2 a k ha w).1
theorem gI (G : Gw W d e h h2) {a k : Nat} (ha : a < hN h ∨ zVB ≤ a) (w : ¬ W a k) : hI h2 a k = hI h a k := (G.2.2 a k ha w).2.1
theorem gJ (G : Gw W d e h h2) {a k : Nat} (ha : a < hN h ∨ zVB ≤ a) (w : ¬ W a k) : hJ h2 a k = hJ h a k := (G.2.2 a k ha w).2.2.1
theorem grI (G : Gw W d e h h2) {a : Nat} (ha : a < hN h ∨ zVB ≤ a) (w : ∀ k, ¬ W a k) : hI h2 a = hI h a := funext fun k => gI G ha (w k)
theorem grJ (G : Gw W d e h h2) {a : Nat} (ha : a < hN h ∨ zVB ≤ a) (w : ∀ k, ¬ W a k) : hJ h2 a = hJ h a := funext fun k => gJ G ha (w k)
theorem grR (G : Gw W d e h h2) {a : Nat} (ha : a < hN h ∨ zVB ≤ a) (w : ∀ k, ¬ W a k) : hR h2 a = hR h a := funext fun k => gR G ha (w k)
/-- the class's references that stay -/
def kcB (a k : Nat) : Bool := (cR a k).isSome || cSp a
theorem okC_kc {A : FA} (e : okC A = true) {a k : Nat} (b : kcB a k = true) : inA A a k = false := by
  unfold kcB at b
  simp only [Bool.or_eq_true] at b
  rcases b with b | b
  · obtain ⟨x, hx⟩ := Option.isSome_iff_exists.1 b
    exact okC_R e hx
  · exact okC_s e b k
theorem KC_g (K : KC h) (G : Gw W d e h h2) (w : ∀ a k, a < 163 → kcB a k = true → ¬ W a k) : KC h2 := by
  obtain ⟨k1, k2, k3, k4, k5, k6, k7, k8⟩ := K
  have cIn : ∀ a, cI a = true → a < 163 := fun a ha => by
    simp only [cI, Bool.or_eq_true, Bool.and_eq_true, Nat.blt_eq, Nat.ble_eq] at ha
    omega
  have cRn : ∀ a k b, cR a k = some b → a < 163 := fun a k b hb => by
    unfold cR at hb
    cases hc : (Nat.blt a 163 && Nat.blt k 16) with
    | false => rw [hc] at hb; cases hb
    | true => simp only [Bool.and_eq_true, Nat.blt_eq] at hc; exact hc.1
  have sp : ∀ a k, a < 163 → cSp a = true → ¬ W a k := fun a k ha hs => w a k ha (by unfold kcB; rw [hs, Bool.or_true])
  refine ⟨Nat.le_trans k1 G.1.1, fun a ha => ?_, fun a k b hb => ?_, fun i hi => ?_, fun i hi => ?_, fun i hi => ?_, fun i hi => ?_, fun i j hi => ?_⟩
  · have := cIn a ha
    rw [gT G (by omega), gL G (by omega)]; exact k2 a ha
  · have := cRn a k b hb
    rw [gR G (by omega) (w a k this (by unfold kcB; rw [hb]; rfl))]; exact k3 a k b hb
  · rw [gR G (by omega) (sp 11 i (by decide) rfl)]; exact k4 i hi
  · rw [gR G (by omega) (sp 12 i (by decide) rfl)]; exact k5 i hi
  · rw [gR G (by omega) (sp 98 i (by decide) rfl)]; exact k6 i hi
  · rw [gR G (by omega) (sp 136 i (by decide) rfl)]; exact k7 i hi
  · rw [gI G (by omega) (sp (103 + 2 * i) j (by omega) ((show ∀ m : Fin 13, cSp (103 + 2 * m.val) = true by decide) ⟨i, hi⟩))]; exact k8 i j hi
/-- neither the reference's cells nor the constant ones -/
def clW (W : Nat → Nat → Prop) : Prop := ∀ a k, W a k → a < 163 ∨ 178 ≤ a ∧ a < zVB
theorem KS_g (K : KS h) (G : Gw W d e h h2) (w : clW W) : KS h2 := fun a ha => by
  have z9 : zVB = 10000000 := rfl
  have o : ∀ k, ¬ W a k := fun k z => by have := w a k z; omega
  have ha2 : a < hN h ∨ zVB ≤ a := Or.inr (by omega)
  rw [gT G ha2, gL G ha2, grI G ha2 o, grJ G ha2 o]
  exact K a ha
theorem FS_g {f : Nat} (S : FS h f) (G : Gw W d e h h2) (w : ¬ W f 0) : FS h2 f := by
  obtain ⟨a, b, c, g⟩ := S
  exact ⟨by rw [gT G (by omega)]; exact a, by rw [gR G (by omega) w]; exact b, by rw [gT G (by omega)]; exact c, Nat.lt_of_lt_of_le g G.1.1⟩
/-- formulas are not written -/
def nf (W : Nat → Nat → Prop) (h : zH) : Prop := ∀ f, FS h f → (mutB f = false → ∀ k, ¬ W f k) ∧ (mutB (f + 1) = false → ∀ k, ¬ W (f + 1) k)
theorem FO_g {f : Nat} {l : List Int} (S : FO h f l) (G : Gw W d e h h2) (w : nf W h) : FO h2 f l := by
  obtain ⟨a, b, c, x, y⟩ := S
  have q := w f a
  have := a.2.2.2
  exact ⟨FS_g a G (q.1 b 0), b, c, by rw [gL G (by omega)]; exact x, by rw [grI G (by omega) (q.2 c)]; exact y⟩
theorem FAt_g {a k : Nat} {l : List Int} (S : FAt h a k l) (G : Gw W d e h h2) (w : nf W h) (ha : a < hN h) (wa : ¬ W a k) : FAt h2 a k l := by
  obtain ⟨f, b, c⟩ := S
  exact ⟨f, by rw [gR G (Or.inl ha) wa]; exact b, FO_g c G w⟩
theorem FSAt_g {a k : Nat} (S : FSAt h a k) (G : Gw W d e h h2) (w : nf W h) (ha : a < hN h) (wa : ¬ W a k) : FSAt h2 a k := by
  obtain ⟨f, b, c, g⟩ := S
  exact ⟨f, by rw [gR G (Or.inl ha) wa]; exact b, FS_g c G ((w f c).1 g 0), g⟩
theorem PS_g {p : Nat} (S : PS h p) (G : Gw W d e h h2) (w : ∀ k, 3 ≤ k → ¬ W p k) : PS h2 p := by
  obtain ⟨a, b, c, x, y⟩ := S
  refine ⟨by rw [gT G (by omega)]; exact a, Nat.lt_of_lt_of_le b G.1.1, fun j hj => ?_, fun k hk => ?_, by rw [gR G (by omega) (w 13 (by decide))]; exact y⟩
  · have h10 : j ≤ 10 := by simp only [Bool.and_eq_true, Nat.ble_eq] at hj; omega
    rw [gT G (by omega), gL G (by omega)]; exact c j hj
  · have h3 : 3 ≤ k := by simp only [Bool.and_eq_true, Nat.ble_eq] at hk; omega
    rw [gR G (by omega) (w k h3)]; exact x k hk
theorem VS_g {v : Nat} (S : VS h v) (G : Gw W d e h h2) (w : ∀ k, 2 ≤ k → ¬ W v k) : VS h2 v := by
  obtain ⟨a, b, c, x, y⟩ := S
  refine ⟨by rw [gT G (by omega)]; exact a, Nat.lt_of_lt_of_le b G.1.1, fun j hj => ?_, fun k hk => ?_, by rw [gR G (by omega) (w 2 (by decide))]; exact y⟩
  · have h10 : j ≤ 4 := by simp only [Bool.and_eq_true, Nat.ble_eq] at hj; omega
    rw [gT G (by omega), gL G (by omega)]; exact c j hj
  · have h3 : 3 ≤ k := by simp only [Bool.and_eq_true, Nat.ble_eq] at hk; omega
    rw [gR G (by omega) (w k (by omega))]; exact x k hk
theorem PO_g {p : Nat} (S : PO h p n R) (G : Gw W d e h h2) (w : ∀ j k, j ≤ 10 → ¬ W (p + j) k) : PO h2 p n R := by
  obtain ⟨a, b, c, x, g, i⟩ := S
  have hp := a.2.1
  have r : ∀ j, j ≤ 10 → hI h2 (p + j) = hI h (p + j) := fun j hj => grI G (by omega) (fun k => w j k hj)
  refine ⟨PS_g a G (fun k _ => w 0 k (by decide)), b, c, ?_, ?_, ?_⟩
  · rw [show hI h2 p = hI h p from r 0 (by decide)]; exact x
  · rw [r 1 (by decide), r 2 (by decide), r 3 (by decide), r 4 (by decide), r 5 (by decide), r 6 (by decide), r 7 (by decide), r 8 (by decide)]; exact g
  · rw [r 9 (by decide)]; exact i
theorem PA_g {p : Nat} (S : PA h p n R N) (a : PS h p) (G : Gw W d e h h2) (w : ∀ k, ¬ W (p + 10) k) (x : nf W h) : PA h2 p n R N := fun s h0 h1 => FAt_g (S s h0 h1) G x a.2.1 (w _)
theorem VO_g {v : Nat} (S : VO h v n R N) (G : Gw W d e h h2) (w : ∀ j k, j ≤ 4 → ¬ W (v + j) k) (y : nf W h) : VO h2 v n R N := by
  obtain ⟨a, b, c, x, g, i⟩ := S
  have hv := a.2.1
  refine ⟨VS_g a G (fun k _ => w 0 k (by decide)), b, FAt_g c G y (by omega) (w 0 _ (by decide)), FAt_g x G y (by omega) (w 0 _ (by decide)), fun s h0 h1 => ⟨fun k => ⟨FAt_g ((g s h0 h1).1 k).1 G y (by omega) (w 1 _ (by decide)), FAt_g ((g s h0 h1).1 k).2 G y (by omega) (w 2 _ (by decide))⟩, fun k => ?_, ?_⟩, fun j hj => ⟨FSAt_g (i j hj).1 G y (by omega) (w 1 _ (by decide)), FSAt_g (i j hj).2 G y (by omega) (w 2 _ (by decide))⟩⟩
  · rw [grI G (by omega) (fun k => w 3 k (by decide))]; exact (g s h0 h1).2.1 k
  · rw [grI G (by omega) (fun k => w 4 k (by decide))]; exact (g s h0 h1).2.2
/-! what calls write: cells of a list, a version's fields, a program's -/
def Wv (v a k : Nat) : Prop := (a = v ∧ k ≤ 1) ∨ (v < a ∧ a < v + 5)
def Wp (p a k : Nat) : Prop := (a = p ∧ k ≤ 2) ∨ (p < a ∧ a < p + 11)
theorem nf_A {A : FA} (e : okO A = true) (h : zH) : nf (fun a k => inA A a k = true) h := fun f _ => ⟨fun m k (z : inA A f k = true) => (by rw [okO_in e m k] at z; cases z), fun m k (z : inA A (f + 1) k = true) => (by rw [okO_in e m k] at z; cases z)⟩
theorem vst_e {j : Nat} : vst j = 25 ∨ vst j = 22 := by unfold vst; cases Nat.blt j 3 <;> simp
theorem pst_e {j : Nat} : pst j = 25 ∨ pst j = 22 := by unfold pst; cases Nat.beq j 10 <;> simp
theorem VS_tg {v a : Nat} (V : VS h v) (h0 : v < a) (h1 : a < v + 5) : hT h a = 25 ∨ hT h a = 22 := by
  have e := V.2.2.1 (a - v) (by simp only [Bool.and_eq_true, Nat.blt_eq, Nat.ble_eq]; omega)
  rw [show v + (a - v) = a by omega] at e
  rw [e.1]; exact vst_e
theorem PS_tg {p a : Nat} (P : PS h p) (h0 : p < a) (h1 : a < p + 11) : hT h a = 25 ∨ hT h a = 22 := by
  have e := P.2.2.1 (a - p) (by simp only [Bool.and_eq_true, Nat.blt_eq, Nat.ble_eq]; omega)
  rw [show p + (a - p) = a by omega] at e
  rw [e.1]; exact pst_e
theorem nf_v {v : Nat} (V : VS h v) : nf (Wv v) h := fun f F => by
  have t := V.1
  have f1 := F.1
  have f2 := F.2.2.1
  refine ⟨fun _ k z => ?_, fun _ k z => ?_⟩
  · rcases z with ⟨z, _⟩ | ⟨z, y⟩
    · rw [← z] at t; omega
    · have := VS_tg V z y; omega
  · rcases z with ⟨z, _⟩ | ⟨z, y⟩
    · rw [← z] at t; omega
    · have := VS_tg V z y; omega
theorem nf_p {p : Nat} (P : PS h p) : nf (Wp p) h := fun f F => by
  have t := P.1
  have f1 := F.1
  have f2 := F.2.2.1
  refine ⟨fun _ k z => ?_, fun _ k z => ?_⟩
  · rcases z with ⟨z, _⟩ | ⟨z, y⟩
    · rw [← z] at t; omega
    · have := PS_tg P z y; omega
  · rcases z with ⟨z, _⟩ | ⟨z, y⟩
    · rw [← z] at t; omega
    · have := PS_tg P z y; omega
theorem nf_or (a : nf W h) (b : nf W2 h) : nf (fun x k => W x k ∨ W2 x k) h := fun f F => ⟨fun m k z => z.elim ((a f F).1 m k) ((b f F).1 m k), fun m k z => z.elim ((a f F).2 m k) ((b f F).2 m k)⟩
/-- a program and a version are apart -/
theorem PV_dj {p v : Nat} (P : PS h p) (V : VS h v) : p + 10 < v ∨ v + 4 < p := by
  have t := P.1
  have u := V.1
  by_cases c : v ≤ p
  · by_cases c2 : v + 4 < p
    · exact Or.inr c2
    · by_cases c3 : p = v
      · rw [c3] at t; omega
      · have := VS_tg V (a := p) (by omega) (by omega); omega
  · by_cases c2 : p + 10 < v
    · exact Or.inl c2
    · have := PS_tg P (a := v) (by omega) (by omega); omega
/-- a version's cells are none of the class's fixed ones -/
theorem VS_kc {v : Nat} (K : KC h) (V : VS h v) : ∀ a k, a < 163 → kcB a k = true → ¬ Wv v a k := fun a k ha b z => by
  have t := V.1
  have H1 : cI a = true ∧ (cT a = 10 → 2 ≤ k) ∧ ((cT a = 25 ∨ cT a = 22) → a = 98) := by
    unfold kcB at b
    simp only [Bool.or_eq_true] at b
    rcases b with b | b
    · obtain ⟨x, hx⟩ := Option.isSome_iff_exists.1 b
      exact (show ∀ a : Fin 163, ∀ k : Fin 16, (cR a.val k.val).isSome = true → cI a.val = true ∧ (cT a.val = 10 → 2 ≤ k.val) ∧ ((cT a.val = 25 ∨ cT a.val = 22) → a.val = 98) by decide +kernel) ⟨a, ha⟩ ⟨k, cR_k hx⟩ b
    · have q := (show ∀ a : Fin 163, cSp a.val = true → cI a.val = true ∧ cT a.val ≠ 10 ∧ ((cT a.val = 25 ∨ cT a.val = 22) → a.val = 98) by decide +kernel) ⟨a, ha⟩ b
      exact ⟨q.1, fun y => absurd y q.2.1, q.2.2⟩
  have e := (K.2.1 a H1.1).1
  rcases z with ⟨z, y⟩ | ⟨z, y⟩
  · subst z
    have := H1.2.1 (e.symm.trans t)
    omega
  · have g := VS_tg V z y
    rw [e] at g
    have a98 := H1.2.2 g
    obtain ⟨c1, c2⟩ := (show ∀ j : Fin 4, cI (94 + j.val) = true ∧ cT (94 + j.val) ≠ 10 by decide +kernel) ⟨v - 94, by omega⟩
    simp only [show 94 + (v - 94) = v by omega] at c1 c2
    exact c2 ((K.2.1 v c1).1.symm.trans t)
end GROW

