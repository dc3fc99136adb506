/-! How the small machine's values, locals and heap stand for the real one's. -/
theorem pI_some {S : List zV} {k : Int → List zV → zO} {r} (h : pI S k = some r) : ∃ x S', S = zI x :: S' ∧ k x S' = some r := by
  unfold pI at h
  split at h
  · exact ⟨_, _, rfl, h⟩
  · cases h
theorem pJ_some {S : List zV} {k : BitVec 64 → List zV → zO} {r} (h : pJ S k = some r) : ∃ x S', S = zJ x :: S' ∧ k x S' = some r := by
  unfold pJ at h
  split at h
  · exact ⟨_, _, rfl, h⟩
  · cases h
theorem pF_some {S : List zV} {k : UInt32 → List zV → zO} {r} (h : pF S k = some r) : ∃ x S', S = zF x :: S' ∧ k x S' = some r := by
  unfold pF at h
  split at h
  · exact ⟨_, _, rfl, h⟩
  · cases h
theorem pD_some {S : List zV} {k : UInt64 → List zV → zO} {r} (h : pD S k = some r) : ∃ x S', S = zD x :: S' ∧ k x S' = some r := by
  unfold pD at h
  split at h
  · exact ⟨_, _, rfl, h⟩
  · cases h
theorem pR_some {S : List zV} {k : Option Nat → List zV → zO} {r} (h : pR S k = some r) : ∃ x S', S = zR x :: S' ∧ k x S' = some r := by
  unfold pR at h
  split at h
  · exact ⟨_, _, rfl, h⟩
  · cases h
theorem p1_some {S : List zV} {k : zV → List zV → zO} {r} (h : p1 S k = some r) : ∃ x S', S = x :: S' ∧ zc2 x = false ∧ k x S' = some r := by
  unfold p1 at h
  split at h
  · split at h
    · cases h
    · exact ⟨_, _, rfl, Bool.not_eq_true _ ▸ ‹¬ _›, h⟩
  · cases h
theorem zlv_some {L : zL} {n : Nat} {k : zV → zO} {r} (h : zlv L n k = some r) : ∃ v, zat L n = some v ∧ k v = some r := by
  unfold zlv at h
  split at h
  · exact ⟨_, by assumption, h⟩
  · cases h
theorem zls_some {x : Option zL} {k : zL → zO} {r} (h : zls x k = some r) : ∃ L, x = some L ∧ k L = some r := by
  unfold zls at h
  split at h
  · exact ⟨_, rfl, h⟩
  · cases h
theorem zpop_some {n : Nat} {S : List zV} {k : List zV → List zV → zO} {r} (h : zpop n S k = some r) : n ≤ S.length ∧ k (S.take n).reverse (S.drop n) = some r := by
  unfold zpop at h
  split at h
  · exact ⟨by assumption, h⟩
  · cases h
theorem zif_some {p : Prop} [Decidable p] {a b : zO} {r} (h : (if p then a else b) = some r) : (p ∧ a = some r) ∨ (¬ p ∧ b = some r) := by
  split at h
  · exact Or.inl ⟨by assumption, h⟩
  · exact Or.inr ⟨by assumption, h⟩
/-- ints -/
theorem zbm {x : Int} (h : inR x) : Int.bmod x (2 ^ 32) = x := by
  show Int.bmod x 4294967296 = x
  rw [Int.bmod_def]
  obtain ⟨h1, h2⟩ := h
  split <;> omega
theorem zi_to {x : Int} (h : inR x) : (Int32.ofInt x).toInt = x := by
  rw [Int32.toInt_ofInt]
  exact zbm h
theorem zi_of (w : Int32) : Int32.ofInt w.toInt = w := Int32.ofInt_toInt w
theorem zi_r (w : Int32) : inR w.toInt := ⟨by have := Int32.le_toInt w; simpa using this, by have := Int32.toInt_lt w; simpa using this⟩
theorem zi_lt {x y : Int} (hx : inR x) (hy : inR y) : Int32.ofInt x < Int32.ofInt y ↔ x < y := by rw [Int32.lt_iff_toInt_lt, zi_to hx, zi_to hy]
theorem zi_le {x y : Int} (hx : inR x) (hy : inR y) : Int32.ofInt x ≤ Int32.ofInt y ↔ x ≤ y := by rw [Int32.le_iff_toInt_le, zi_to hx, zi_to hy]
theorem zi_eq {x y : Int} (hx : inR x) (hy : inR y) : Int32.ofInt x = Int32.ofInt y ↔ x = y := ⟨fun h => by rw [← zi_to hx, ← zi_to hy, h], fun h => by rw [h]⟩
theorem zi_0 : Int32.ofInt 0 = 0 := rfl
theorem zi_cl {x : Int} (hx : inR x) (h0 : 0 ≤ x) : (Int32.ofInt x).toNatClampNeg = x.toNat := by
  unfold Int32.toNatClampNeg
  rw [zi_to hx]
theorem zi_in {x : Int} {n : Nat} (hx : inR x) (h0 : 0 ≤ x) (h1 : x < (n : Int)) : ¬ (Int32.ofInt x < 0 ∨ n ≤ (Int32.ofInt x).toNatClampNeg) := by
  rw [zi_cl hx h0, ← zi_0, zi_lt hx (by decide)]
  omega
theorem zi_nat {n : Nat} (h : n < 2147483648) : Int32.ofNat n = Int32.ofInt (n : Int) := rfl
theorem zi_div {x y : Int} (hx : inR x) (hy : inR y) (h0 : 0 ≤ x) (h1 : 0 < y) : Int32.ofInt x / Int32.ofInt y = Int32.ofInt (x / y) := by
  have hb : x / y ≤ x := Int.ediv_le_self y h0
  have hc : 0 ≤ x / y := Int.ediv_nonneg h0 (Int.le_of_lt h1)
  have hq : inR (x / y) := by unfold inR at *; omega
  apply Int32.toInt_inj.mp
  rw [Int32.toInt_div, zi_to hx, zi_to hy, zi_to hq, Int.tdiv_eq_ediv_of_nonneg h0]
  exact zbm hq
theorem zi_rem {x y : Int} (hx : inR x) (hy : inR y) (h : 0 ≤ x ∧ 0 < y ∨ -2147483648 < x ∧ 0 < y) : Int32.ofInt x - Int32.ofInt x / Int32.ofInt y * Int32.ofInt y = Int32.ofInt (x.tmod y) := by
  have h1 : 0 < y := by omega
  have hd : Int32.ofInt x / Int32.ofInt y = Int32.ofInt (x.tdiv y) := by
    have a1 : (x.tdiv y).natAbs ≤ x.natAbs := by rw [Int.natAbs_tdiv]; exact Nat.div_le_self _ _
    have hq : inR (x.tdiv y) := by unfold inR at *; omega
    apply Int32.toInt_inj.mp
    rw [Int32.toInt_div, zi_to hx, zi_to hy, zi_to hq]
    exact zbm hq
  rw [hd, ← Int32.ofInt_mul, ← Int32.ofInt_sub]
  congr 1
  rw [Int.tmod_def, Int.mul_comm]
theorem zsh_r (f : Int32 → Int32 → Int32) (x y : Int) : inR (zsh f x y) := zi_r _
theorem zsh_e (f : Int32 → Int32 → Int32) (x y : Int) : Int32.ofInt (zsh f x y) = f (Int32.ofInt x) (Int32.ofInt y) := zi_of _
/-- values -/
def zrho (base : Nat) (adr : Nat → Nat) (a : Nat) : Nat := if a < zVB then base + a else adr (a - zVB)
def zenc (ρ : Nat → Nat) : zV → Value
  | .inl x => .int (Int32.ofInt x)
  | .inr (.inl x) => .long (Int64.ofBitVec x)
  | .inr (.inr (.inl x)) => .float x
  | .inr (.inr (.inr (.inl x))) => .double x
  | .inr (.inr (.inr (.inr r))) => va_rf (r.map ρ)
def zok1 : zV → Prop
  | .inl x => inR x
  | _ => True
theorem zenc_cat (ρ : Nat → Nat) (v : zV) : (zenc ρ v).category = if zc2 v then 2 else 1 := by
  rcases v with x | x | x | x | x <;> try rfl
  cases x <;> rfl
theorem zenc_R {ρ : Nat → Nat} {r : Option Nat} (h : r.isSome = true) : zenc ρ (zR r) = .ref (ρ (zdr r)) := by
  cases r with
  | none => cases h
  | some a => rfl
/-- locals -/
def zLS (ρ : Nat → Nat) (ls : Array Slot) (L : zL) : Prop := ls.size = L.length ∧ lv_wf ls ∧ ∀ i v, zat L i = some v → ls[i]? = some (.val (zenc ρ v))
def zlv1 (ρ : Nat → Nat) (L : zL) : List (Nat × Value) := (List.range L.length).filterMap fun i => (zat L i).map fun v => (i, zenc ρ v)
theorem zat_lt {L : zL} {i : Nat} {v : zV} (h : zat L i = some v) : i < L.length := by
  induction L generalizing i with
  | nil => cases h
  | cons x l ih =>
    cases i with
    | zero => exact Nat.succ_pos _
    | succ n => exact Nat.succ_lt_succ (ih h)
theorem zlv1_in {ρ : Nat → Nat} {L : zL} {i : Nat} {w : Value} : (i, w) ∈ zlv1 ρ L ↔ ∃ v, zat L i = some v ∧ w = zenc ρ v := by
  unfold zlv1
  rw [List.mem_filterMap]
  constructor
  · rintro ⟨j, hj, h⟩
    cases hz : zat L j with
    | none => rw [hz] at h; cases h
    | some v =>
      rw [hz] at h
      simp only [Option.map_some, Option.some.injEq, Prod.mk.injEq] at h
      obtain ⟨rfl, rfl⟩ := h
      exact ⟨v, hz, rfl⟩
  · rintro ⟨v, hz, rfl⟩
    exact ⟨i, List.mem_range.mpr (zat_lt hz), by rw [hz]; rfl⟩
theorem zLS.has {ρ : Nat → Nat} {ls : Array Slot} {L : zL} (h : zLS ρ ls L) : lv_has ls L.length (zlv1 ρ L) := by
  refine ⟨h.1, h.2.1, fun q hq => ?_⟩
  obtain ⟨i, w⟩ := q
  obtain ⟨v, hz, rfl⟩ := zlv1_in.mp hq
  exact h.2.2 i v hz
theorem zLS.at {ρ : Nat → Nat} {ls : Array Slot} {L : zL} (h : zLS ρ ls L) {i : Nat} {v : zV} (hv : zat L i = some v) : ls[i]? = some (.val (zenc ρ v)) := h.2.2 i v hv
theorem zput_spec {L L' : zL} {n : Nat} {v : Option zV} (h : zput L n v = some L') : L'.length = L.length ∧ n < L.length ∧ ∀ i, zat L' i = if i = n then v else zat L i := by
  induction L generalizing n L' with
  | nil => cases h
  | cons x l ih =>
    cases n with
    | zero =>
      simp only [zput, Option.some.injEq] at h
      subst h
      refine ⟨rfl, Nat.succ_pos _, fun i => ?_⟩
      cases i with
      | zero => rfl
      | succ j => rfl
    | succ k =>
      simp only [zput, Option.map_eq_some_iff] at h
      obtain ⟨l', h1, rfl⟩ := h
      obtain ⟨a, b, c⟩ := ih h1
      refine ⟨by simp [a], Nat.succ_lt_succ b, fun i => ?_⟩
      cases i with
      | zero => simp [zat]
      | succ j => simp [zat, c j]
theorem zkil_spec {L L' : zL} {n : Nat} (h : zkil L n = some L') : L'.length = L.length ∧ ∀ i v, zat L' i = some v → zat L i = some v ∧ ¬ (i + 1 = n ∧ zc2 v = true) := by
  cases n with
  | zero =>
    simp only [zkil, Option.some.injEq] at h
    subst h
    exact ⟨rfl, fun i v hv => ⟨hv, by omega⟩⟩
  | succ k =>
    simp only [zkil] at h
    split at h
    · rename_i hz
      cases h
      refine ⟨rfl, fun i v hv => ⟨hv, fun ⟨e, _⟩ => ?_⟩⟩
      cases e
      rw [hz] at hv; cases hv
    · rename_i w hz
      split at h
      · rename_i hw
        obtain ⟨a, b, c⟩ := zput_spec h
        refine ⟨a, fun i v hv => ?_⟩
        rw [c i] at hv
        split at hv
        · cases hv
        · exact ⟨hv, fun ⟨e, _⟩ => by omega⟩
      · rename_i hw
        cases h
        refine ⟨rfl, fun i v hv => ⟨hv, fun ⟨e, hc⟩ => ?_⟩⟩
        cases e
        rw [hz] at hv; cases hv
        exact hw hc
/-- what a store of one place does to the list that stands for the locals -/
theorem zst1_spec {ρ : Nat → Nat} {L L' : zL} {n : Nat} {v : Option zV} (h : zst1 L n v = some L') : L'.length = L.length ∧ n < L.length ∧ zat L' n = v ∧ ∀ i w, i ≠ n → zat L' i = some w → (i, zenc ρ w) ∈ (zlv1 ρ L).filter (fun q => !(q.1 == n) && !(q.1 + 1 == n && q.2.category == 2)) := by
  unfold zst1 at h
  rw [Option.bind_eq_some_iff] at h
  obtain ⟨L1, h1, h2⟩ := h
  obtain ⟨a1, b1⟩ := zkil_spec h1
  obtain ⟨a2, b2, c2⟩ := zput_spec h2
  refine ⟨by omega, by omega, by rw [c2]; simp, fun i w hi hw => ?_⟩
  rw [c2, if_neg hi] at hw
  obtain ⟨d1, d2⟩ := b1 i w hw
  refine List.mem_filter.mpr ⟨zlv1_in.mpr ⟨w, d1, rfl⟩, ?_⟩
  simp only [zenc_cat, Bool.and_eq_true, Bool.not_eq_true', beq_eq_false_iff_ne, ne_eq, Bool.and_eq_false_imp, beq_iff_eq]
  refine ⟨hi, fun e => ?_⟩
  have : ¬ zc2 w = true := fun hc => d2 ⟨e, hc⟩
  simp [this]
theorem zst2_spec {ρ : Nat → Nat} {L L' : zL} {n : Nat} {v : zV} (h : zst2 L n v = some L') : L'.length = L.length ∧ n + 1 < L.length ∧ zat L' n = some v ∧ ∀ i w, i ≠ n → zat L' i = some w → (i, zenc ρ w) ∈ (zlv1 ρ L).filter (fun q => !(q.1 == n) && (!(q.1 == n + 1) && !(q.1 + 1 == n && q.2.category == 2))) := by
  unfold zst2 at h
  simp only [Option.bind_eq_some_iff] at h
  obtain ⟨L1, h1, L2, h2, h3⟩ := h
  obtain ⟨a1, b1⟩ := zkil_spec h1
  obtain ⟨a2, b2, c2⟩ := zput_spec h2
  obtain ⟨a3, b3, c3⟩ := zput_spec h3
  refine ⟨by omega, by omega, by rw [c3, if_neg (by omega), c2]; simp, fun i w hi hw => ?_⟩
  rw [c3] at hw
  split at hw
  · cases hw
  rename_i hi2
  rw [c2, if_neg hi] at hw
  obtain ⟨d1, d2⟩ := b1 i w hw
  refine List.mem_filter.mpr ⟨zlv1_in.mpr ⟨w, d1, rfl⟩, ?_⟩
  simp only [zenc_cat, Bool.and_eq_true, Bool.not_eq_true', beq_eq_false_iff_ne, ne_eq, Bool.and_eq_false_imp, beq_iff_eq]
  refine ⟨hi, hi2, fun e => ?_⟩
  have : ¬ zc2 w = true := fun hc => d2 ⟨e, hc⟩
  simp [this]
theorem zLS.put {ρ : Nat → Nat} {ls' : Array Slot} {L L' : zL} {n : Nat} {v : zV} {lv' : List (Nat × Value)} (hlen : L'.length = L.length) (hn : zat L' n = some v) (hi : ∀ i w, i ≠ n → zat L' i = some w → (i, zenc ρ w) ∈ lv') (h : lv_has ls' L.length ((n, zenc ρ v) :: lv')) : zLS ρ ls' L' := by
  refine ⟨by rw [h.1, hlen], h.2.1, fun i w hw => ?_⟩
  by_cases e : i = n
  · subst e
    rw [hn] at hw
    cases hw
    exact h.2.2 _ List.mem_cons_self
  · exact h.2.2 (i, zenc ρ w) (List.mem_cons_of_mem _ (hi i w e hw))
def zLok (L : zL) : Prop := ∀ i v, zat L i = some v → zok1 v
def zSok (S : List zV) : Prop := ∀ v ∈ S, zok1 v
theorem zLok.put {L L' : zL} {n : Nat} {v : zV} {ρ : Nat → Nat} {lv' : List (Nat × Value)} (hL : zLok L) (hv : zok1 v) (hn : zat L' n = some v) (hi : ∀ i w, i ≠ n → zat L' i = some w → zat L i = some w) : zLok L' := fun i w hw => by
  by_cases e : i = n
  · subst e
    rw [hn] at hw; cases hw; exact hv
  · exact hL i w (hi i w e hw)
