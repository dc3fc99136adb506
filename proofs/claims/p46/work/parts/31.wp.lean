/-! A run that goes on with fewer known locals goes on likewise with more; what is reached by a run, as a judgement. -/
def zle : zL → zL → Prop
  | [], [] => True
  | none :: l, _ :: l2 => zle l l2
  | some a :: l, b :: l2 => b = some a ∧ zle l l2
  | _, _ => False
theorem zle_refl : ∀ (L : zL), zle L L
  | [] => trivial
  | none :: l => zle_refl l
  | some _ :: l => ⟨rfl, zle_refl l⟩
theorem zle_cons {x y : Option zV} {l l2 : zL} (h : zle l l2) (e : x = none ∨ y = x) : zle (x :: l) (y :: l2) := by
  cases x with
  | none => exact h
  | some a => exact ⟨e.resolve_left (by simp), h⟩
theorem zle_inv {x : Option zV} {l l2 : zL} (h : zle (x :: l) l2) : ∃ y m2, l2 = y :: m2 ∧ zle l m2 ∧ (x = none ∨ y = x) := by
  cases l2 with
  | nil => cases x <;> exact h.elim
  | cons y m2 =>
    cases x with
    | none => exact ⟨y, m2, rfl, h, Or.inl rfl⟩
    | some a => exact ⟨y, m2, rfl, h.2, Or.inr h.1⟩
theorem zle_at : ∀ {L L2 : zL} {n : Nat} {v : zV}, zle L L2 → zat L n = some v → zat L2 n = some v
  | [], _, _, _, _, h => by simp [zat] at h
  | x :: l, L2, 0, v, e, h => by
    obtain ⟨y, m2, rfl, _, e2⟩ := zle_inv e
    have h1 : x = some v := h
    subst h1
    exact (e2.resolve_left (by simp))
  | x :: l, L2, n + 1, v, e, h => by
    obtain ⟨y, m2, rfl, e1, _⟩ := zle_inv e
    exact zle_at (n := n) e1 h
theorem zle_put : ∀ {L L2 M : zL} {n : Nat} {v w : Option zV}, zle L L2 → (v = none ∨ w = v) → zput L n v = some M → ∃ M2, zput L2 n w = some M2 ∧ zle M M2
  | [], _, _, _, _, _, _, _, h => by simp [zput] at h
  | x :: l, L2, M, 0, v, w, e, hv, h => by
    obtain ⟨y, m2, rfl, e1, _⟩ := zle_inv e
    have h1 : v :: l = M := Option.some.inj h
    subst h1
    exact ⟨w :: m2, rfl, zle_cons e1 hv⟩
  | x :: l, L2, M, n + 1, v, w, e, hv, h => by
    obtain ⟨y, m2, rfl, e1, e2⟩ := zle_inv e
    simp only [zput] at h ⊢
    cases hp : zput l n v with
    | none => rw [hp] at h; cases h
    | some M1 =>
      rw [hp] at h
      obtain ⟨M2, h2, h3⟩ := zle_put (n := n) e1 hv hp
      have h1 : x :: M1 = M := Option.some.inj h
      subst h1
      exact ⟨y :: M2, by rw [h2]; rfl, zle_cons h3 e2⟩
theorem zle_len : ∀ {L L2 : zL}, zle L L2 → L.length = L2.length
  | [], [], _ => rfl
  | [], _ :: _, h => h.elim
  | x :: l, L2, e => by
    obtain ⟨y, m2, rfl, e1, _⟩ := zle_inv e
    simp [zle_len e1]
theorem zput_some : ∀ {L : zL} {n : Nat} (v : Option zV) {u : zV}, zat L n = some u → ∃ M, zput L n v = some M
  | [], _, _, _, h => by simp [zat] at h
  | x :: l, 0, v, _, _ => ⟨v :: l, rfl⟩
  | x :: l, n + 1, v, u, h => by
    obtain ⟨M, hM⟩ := zput_some (L := l) (n := n) v h
    exact ⟨x :: M, by simp only [zput, hM]; rfl⟩
theorem zle_putn : ∀ {L L2 M2 : zL} {n : Nat}, zle L L2 → zat L n = none → zput L2 n none = some M2 → zle L M2
  | [], [], _, _, _, _, h => by simp [zput] at h
  | [], _ :: _, _, _, e, _, _ => e.elim
  | x :: l, L2, M2, 0, e, hn, h => by
    obtain ⟨y, m2, rfl, e1, _⟩ := zle_inv e
    have h1 : none :: m2 = M2 := Option.some.inj h
    have h2 : x = none := hn
    subst h1; subst h2
    exact e1
  | x :: l, L2, M2, n + 1, e, hn, h => by
    obtain ⟨y, m2, rfl, e1, e2⟩ := zle_inv e
    simp only [zput] at h
    cases hp : zput m2 n none with
    | none => rw [hp] at h; cases h
    | some M1 =>
      rw [hp] at h
      have h1 : y :: M1 = M2 := Option.some.inj h
      subst h1
      exact zle_cons (zle_putn (n := n) e1 hn hp) e2
theorem zle_kil {L L2 M : zL} {n : Nat} (e : zle L L2) (h : zkil L n = some M) : ∃ M2, zkil L2 n = some M2 ∧ zle M M2 := by
  cases n with
  | zero =>
    have h1 : L = M := Option.some.inj h
    subst h1
    exact ⟨L2, rfl, e⟩
  | succ n =>
    simp only [zkil] at h ⊢
    cases ha : zat L n with
    | some v =>
      rw [ha] at h
      rw [zle_at e ha]
      simp only at h ⊢
      by_cases hv : zc2 v = true
      · rw [if_pos hv] at h ⊢
        exact zle_put e (Or.inl rfl) h
      · rw [if_neg hv] at h ⊢
        have h1 : L = M := Option.some.inj h
        subst h1
        exact ⟨L2, rfl, e⟩
    | none =>
      rw [ha] at h
      have h1 : L = M := Option.some.inj h
      subst h1
      cases hb : zat L2 n with
      | none => exact ⟨L2, rfl, e⟩
      | some u =>
        simp only
        by_cases hv : zc2 u = true
        · rw [if_pos hv]
          obtain ⟨M2, h2⟩ := zput_some none hb
          exact ⟨M2, h2, zle_putn e ha h2⟩
        · rw [if_neg hv]
          exact ⟨L2, rfl, e⟩
theorem zle_st1 {L L2 M : zL} {n : Nat} {v w : Option zV} (e : zle L L2) (hv : v = none ∨ w = v) (h : zst1 L n v = some M) : ∃ M2, zst1 L2 n w = some M2 ∧ zle M M2 := by
  unfold zst1 at h ⊢
  obtain ⟨L1, h1, h2⟩ := Option.bind_eq_some_iff.mp h
  obtain ⟨M1, g1, g2⟩ := zle_kil e h1
  rw [g1]
  exact zle_put g2 hv h2
theorem zle_st2 {L L2 M : zL} {n : Nat} {v : zV} (e : zle L L2) (h : zst2 L n v = some M) : ∃ M2, zst2 L2 n v = some M2 ∧ zle M M2 := by
  unfold zst2 at h ⊢
  obtain ⟨L1, h1, h2⟩ := Option.bind_eq_some_iff.mp h
  obtain ⟨K1, h3, h4⟩ := Option.bind_eq_some_iff.mp h2
  obtain ⟨M1, g1, g2⟩ := zle_kil e h1
  obtain ⟨M2, g3, g4⟩ := zle_put g2 (Or.inr rfl) h3
  rw [g1]
  simp only [Option.bind_some]
  rw [g3]
  exact zle_put g4 (Or.inl rfl) h4
abbrev zF4 : Type := zKn → zKd → zKt → zKc → zO
def zPm (F G : zF4) : Prop := (∀ kn kd kt kc, F kn kd kt kc = none) ∨ (∃ pc L L2 S h, zle L L2 ∧ (∀ kn kd kt kc, F kn kd kt kc = kn pc L S h) ∧ ∀ kn kd kt kc, G kn kd kt kc = kn pc L2 S h) ∨ (∃ v h, (∀ kn kd kt kc, F kn kd kt kc = kd v h) ∧ ∀ kn kd kt kc, G kn kd kt kc = kd v h) ∨ (∃ E h, (∀ kn kd kt kc, F kn kd kt kc = kt E h) ∧ ∀ kn kd kt kc, G kn kd kt kc = kt E h) ∨ (∃ q as pc L L2 S h, zle L L2 ∧ (∀ kn kd kt kc, F kn kd kt kc = kc q as pc L S h) ∧ ∀ kn kd kt kc, G kn kd kt kc = kc q as pc L2 S h)
theorem pm_none {G : zF4} : zPm (fun _ _ _ _ => none) G := Or.inl fun _ _ _ _ => rfl
theorem pm_kn (pc : Nat) {L L2 : zL} (e : zle L L2) (S : List zV) (h : zH) : zPm (fun kn _ _ _ => kn pc L S h) (fun kn _ _ _ => kn pc L2 S h) := Or.inr (Or.inl ⟨pc, L, L2, S, h, e, fun _ _ _ _ => rfl, fun _ _ _ _ => rfl⟩)
theorem pm_kd (v : Option zV) (h : zH) : zPm (fun _ kd _ _ => kd v h) (fun _ kd _ _ => kd v h) := Or.inr (Or.inr (Or.inl ⟨v, h, fun _ _ _ _ => rfl, fun _ _ _ _ => rfl⟩))
theorem pm_kt (E : Nat) (h : zH) : zPm (fun _ _ kt _ => kt E h) (fun _ _ kt _ => kt E h) := Or.inr (Or.inr (Or.inr (Or.inl ⟨E, h, fun _ _ _ _ => rfl, fun _ _ _ _ => rfl⟩)))
theorem pm_kc (q : Nat) (as : List zV) (pc : Nat) {L L2 : zL} (e : zle L L2) (S : List zV) (h : zH) : zPm (fun _ _ _ kc => kc q as pc L S h) (fun _ _ _ kc => kc q as pc L2 S h) := Or.inr (Or.inr (Or.inr (Or.inr ⟨q, as, pc, L, L2, S, h, e, fun _ _ _ _ => rfl, fun _ _ _ _ => rfl⟩)))
theorem pm_if {p : Prop} [Decidable p] {F G F2 G2 : zF4} (h : zPm F F2) (g : zPm G G2) : zPm (fun kn kd kt kc => if p then F kn kd kt kc else G kn kd kt kc) (fun kn kd kt kc => if p then F2 kn kd kt kc else G2 kn kd kt kc) := by
  by_cases hp : p
  · simpa only [if_pos hp] using h
  · simpa only [if_neg hp] using g
theorem pm_gd {p : Prop} [Decidable p] {F F2 : zF4} (h : zPm F F2) : zPm (fun kn kd kt kc => gd p (F kn kd kt kc)) (fun kn kd kt kc => gd p (F2 kn kd kt kc)) := pm_if h pm_none
theorem pm_pI {S : List zV} {F F2 : Int → List zV → zF4} (h : ∀ x S, zPm (F x S) (F2 x S)) : zPm (fun kn kd kt kc => pI S (fun x S => F x S kn kd kt kc)) (fun kn kd kt kc => pI S (fun x S => F2 x S kn kd kt kc)) := by
  unfold pI
  split
  · exact h _ _
  · exact pm_none
theorem pm_pJ {S : List zV} {F F2 : BitVec 64 → List zV → zF4} (h : ∀ x S, zPm (F x S) (F2 x S)) : zPm (fun kn kd kt kc => pJ S (fun x S => F x S kn kd kt kc)) (fun kn kd kt kc => pJ S (fun x S => F2 x S kn kd kt kc)) := by
  unfold pJ
  split
  · exact h _ _
  · exact pm_none
theorem pm_pF {S : List zV} {F F2 : UInt32 → List zV → zF4} (h : ∀ x S, zPm (F x S) (F2 x S)) : zPm (fun kn kd kt kc => pF S (fun x S => F x S kn kd kt kc)) (fun kn kd kt kc => pF S (fun x S => F2 x S kn kd kt kc)) := by
  unfold pF
  split
  · exact h _ _
  · exact pm_none
theorem pm_pD {S : List zV} {F F2 : UInt64 → List zV → zF4} (h : ∀ x S, zPm (F x S) (F2 x S)) : zPm (fun kn kd kt kc => pD S (fun x S => F x S kn kd kt kc)) (fun kn kd kt kc => pD S (fun x S => F2 x S kn kd kt kc)) := by
  unfold pD
  split
  · exact h _ _
  · exact pm_none
theorem pm_pR {S : List zV} {F F2 : Option Nat → List zV → zF4} (h : ∀ x S, zPm (F x S) (F2 x S)) : zPm (fun kn kd kt kc => pR S (fun x S => F x S kn kd kt kc)) (fun kn kd kt kc => pR S (fun x S => F2 x S kn kd kt kc)) := by
  unfold pR
  split
  · exact h _ _
  · exact pm_none
theorem pm_p1 {S : List zV} {F F2 : zV → List zV → zF4} (h : ∀ x S, zPm (F x S) (F2 x S)) : zPm (fun kn kd kt kc => p1 S (fun x S => F x S kn kd kt kc)) (fun kn kd kt kc => p1 S (fun x S => F2 x S kn kd kt kc)) := by
  unfold p1
  split
  · exact pm_if pm_none (h _ _)
  · exact pm_none
theorem pm_zlv {L L2 : zL} (e : zle L L2) {n : Nat} {F F2 : zV → zF4} (h : ∀ x, zPm (F x) (F2 x)) : zPm (fun kn kd kt kc => zlv L n (fun x => F x kn kd kt kc)) (fun kn kd kt kc => zlv L2 n (fun x => F2 x kn kd kt kc)) := by
  unfold zlv
  cases ha : zat L n with
  | none => exact pm_none
  | some v => rw [zle_at e ha]; exact h v
theorem pm_zls {x y : Option zL} (e : ∀ M, x = some M → ∃ M2, y = some M2 ∧ zle M M2) {F F2 : zL → zF4} (h : ∀ M M2, zle M M2 → zPm (F M) (F2 M2)) : zPm (fun kn kd kt kc => zls x (fun x => F x kn kd kt kc)) (fun kn kd kt kc => zls y (fun x => F2 x kn kd kt kc)) := by
  unfold zls
  cases x with
  | none => exact pm_none
  | some M =>
    obtain ⟨M2, h1, h2⟩ := e M rfl
    rw [h1]
    exact h M M2 h2
theorem pm_zpop {n : Nat} {S : List zV} {F F2 : List zV → List zV → zF4} (h : ∀ x S, zPm (F x S) (F2 x S)) : zPm (fun kn kd kt kc => zpop n S (fun x S => F x S kn kd kt kc)) (fun kn kd kt kc => zpop n S (fun x S => F2 x S kn kd kt kc)) := pm_if (h _ _) pm_none
theorem pm_zbr {c : Jvm.ClassFile.Cond} {x y : Int} {F G F2 G2 : zF4} (h : zPm F F2) (g : zPm G G2) : zPm (fun kn kd kt kc => zbr c x y (F kn kd kt kc) (G kn kd kt kc)) (fun kn kd kt kc => zbr c x y (F2 kn kd kt kc) (G2 kn kd kt kc)) := by
  cases c <;> first | exact pm_if h g | exact pm_if g h
theorem pm_zsw {pc : Nat} {d x : Int} {F F2 : Nat → zF4} (h : ∀ t, zPm (F t) (F2 t)) : ∀ (l : List (Int × Int)), zPm (fun kn kd kt kc => zsw pc d x l (fun t => F t kn kd kt kc)) (fun kn kd kt kc => zsw pc d x l (fun t => F2 t kn kd kt kc))
  | [] => h _
  | _ :: l => pm_if (h _) (pm_zsw h l)
theorem pm_ztab {pc : Nat} {x : Int} {F F2 : Nat → zF4} {G G2 : zF4} (h : ∀ t, zPm (F t) (F2 t)) (g : zPm G G2) : ∀ (l : List Int) (j : Int), zPm (fun kn kd kt kc => ztab pc x (fun t => F t kn kd kt kc) l j (G kn kd kt kc)) (fun kn kd kt kc => ztab pc x (fun t => F2 t kn kd kt kc) l j (G2 kn kd kt kc))
  | [], _ => g
  | _ :: l, _ => pm_if (h _) (pm_ztab h g l _)
section PMZ
variable {L L2 : zL} (e : zle L L2)
theorem pm_zload {L L2 : zL} (e : zle L L2) (S : List zV) (h : zH) (pc n t : Nat) : zPm (fun kn _ _ _ => zload L S h pc n t kn) (fun kn _ _ _ => zload L2 S h pc n t kn) := by
  unfold zload
  refine pm_zlv (F := fun v => fun kn _ _ _ => _) (F2 := fun v => fun kn _ _ _ => _) e fun v => ?_
  split
  all_goals first | exact pm_none | exact pm_kn _ e _ _
theorem pm_zstore {L L2 : zL} (e : zle L L2) (S : List zV) (h : zH) (pc n t : Nat) : zPm (fun kn _ _ _ => zstore L S h pc n t kn) (fun kn _ _ _ => zstore L2 S h pc n t kn) := by
  unfold zstore
  split
  · exact pm_pI fun _ _ => pm_zls (fun _ => zle_st1 e (Or.inr rfl)) fun _ _ e => pm_kn _ e _ _
  · exact pm_pJ fun _ _ => pm_zls (fun _ => zle_st2 e) fun _ _ e => pm_kn _ e _ _
  · exact pm_pF fun _ _ => pm_zls (fun _ => zle_st1 e (Or.inr rfl)) fun _ _ e => pm_kn _ e _ _
  · exact pm_pD fun _ _ => pm_zls (fun _ => zle_st2 e) fun _ _ e => pm_kn _ e _ _
  · exact pm_pR fun _ _ => pm_zls (fun _ => zle_st1 e (Or.inr rfl)) fun _ _ e => pm_kn _ e _ _
theorem pm_zget {L L2 : zL} (e : zle L L2) (S : List zV) (h : zH) (pc f : Nat) : zPm (fun kn _ _ _ => zget L S h pc f kn) (fun kn _ _ _ => zget L2 S h pc f kn) := by
  unfold zget
  refine pm_pR (F := fun r S => fun kn _ _ _ => _) (F2 := fun r S => fun kn _ _ _ => _) fun _ _ => pm_gd (pm_gd ?_)
  split
  all_goals first | exact pm_none | exact pm_kn _ e _ _
theorem pm_zset {L L2 : zL} (e : zle L L2) (S : List zV) (h : zH) (pc f : Nat) : zPm (fun kn _ _ _ => zset L S h pc f kn) (fun kn _ _ _ => zset L2 S h pc f kn) := by
  unfold zset
  refine pm_gd (F := fun kn _ _ _ => _) (F2 := fun kn _ _ _ => _) ?_
  split
  · exact pm_pI fun _ _ => pm_pR fun _ _ => pm_gd (pm_kn _ e _ _)
  · exact pm_pI fun _ _ => pm_pR fun _ _ => pm_gd (pm_gd (pm_kn _ e _ _))
  · exact pm_pJ fun _ _ => pm_pR fun _ _ => pm_gd (pm_kn _ e _ _)
  · exact pm_pF fun _ _ => pm_pR fun _ _ => pm_gd (pm_kn _ e _ _)
  · exact pm_pD fun _ _ => pm_pR fun _ _ => pm_gd (pm_kn _ e _ _)
  · exact pm_pR fun _ _ => pm_pR fun _ _ => pm_gd (pm_kn _ e _ _)
  · exact pm_pI fun _ _ => pm_pR fun _ _ => pm_gd (pm_gd (pm_kn _ e _ _))
  · exact pm_none
theorem pm_bif {b : Bool} {F G F2 G2 : zKn → zKd → zKt → zKc → zO} (h : zPm F F2) (g : zPm G G2) : zPm (fun kn kd kt kc => bif b then F kn kd kt kc else G kn kd kt kc) (fun kn kd kt kc => bif b then F2 kn kd kt kc else G2 kn kd kt kc) := by
  cases b
  · exact g
  · exact h
theorem pm_zcal {L L2 : zL} (e : zle L L2) (m : Nat) (S : List zV) (h : zH) (pc q : Nat) (sp : Bool) : zPm (fun kn _ _ kc => zcal m L S h pc q sp kn kc) (fun kn _ _ kc => zcal m L2 S h pc q sp kn kc) := by
  unfold zcal
  refine pm_zpop (F := fun as S => fun kn _ _ kc => _) (F2 := fun as S => fun kn _ _ kc => _) fun as S => pm_gd ?_
  split
  · exact pm_kc _ _ _ e _ _
  · split
    · exact pm_gd (pm_kc _ _ _ e _ _)
    · exact pm_none
theorem pm_zinv {L L2 : zL} (e : zle L L2) (m : Nat) (S : List zV) (h : zH) (pc q : Nat) (sp : Bool) : zPm (fun kn _ _ kc => zinv m L S h pc q sp kn kc) (fun kn _ _ kc => zinv m L2 S h pc q sp kn kc) := by
  unfold zinv
  refine pm_if (F := fun kn _ _ kc => _) (F2 := fun kn _ _ kc => _) (G := fun kn _ _ kc => _) (G2 := fun kn _ _ kc => _) (pm_zcal e _ _ _ _ _ _) ?_
  split
  · exact pm_gd (pm_pR fun _ _ => pm_gd (pm_kn _ e _ _))
  · exact pm_pF fun _ _ => pm_gd (pm_kn _ e _ _)
  · exact pm_pD fun _ _ => pm_gd (pm_kn _ e _ _)
  · exact pm_pR fun _ _ => pm_gd (pm_kn _ e _ _)
  · exact pm_pI fun _ _ => pm_pR fun _ _ => pm_gd (pm_kn _ e _ _)
  · exact pm_pI fun _ _ => pm_pR fun _ _ => pm_gd (pm_kn _ e _ _)
  · exact pm_pI fun _ _ => pm_pI fun _ _ => pm_pR fun _ _ => pm_pR fun _ _ => pm_gd (pm_kn _ e _ _)
  · exact pm_pR fun _ _ => pm_gd (pm_kn _ e _ _)
  · exact pm_pR fun _ _ => pm_if (pm_gd (pm_kn _ e _ _)) (pm_zcal e _ _ _ _ _ _)
  · exact pm_pI fun _ _ => pm_pR fun _ _ => pm_if (pm_gd (pm_kn _ e _ _)) (pm_zcal e _ _ _ _ _ _)
  · exact pm_pI fun _ _ => pm_pI fun _ _ => pm_pR fun _ _ => pm_pI fun _ _ => pm_pR fun _ _ => pm_gd (pm_kn _ e _ _)
  · exact pm_pR fun _ _ => pm_gd (pm_kn _ e _ _)
  · exact pm_pI fun _ _ => pm_pI fun _ _ => pm_gd (pm_kn _ e _ _)
  · exact pm_none
end PMZ
set_option maxHeartbeats 4000000 in
theorem pm_exe {L L2 : zL} (e : zle L L2) (m pc len : Nat) (i : Instr) (S : List zV) (h : zH) : zPm (fun kn kd kt kc => zExe m pc len i L S h kn kd kt kc) (fun kn kd kt kc => zExe m pc len i L2 S h kn kd kt kc) := by
  unfold zExe
  split
  all_goals first
    | exact pm_none
    | exact pm_kn _ e _ _
    | exact pm_kd _ _
    | exact pm_zload e _ _ _ _ _
    | exact pm_zstore e _ _ _ _ _
    | exact pm_gd (pm_kn _ e _ _)
    | exact pm_gd (pm_kd _ _)
    | exact pm_p1 fun _ _ => pm_kn _ e _ _
    | exact pm_p1 fun _ _ => pm_p1 fun _ _ => pm_kn _ e _ _
    | exact pm_pI fun _ _ => pm_kn _ e _ _
    | exact pm_pJ fun _ _ => pm_kn _ e _ _
    | exact pm_pF fun _ _ => pm_kn _ e _ _
    | exact pm_pD fun _ _ => pm_kn _ e _ _
    | exact pm_pI fun _ _ => pm_gd (pm_kd _ _)
    | exact pm_pJ fun _ _ => pm_gd (pm_kd _ _)
    | exact pm_pF fun _ _ => pm_gd (pm_kd _ _)
    | exact pm_pD fun _ _ => pm_gd (pm_kd _ _)
    | exact pm_pR fun _ _ => pm_gd (pm_kd _ _)
    | exact pm_pF fun _ _ => pm_gd (pm_kn _ e _ _)
    | exact pm_pI fun _ _ => pm_pI fun _ _ => pm_kn _ e _ _
    | exact pm_pI fun _ _ => pm_pI fun _ _ => pm_gd (pm_kn _ e _ _)
    | exact pm_bif (pm_pI fun _ _ => pm_pI fun _ _ => pm_gd (pm_kn _ e _ _)) (pm_pI fun _ _ => pm_pI fun _ _ => pm_kn _ e _ _)
    | exact pm_bif (pm_pI fun _ _ => pm_pR fun _ _ => pm_gd (pm_kn _ e _ _)) (pm_pI fun _ _ => pm_pR fun _ _ => pm_gd (pm_kn _ e _ _))
    | exact pm_bif (pm_pI fun _ _ => pm_gd (pm_kd _ _)) (pm_pI fun _ _ => pm_gd (pm_kd _ _))
    | exact pm_pR fun _ _ => pm_if (pm_kn _ e _ _) (pm_kn _ e _ _)
    | exact pm_pJ fun _ _ => pm_pJ fun _ _ => pm_kn _ e _ _
    | exact pm_pI fun _ _ => pm_pJ fun _ _ => pm_kn _ e _ _
    | exact pm_pF fun _ _ => pm_pF fun _ _ => pm_kn _ e _ _
    | exact pm_pF fun _ _ => pm_pF fun _ _ => pm_gd (pm_kn _ e _ _)
    | exact pm_pD fun _ _ => pm_pD fun _ _ => pm_kn _ e _ _
    | exact pm_pD fun _ _ => pm_pD fun _ _ => pm_gd (pm_kn _ e _ _)
    | exact pm_pI fun _ _ => pm_zbr (pm_kn _ e _ _) (pm_kn _ e _ _)
    | exact pm_pI fun _ _ => pm_pI fun _ _ => pm_zbr (pm_kn _ e _ _) (pm_kn _ e _ _)
    | exact pm_pI fun _ _ => pm_ztab (fun _ => pm_kn _ e _ _) (pm_kn _ e _ _) _ _
    | exact pm_pI fun _ _ => pm_zsw (fun _ => pm_kn _ e _ _) _
    | exact pm_pI fun _ _ => pm_pR fun _ _ => pm_gd (pm_kn _ e _ _)
    | exact pm_pR fun _ _ => pm_gd (pm_kn _ e _ _)
    | exact pm_pI fun _ _ => pm_pI fun _ _ => pm_pR fun _ _ => pm_gd (pm_kn _ e _ _)
    | exact pm_pI fun _ _ => pm_pI fun _ _ => pm_pR fun _ _ => pm_gd (pm_gd (pm_kn _ e _ _))
    | exact pm_pJ fun _ _ => pm_pI fun _ _ => pm_pR fun _ _ => pm_gd (pm_kn _ e _ _)
    | exact pm_pD fun _ _ => pm_pI fun _ _ => pm_pR fun _ _ => pm_gd (pm_kn _ e _ _)
    | exact pm_pR fun _ _ => pm_pI fun _ _ => pm_pR fun _ _ => pm_gd (pm_kn _ e _ _)
    | (refine pm_zlv (F := fun v => fun kn _ _ _ => _) (F2 := fun v => fun kn _ _ _ => _) e fun v => ?_; split <;> first | exact pm_none | exact pm_gd (pm_gd (pm_zls (fun _ => zle_st1 e (Or.inr rfl)) fun _ _ e => pm_kn _ e _ _)))
    | (split <;> first | exact pm_none | exact pm_pR fun _ _ => pm_gd (pm_kn _ e _ _) | exact pm_bif (pm_kn _ e _ _) (pm_kn _ e _ _) | exact pm_if (pm_gd (pm_zinv e _ _ _ _ _ _)) (pm_if (pm_gd (pm_zinv e _ _ _ _ _ _)) (pm_gd (pm_zinv e _ _ _ _ _ _))) | exact pm_if pm_none (pm_kn _ e _ _) | exact pm_if (pm_kn _ e _ _) pm_none | exact pm_kn _ e _ _ | exact pm_zget e _ _ _ _ | exact pm_gd (pm_zset e _ _ _ _) | exact pm_zinv e _ _ _ _ _ _ | exact pm_if (pm_gd (pm_zinv e _ _ _ _ _ _)) (pm_gd (pm_zinv e _ _ _ _ _ _)) | exact pm_gd (pm_zinv e _ _ _ _ _ _) | exact pm_pI fun _ _ => pm_gd (pm_if (pm_kn _ e _ _) pm_none) | exact pm_pI fun _ _ => pm_pI fun _ _ => pm_gd (pm_kn _ e _ _) | (refine pm_if (F := fun kn _ _ _ => _) (F2 := fun kn _ _ _ => _) (G := fun _ _ kt _ => _) (G2 := fun _ _ kt _ => _) (pm_kn _ e _ _) ?_; split <;> first | exact pm_none | exact pm_if (pm_kt _ _) pm_none))
    | (refine pm_pI (F := fun x S => fun kn _ _ _ => _) (F2 := fun x S => fun kn _ _ _ => _) fun _ _ => pm_gd ?_; split <;> first | exact pm_none | exact pm_kn _ e _ _)
theorem pm_stp {L L2 : zL} (e : zle L L2) (m pc : Nat) (S : List zV) (h : zH) : zPm (fun kn kd kt kc => zStp m pc L S h kn kd kt kc) (fun kn kd kt kc => zStp m pc L2 S h kn kd kt kc) := by
  unfold zStp
  split
  · exact pm_exe e _ _ _ _ _ _
  · exact pm_none
theorem pm_ways {L L2 : zL} (e : zle L L2) (m pc : Nat) (S : List zV) (h : zH) : (∀ kn kd kt kc, zStp m pc L S h kn kd kt kc = none) ∨ (∃ pc2 M M2 S2 h2, zle M M2 ∧ (∀ kn kd kt kc, zStp m pc L S h kn kd kt kc = kn pc2 M S2 h2) ∧ ∀ kn kd kt kc, zStp m pc L2 S h kn kd kt kc = kn pc2 M2 S2 h2) ∨ (∃ v h2, (∀ kn kd kt kc, zStp m pc L S h kn kd kt kc = kd v h2) ∧ ∀ kn kd kt kc, zStp m pc L2 S h kn kd kt kc = kd v h2) ∨ (∃ E h2, (∀ kn kd kt kc, zStp m pc L S h kn kd kt kc = kt E h2) ∧ ∀ kn kd kt kc, zStp m pc L2 S h kn kd kt kc = kt E h2) ∨ (∃ q as pc2 M M2 S2 h2, zle M M2 ∧ (∀ kn kd kt kc, zStp m pc L S h kn kd kt kc = kc q as pc2 M S2 h2) ∧ ∀ kn kd kt kc, zStp m pc L2 S h kn kd kt kc = kc q as pc2 M2 S2 h2) := pm_stp e m pc S h
def zLm (A : zYT) : Prop := ∀ m pc L L2 S h r, zle L L2 → A m pc L S h = some r → A m pc L2 S h = some r
theorem zBack_le {A : zYT} (hA : zLm A) {m pcc pc : Nat} {L L2 : zL} (e : zle L L2) {S : List zV} {x : zO} {r} (h : zBack A m pcc pc L S x = some r) : zBack A m pcc pc L2 S x = some r := by
  cases x with
  | none => cases h
  | some q =>
    obtain ⟨o, h2⟩ := q
    cases o with
    | inl v =>
      cases v with
      | none => exact hA _ _ _ _ _ _ _ e h
      | some v => exact hA _ _ _ _ _ _ _ e h
    | inr E =>
      simp only [zBack] at h ⊢
      split at h
      · exact h
      · split at h
        · unfold zls at h ⊢
          split at h
          · rename_i M hM
            obtain ⟨M2, g1, g2⟩ := zle_st1 e (Or.inl rfl) hM
            rw [g1]
            exact hA _ _ _ _ _ _ _ g2 h
          · cases h
        · unfold zls at h ⊢
          split at h
          · rename_i M hM
            obtain ⟨M2, g1, g2⟩ := zle_st1 e (Or.inl rfl) hM
            rw [g1]
            exact hA _ _ _ _ _ _ _ g2 h
          · cases h
        · cases h
theorem zX_lm : ∀ n, zLm (zX n)
  | 0 => fun _ _ _ _ _ _ _ _ h => by cases h
  | n + 1 => by
    intro m pc L L2 S h r e hr
    have ih := zX_lm n
    change zFun (zX n) m pc L S h = some r at hr
    change zFun (zX n) m pc L2 S h = some r
    unfold zFun at hr ⊢
    rcases pm_ways e m pc S h with g | ⟨pc2, M, M2, S2, h2, g, g1, g2⟩ | ⟨v, h2, g1, g2⟩ | ⟨E, h2, g1, g2⟩ | ⟨q, as, pc2, M, M2, S2, h2, g, g1, g2⟩
    · rw [g] at hr; cases hr
    · rw [g1] at hr; rw [g2]; exact ih _ _ _ _ _ _ _ g hr
    · rw [g1] at hr; rw [g2]; exact hr
    · rw [g1] at hr; rw [g2]; exact hr
    · rw [g1] at hr; rw [g2]; exact zBack_le ih g hr
theorem zY_le {m pc : Nat} {L L2 : zL} {S : List zV} {h : zH} {r} (e : zle L L2) (hr : zY m pc L S h = some r) : zY m pc L2 S h = some r := by
  obtain ⟨n, hn⟩ := zY_ex hr
  exact zY_of (zX_lm n _ _ _ _ _ _ _ e hn)
/-- a run comes to an end of which Q holds -/
def WP (o : zO) (Q : (Option zV ⊕ Nat) → zH → Prop) : Prop := ∃ r h, o = some (r, h) ∧ Q r h
theorem WP_eq {a b : zO} {Q : (Option zV ⊕ Nat) → zH → Prop} (e : a = b) (h : WP b Q) : WP a Q := e ▸ h
theorem WP_ret {r : Option zV ⊕ Nat} {h : zH} {Q : (Option zV ⊕ Nat) → zH → Prop} (hq : Q r h) : WP (some (r, h)) Q := ⟨r, h, rfl, hq⟩
theorem WP_gd {p : Prop} [Decidable p] {k : zO} {Q : (Option zV ⊕ Nat) → zH → Prop} (hp : p) (h : WP k Q) : WP (gd p k) Q := by rw [gd_t hp]; exact h
theorem WP_if {c : Prop} [Decidable c] {a b : zO} {Q : (Option zV ⊕ Nat) → zH → Prop} (h1 : c → WP a Q) (h2 : ¬ c → WP b Q) : WP (if c then a else b) Q := by
  by_cases h : c
  · rw [if_pos h]; exact h1 h
  · rw [if_neg h]; exact h2 h
theorem WP_bk {m pcc pc : Nat} {L : zL} {S : List zV} {X : zO} {Q : (Option zV ⊕ Nat) → zH → Prop} (h : WP X fun r h2 => WP (zBack zY m pcc pc L S (some (r, h2))) Q) : WP (zBack zY m pcc pc L S X) Q := by
  obtain ⟨r, h2, e, hq⟩ := h
  rw [e]
  exact hq
theorem WP_le {m pc : Nat} {L L2 : zL} {S : List zV} {h : zH} {Q : (Option zV ⊕ Nat) → zH → Prop} (e : zle L L2) (hw : WP (zY m pc L S h) Q) : WP (zY m pc L2 S h) Q := by
  obtain ⟨r, h2, e2, hq⟩ := hw
  exact ⟨r, h2, zY_le e e2, hq⟩
theorem WP_mono {a : zO} {Q Q2 : (Option zV ⊕ Nat) → zH → Prop} (h : WP a Q) (hq : ∀ r h, Q r h → Q2 r h) : WP a Q2 := by
  obtain ⟨r, h2, e, h3⟩ := h
  exact ⟨r, h2, e, hq r h2 h3⟩
theorem WP_e {a : zO} {r : Option zV ⊕ Nat} {h : zH} (e : a = some (r, h)) {Q : (Option zV ⊕ Nat) → zH → Prop} (hq : Q r h) : WP a Q := ⟨r, h, e, hq⟩
theorem WP_eqn {a : zO} {r : Option zV ⊕ Nat} {h : zH} (hw : WP a fun r2 h2 => r2 = r ∧ h2 = h) : a = some (r, h) := by
  obtain ⟨r2, h2, e, rfl, rfl⟩ := hw
  exact e

