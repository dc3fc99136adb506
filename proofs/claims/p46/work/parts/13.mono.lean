/-! The heap never shrinks. -/
def zMo (h : zH) (h2 : zH) : Prop := hN h ≤ hN h2 ∧ hU h ≤ hU h2
theorem zmle {h h2 : zH} (e1 : hN h = hN h2 := by rfl) (e2 : hU h = hU h2 := by rfl) : zMo h h2 := ⟨Nat.le_of_eq e1, Nat.le_of_eq e2⟩
theorem zMo.rf {h : zH} : zMo h h := ⟨Nat.le_refl _, Nat.le_refl _⟩
theorem zMo.trans {a b c : zH} (x : zMo a b) (y : zMo b c) : zMo a c := ⟨Nat.le_trans x.1 y.1, Nat.le_trans x.2 y.2⟩
theorem zmne0 (h : zH) (t n : Nat) : zMo h (hNew h t n) := ⟨Nat.le_succ _, Nat.le_add_right _ _⟩
theorem zmne {h h2 : zH} {n : Nat} (e1 : hN h + 1 = hN h2 := by rfl) (e2 : hU h + n = hU h2 := by rfl) : zMo h h2 := ⟨by omega, by omega⟩
theorem zmnews (h : zH) (t k : Nat) : ∀ n, zMo h (hNews h t k n)
  | 0 => zMo.rf
  | n + 1 => (zmnews h t k n).trans (zmne0 _ _ _)
theorem zmnm {h h2 : zH} {n k : Nat} (e1 : hN (hNews (hNew h 27 n) 21 k n) = hN h2 := by rfl) (e2 : hU (hNews (hNew h 27 n) 21 k n) = hU h2 := by rfl) : zMo h h2 := by
  have x := (zmne0 h 27 n).trans (zmnews (hNew h 27 n) 21 k n)
  exact ⟨by rw [← e1]; exact x.1, by rw [← e2]; exact x.2⟩
/-- one step takes one way, whatever follows -/
def zPam (P : zH → Prop) (F : zKn → zKd → zKt → zKc → zO) : Prop := (∀ kn kd kt kc, F kn kd kt kc = none) ∨ (∃ pc L S h, P h ∧ ∀ kn kd kt kc, F kn kd kt kc = kn pc L S h) ∨ (∃ v h, P h ∧ ∀ kn kd kt kc, F kn kd kt kc = kd v h) ∨ (∃ E h, P h ∧ ∀ kn kd kt kc, F kn kd kt kc = kt E h) ∨ (∃ q as pc L S h, P h ∧ ∀ kn kd kt kc, F kn kd kt kc = kc q as pc L S h)
theorem pam_none {P : zH → Prop} : zPam P (fun _ _ _ _ => none) := Or.inl fun _ _ _ _ => rfl
theorem pam_kn {P : zH → Prop} (pc : Nat) (L : zL) (S : List zV) (h : zH) (hp : P h) : zPam P (fun kn _ _ _ => kn pc L S h) := Or.inr (Or.inl ⟨pc, L, S, h, hp, fun _ _ _ _ => rfl⟩)
theorem pam_kd {P : zH → Prop} (v : Option zV) (h : zH) (hp : P h) : zPam P (fun _ kd _ _ => kd v h) := Or.inr (Or.inr (Or.inl ⟨v, h, hp, fun _ _ _ _ => rfl⟩))
theorem pam_kt {P : zH → Prop} (E : Nat) (h : zH) (hp : P h) : zPam P (fun _ _ kt _ => kt E h) := Or.inr (Or.inr (Or.inr (Or.inl ⟨E, h, hp, fun _ _ _ _ => rfl⟩)))
theorem pam_kc {P : zH → Prop} (q : Nat) (as : List zV) (pc : Nat) (L : zL) (S : List zV) (h : zH) (hp : P h) : zPam P (fun _ _ _ kc => kc q as pc L S h) := Or.inr (Or.inr (Or.inr (Or.inr ⟨q, as, pc, L, S, h, hp, fun _ _ _ _ => rfl⟩)))
theorem pam_if {P : zH → Prop} {p : Prop} [Decidable p] {F G : zKn → zKd → zKt → zKc → zO} (h : zPam P F) (g : zPam P G) : zPam P (fun kn kd kt kc => if p then F kn kd kt kc else G kn kd kt kc) := by
  by_cases hp : p
  · simpa only [if_pos hp] using h
  · simpa only [if_neg hp] using g
theorem pam_gd {P : zH → Prop} {p : Prop} [Decidable p] {F : zKn → zKd → zKt → zKc → zO} (h : zPam P F) : zPam P (fun kn kd kt kc => gd p (F kn kd kt kc)) := pam_if h pam_none
theorem pam_bif {P : zH → Prop} {b : Bool} {F G : zKn → zKd → zKt → zKc → zO} (h : zPam P F) (g : zPam P G) : zPam P (fun kn kd kt kc => bif b then F kn kd kt kc else G kn kd kt kc) := by
  cases b
  · exact g
  · exact h
theorem pam_pI {P : zH → Prop} {S : List zV} {F : Int → List zV → zKn → zKd → zKt → zKc → zO} (h : ∀ x S, zPam P (F x S)) : zPam P (fun kn kd kt kc => pI S (fun x S => F x S kn kd kt kc)) := by
  unfold pI
  split
  · exact h _ _
  · exact pam_none
theorem pam_pJ {P : zH → Prop} {S : List zV} {F : BitVec 64 → List zV → zKn → zKd → zKt → zKc → zO} (h : ∀ x S, zPam P (F x S)) : zPam P (fun kn kd kt kc => pJ S (fun x S => F x S kn kd kt kc)) := by
  unfold pJ
  split
  · exact h _ _
  · exact pam_none
theorem pam_pF {P : zH → Prop} {S : List zV} {F : UInt32 → List zV → zKn → zKd → zKt → zKc → zO} (h : ∀ x S, zPam P (F x S)) : zPam P (fun kn kd kt kc => pF S (fun x S => F x S kn kd kt kc)) := by
  unfold pF
  split
  · exact h _ _
  · exact pam_none
theorem pam_pD {P : zH → Prop} {S : List zV} {F : UInt64 → List zV → zKn → zKd → zKt → zKc → zO} (h : ∀ x S, zPam P (F x S)) : zPam P (fun kn kd kt kc => pD S (fun x S => F x S kn kd kt kc)) := by
  unfold pD
  split
  · exact h _ _
  · exact pam_none
theorem pam_pR {P : zH → Prop} {S : List zV} {F : Option Nat → List zV → zKn → zKd → zKt → zKc → zO} (h : ∀ x S, zPam P (F x S)) : zPam P (fun kn kd kt kc => pR S (fun x S => F x S kn kd kt kc)) := by
  unfold pR
  split
  · exact h _ _
  · exact pam_none
theorem pam_p1 {P : zH → Prop} {S : List zV} {F : zV → List zV → zKn → zKd → zKt → zKc → zO} (h : ∀ x S, zPam P (F x S)) : zPam P (fun kn kd kt kc => p1 S (fun x S => F x S kn kd kt kc)) := by
  unfold p1
  split
  · exact pam_if pam_none (h _ _)
  · exact pam_none
theorem pam_zlv {P : zH → Prop} {L : zL} {n : Nat} {F : zV → zKn → zKd → zKt → zKc → zO} (h : ∀ x, zPam P (F x)) : zPam P (fun kn kd kt kc => zlv L n (fun x => F x kn kd kt kc)) := by
  unfold zlv
  split
  · exact h _
  · exact pam_none
theorem pam_zls {P : zH → Prop} {x : Option zL} {F : zL → zKn → zKd → zKt → zKc → zO} (h : ∀ x, zPam P (F x)) : zPam P (fun kn kd kt kc => zls x (fun x => F x kn kd kt kc)) := by
  unfold zls
  split
  · exact h _
  · exact pam_none
theorem pam_zpop {P : zH → Prop} {n : Nat} {S : List zV} {F : List zV → List zV → zKn → zKd → zKt → zKc → zO} (h : ∀ x S, zPam P (F x S)) : zPam P (fun kn kd kt kc => zpop n S (fun x S => F x S kn kd kt kc)) := pam_if (h _ _) pam_none
theorem pam_zbr {P : zH → Prop} {c : Jvm.ClassFile.Cond} {x y : Int} {F G : zKn → zKd → zKt → zKc → zO} (h : zPam P F) (g : zPam P G) : zPam P (fun kn kd kt kc => zbr c x y (F kn kd kt kc) (G kn kd kt kc)) := by
  cases c <;> first | exact pam_if h g | exact pam_if g h
theorem pam_zsw {P : zH → Prop} {pc : Nat} {d x : Int} {F : Nat → zKn → zKd → zKt → zKc → zO} (h : ∀ t, zPam P (F t)) : ∀ (l : List (Int × Int)), zPam P (fun kn kd kt kc => zsw pc d x l (fun t => F t kn kd kt kc))
  | [] => h _
  | _ :: l => pam_if (h _) (pam_zsw h l)
theorem pam_ztab {P : zH → Prop} {pc : Nat} {x : Int} {F : Nat → zKn → zKd → zKt → zKc → zO} {G : zKn → zKd → zKt → zKc → zO} (h : ∀ t, zPam P (F t)) (g : zPam P G) : ∀ (l : List Int) (j : Int), zPam P (fun kn kd kt kc => ztab pc x (fun t => F t kn kd kt kc) l j (G kn kd kt kc))
  | [], _ => g
  | _ :: l, _ => pam_if (h _) (pam_ztab h g l _)
theorem pam_zload (L : zL) (S : List zV) (h : zH) (pc n t : Nat) : zPam (zMo h) (fun kn _ _ _ => zload L S h pc n t kn) := by
  refine pam_zlv fun v => ?_
  split
  all_goals first | exact pam_none | exact pam_kn _ _ _ _ zmle
theorem pam_zstore (L : zL) (S : List zV) (h : zH) (pc n t : Nat) : zPam (zMo h) (fun kn _ _ _ => zstore L S h pc n t kn) := by
  unfold zstore
  split
  · exact pam_pI fun _ _ => pam_zls fun _ => pam_kn _ _ _ _ zmle
  · exact pam_pJ fun _ _ => pam_zls fun _ => pam_kn _ _ _ _ zmle
  · exact pam_pF fun _ _ => pam_zls fun _ => pam_kn _ _ _ _ zmle
  · exact pam_pD fun _ _ => pam_zls fun _ => pam_kn _ _ _ _ zmle
  · exact pam_pR fun _ _ => pam_zls fun _ => pam_kn _ _ _ _ zmle
theorem pam_zget (L : zL) (S : List zV) (h : zH) (pc f : Nat) : zPam (zMo h) (fun kn _ _ _ => zget L S h pc f kn) := by
  unfold zget
  refine pam_pR fun _ _ => pam_gd (pam_gd ?_)
  split
  all_goals first | exact pam_none | exact pam_kn _ _ _ _ zmle
theorem pam_zset (L : zL) (S : List zV) (h : zH) (pc f : Nat) : zPam (zMo h) (fun kn _ _ _ => zset L S h pc f kn) := by
  unfold zset
  refine pam_gd ?_
  split
  · exact pam_pI fun _ _ => pam_pR fun _ _ => pam_gd (pam_kn _ _ _ _ zmle)
  · exact pam_pI fun _ _ => pam_pR fun _ _ => pam_gd (pam_gd (pam_kn _ _ _ _ zmle))
  · exact pam_pJ fun _ _ => pam_pR fun _ _ => pam_gd (pam_kn _ _ _ _ zmle)
  · exact pam_pF fun _ _ => pam_pR fun _ _ => pam_gd (pam_kn _ _ _ _ zmle)
  · exact pam_pD fun _ _ => pam_pR fun _ _ => pam_gd (pam_kn _ _ _ _ zmle)
  · exact pam_pR fun _ _ => pam_pR fun _ _ => pam_gd (pam_kn _ _ _ _ zmle)
  · exact pam_pI fun _ _ => pam_pR fun _ _ => pam_gd (pam_gd (pam_kn _ _ _ _ zmle))
  · exact pam_none
theorem pam_zcal (m : Nat) (L : zL) (S : List zV) (h : zH) (pc q : Nat) (sp : Bool) : zPam (zMo h) (fun kn _ _ kc => zcal m L S h pc q sp kn kc) := by
  unfold zcal
  refine pam_zpop fun as S => pam_gd ?_
  split
  · exact pam_kc _ _ _ _ _ _ zmle
  · split
    · exact pam_gd (pam_kc _ _ _ _ _ _ zmle)
    · exact pam_none
theorem pam_zinv (m : Nat) (L : zL) (S : List zV) (h : zH) (pc q : Nat) (sp : Bool) : zPam (zMo h) (fun kn _ _ kc => zinv m L S h pc q sp kn kc) := by
  unfold zinv
  refine pam_if (pam_zcal _ _ _ _ _ _ _) ?_
  split
  · exact pam_gd (pam_pR fun _ _ => pam_gd (pam_kn _ _ _ _ zmle))
  · exact pam_pF fun _ _ => pam_gd (pam_kn _ _ _ _ zmle)
  · exact pam_pD fun _ _ => pam_gd (pam_kn _ _ _ _ zmle)
  · exact pam_pR fun _ _ => pam_gd (pam_kn _ _ _ _ zmle)
  · exact pam_pI fun _ _ => pam_pR fun _ _ => pam_gd (pam_kn _ _ _ _ zmle)
  · exact pam_pI fun _ _ => pam_pR fun _ _ => pam_gd (pam_kn _ _ _ _ zmne)
  · exact pam_pI fun _ _ => pam_pI fun _ _ => pam_pR fun _ _ => pam_pR fun _ _ => pam_gd (pam_kn _ _ _ _ zmle)
  · exact pam_pR fun _ _ => pam_gd (pam_kn _ _ _ _ zmle)
  · exact pam_pR fun _ _ => pam_if (pam_gd (pam_kn _ _ _ _ zmle)) (pam_zcal _ _ _ _ _ _ _)
  · exact pam_pI fun _ _ => pam_pR fun _ _ => pam_if (pam_gd (pam_kn _ _ _ _ zmle)) (pam_zcal _ _ _ _ _ _ _)
  · exact pam_pI fun _ _ => pam_pI fun _ _ => pam_pR fun _ _ => pam_pI fun _ _ => pam_pR fun _ _ => pam_gd (pam_kn _ _ _ _ zmle)
  · exact pam_pR fun _ _ => pam_gd (pam_kn _ _ _ _ zmne)
  · exact pam_pI fun _ _ => pam_pI fun _ _ => pam_gd (pam_kn _ _ _ _ zmle)
  · exact pam_none
set_option maxHeartbeats 4000000 in
theorem pam_exe (m pc len : Nat) (i : Instr) (L : zL) (S : List zV) (h : zH) : zPam (zMo h) (fun kn kd kt kc => zExe m pc len i L S h kn kd kt kc) := by
  unfold zExe
  split
  all_goals first
    | exact pam_none
    | exact pam_kn _ _ _ _ zmle
    | exact pam_kn _ _ _ _ zmne
    | exact pam_pI fun _ _ => pam_gd (pam_kn _ _ _ _ zmne)
    | exact pam_kd _ _ zmle
    | exact pam_zload _ _ _ _ _ _
    | exact pam_zstore _ _ _ _ _ _
    | exact pam_gd (pam_kn _ _ _ _ zmle)
    | exact pam_gd (pam_kd _ _ zmle)
    | exact pam_p1 fun _ _ => pam_kn _ _ _ _ zmle
    | exact pam_p1 fun _ _ => pam_p1 fun _ _ => pam_kn _ _ _ _ zmle
    | exact pam_pI fun _ _ => pam_kn _ _ _ _ zmle
    | exact pam_pJ fun _ _ => pam_kn _ _ _ _ zmle
    | exact pam_pF fun _ _ => pam_kn _ _ _ _ zmle
    | exact pam_pD fun _ _ => pam_kn _ _ _ _ zmle
    | exact pam_pI fun _ _ => pam_gd (pam_kd _ _ zmle)
    | exact pam_pJ fun _ _ => pam_gd (pam_kd _ _ zmle)
    | exact pam_pF fun _ _ => pam_gd (pam_kd _ _ zmle)
    | exact pam_pD fun _ _ => pam_gd (pam_kd _ _ zmle)
    | exact pam_pR fun _ _ => pam_gd (pam_kd _ _ zmle)
    | exact pam_pF fun _ _ => pam_gd (pam_kn _ _ _ _ zmle)
    | exact pam_pI fun _ _ => pam_pI fun _ _ => pam_kn _ _ _ _ zmle
    | exact pam_pI fun _ _ => pam_pI fun _ _ => pam_gd (pam_kn _ _ _ _ zmle)
    | exact pam_bif (pam_pI fun _ _ => pam_pI fun _ _ => pam_gd (pam_kn _ _ _ _ zmle)) (pam_pI fun _ _ => pam_pI fun _ _ => pam_kn _ _ _ _ zmle)
    | exact pam_bif (pam_pI fun _ _ => pam_pR fun _ _ => pam_gd (pam_kn _ _ _ _ zmle)) (pam_pI fun _ _ => pam_pR fun _ _ => pam_gd (pam_kn _ _ _ _ zmle))
    | exact pam_pR fun _ _ => pam_if (pam_kn _ _ _ _ zmle) (pam_kn _ _ _ _ zmle)
    | exact pam_bif (pam_pI fun _ _ => pam_gd (pam_kd _ _ zmle)) (pam_pI fun _ _ => pam_gd (pam_kd _ _ zmle))
    | exact pam_pJ fun _ _ => pam_pJ fun _ _ => pam_kn _ _ _ _ zmle
    | exact pam_pI fun _ _ => pam_pJ fun _ _ => pam_kn _ _ _ _ zmle
    | exact pam_pF fun _ _ => pam_pF fun _ _ => pam_kn _ _ _ _ zmle
    | exact pam_pF fun _ _ => pam_pF fun _ _ => pam_gd (pam_kn _ _ _ _ zmle)
    | exact pam_pD fun _ _ => pam_pD fun _ _ => pam_kn _ _ _ _ zmle
    | exact pam_pD fun _ _ => pam_pD fun _ _ => pam_gd (pam_kn _ _ _ _ zmle)
    | exact pam_pI fun _ _ => pam_zbr (pam_kn _ _ _ _ zmle) (pam_kn _ _ _ _ zmle)
    | exact pam_pI fun _ _ => pam_pI fun _ _ => pam_zbr (pam_kn _ _ _ _ zmle) (pam_kn _ _ _ _ zmle)
    | exact pam_pI fun _ _ => pam_ztab (fun _ => pam_kn _ _ _ _ zmle) (pam_kn _ _ _ _ zmle) _ _
    | exact pam_pI fun _ _ => pam_zsw (fun _ => pam_kn _ _ _ _ zmle) _
    | exact pam_pI fun _ _ => pam_pR fun _ _ => pam_gd (pam_kn _ _ _ _ zmle)
    | exact pam_pR fun _ _ => pam_gd (pam_kn _ _ _ _ zmle)
    | exact pam_pI fun _ _ => pam_pI fun _ _ => pam_pR fun _ _ => pam_gd (pam_kn _ _ _ _ zmle)
    | exact pam_pI fun _ _ => pam_pI fun _ _ => pam_pR fun _ _ => pam_gd (pam_gd (pam_kn _ _ _ _ zmle))
    | exact pam_pJ fun _ _ => pam_pI fun _ _ => pam_pR fun _ _ => pam_gd (pam_kn _ _ _ _ zmle)
    | exact pam_pD fun _ _ => pam_pI fun _ _ => pam_pR fun _ _ => pam_gd (pam_kn _ _ _ _ zmle)
    | exact pam_pR fun _ _ => pam_pI fun _ _ => pam_pR fun _ _ => pam_gd (pam_kn _ _ _ _ zmle)
    | (refine pam_zlv fun v => ?_; split <;> first | exact pam_none | exact pam_gd (pam_gd (pam_zls fun _ => pam_kn _ _ _ _ zmle)))
    | (split <;> first | exact pam_none | exact pam_pR fun _ _ => pam_gd (pam_kn _ _ _ _ zmle) | exact pam_if pam_none (pam_kn _ _ _ _ zmle) | exact pam_if (pam_kn _ _ _ _ zmle) pam_none | exact pam_if (pam_kn _ _ _ _ zmne) pam_none | exact pam_kn _ _ _ _ zmle | exact pam_bif (pam_kn _ _ _ _ zmle) (pam_kn _ _ _ _ zmle) | exact pam_if (pam_gd (pam_zinv _ _ _ _ _ _ _)) (pam_if (pam_gd (pam_zinv _ _ _ _ _ _ _)) (pam_gd (pam_zinv _ _ _ _ _ _ _))) | exact pam_zget _ _ _ _ _ | exact pam_gd (pam_zset _ _ _ _ _) | exact pam_zinv _ _ _ _ _ _ _ | exact pam_if (pam_gd (pam_zinv _ _ _ _ _ _ _)) (pam_gd (pam_zinv _ _ _ _ _ _ _)) | exact pam_gd (pam_zinv _ _ _ _ _ _ _) | exact pam_pI fun _ _ => pam_gd (pam_if (pam_kn _ _ _ _ zmne) pam_none) | exact pam_pI fun k _ => pam_pI fun n _ => pam_gd (pam_kn _ _ _ _ (zmnm (n := n.toNat) (k := k.toNat) rfl rfl)) | (refine pam_if (pam_kn _ _ _ _ zmne) ?_; split <;> first | exact pam_none | exact pam_if (pam_kt _ _ zmne) pam_none))
    | (refine pam_pI fun _ _ => pam_gd ?_; split <;> first | exact pam_none | exact pam_kn _ _ _ _ zmne)
theorem pam_stp (m pc : Nat) (L : zL) (S : List zV) (h : zH) : zPam (zMo h) (fun kn kd kt kc => zStp m pc L S h kn kd kt kc) := by
  unfold zStp
  split
  · exact pam_exe _ _ _ _ _ _ _
  · exact pam_none
theorem stp_waym (m pc : Nat) (L : zL) (S : List zV) (h : zH) : (∀ kn kd kt kc, zStp m pc L S h kn kd kt kc = none) ∨ (∃ pc2 L2 S2 h2, zMo h h2 ∧ ∀ kn kd kt kc, zStp m pc L S h kn kd kt kc = kn pc2 L2 S2 h2) ∨ (∃ v h2, zMo h h2 ∧ ∀ kn kd kt kc, zStp m pc L S h kn kd kt kc = kd v h2) ∨ (∃ E h2, zMo h h2 ∧ ∀ kn kd kt kc, zStp m pc L S h kn kd kt kc = kt E h2) ∨ (∃ q as pc2 L2 S2 h2, zMo h h2 ∧ ∀ kn kd kt kc, zStp m pc L S h kn kd kt kc = kc q as pc2 L2 S2 h2) := pam_stp m pc L S h
theorem zX_mo : ∀ (n m pc : Nat) (L : zL) (S : List zV) (h : zH) (r), zX n m pc L S h = some r → zMo h r.2
  | 0, _, _, _, _, _, _, e => by cases e
  | n + 1, m, pc, L, S, h, r, hr => by
    change zFun (zX n) m pc L S h = some r at hr
    unfold zFun at hr
    rcases stp_waym m pc L S h with e | ⟨pc', L', S', h', mo, e⟩ | ⟨v, h', mo, e⟩ | ⟨E, h', mo, e⟩ | ⟨q, as, pc', L', S', h', mo, e⟩
    · rw [e] at hr; cases hr
    · rw [e] at hr; exact mo.trans (zX_mo n _ _ _ _ _ _ hr)
    · rw [e] at hr; cases hr; exact mo
    · rw [e] at hr; cases hr; exact mo
    · rw [e] at hr
      cases hc : zX n q 0 (zini as (zmaxl q)) [] h' with
      | none => rw [hc] at hr; cases hr
      | some x =>
        rw [hc] at hr
        have m2 := mo.trans (zX_mo n _ _ _ _ _ _ hc)
        obtain ⟨o, h2⟩ := x
        cases o with
        | inl v =>
          cases v with
          | none => exact m2.trans (zX_mo n _ _ _ _ _ _ hr)
          | some v => exact m2.trans (zX_mo n _ _ _ _ _ _ hr)
        | inr E =>
          simp only [zBack] at hr
          split at hr
          · obtain ⟨-, hr⟩ := gd_some hr
            cases hr; exact m2
          · split at hr
            · unfold zls at hr
              split at hr
              · exact m2.trans (zX_mo n _ _ _ _ _ _ hr)
              · cases hr
            · unfold zls at hr
              split at hr
              · exact m2.trans (zX_mo n _ _ _ _ _ _ hr)
              · cases hr
            · cases hr
