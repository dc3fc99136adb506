/-! What a run of the small machine comes to, without a count of its steps. -/
abbrev zKd : Type := Option zV → zH → zO
abbrev zKt : Type := Nat → zH → zO
/-- one step takes one way, whatever follows -/
def zPar (F : zKn → zKd → zKt → zKc → zO) : Prop := (∀ kn kd kt kc, F kn kd kt kc = none) ∨ (∃ pc L S h, ∀ kn kd kt kc, F kn kd kt kc = kn pc L S h) ∨ (∃ v h, ∀ kn kd kt kc, F kn kd kt kc = kd v h) ∨ (∃ E h, ∀ kn kd kt kc, F kn kd kt kc = kt E h) ∨ (∃ q as pc L S h, ∀ kn kd kt kc, F kn kd kt kc = kc q as pc L S h)
theorem par_none : zPar (fun _ _ _ _ => none) := Or.inl fun _ _ _ _ => rfl
theorem par_kn (pc : Nat) (L : zL) (S : List zV) (h : zH) : zPar (fun kn _ _ _ => kn pc L S h) := Or.inr (Or.inl ⟨pc, L, S, h, fun _ _ _ _ => rfl⟩)
theorem par_kd (v : Option zV) (h : zH) : zPar (fun _ kd _ _ => kd v h) := Or.inr (Or.inr (Or.inl ⟨v, h, fun _ _ _ _ => rfl⟩))
theorem par_kt (E : Nat) (h : zH) : zPar (fun _ _ kt _ => kt E h) := Or.inr (Or.inr (Or.inr (Or.inl ⟨E, h, fun _ _ _ _ => rfl⟩)))
theorem par_kc (q : Nat) (as : List zV) (pc : Nat) (L : zL) (S : List zV) (h : zH) : zPar (fun _ _ _ kc => kc q as pc L S h) := Or.inr (Or.inr (Or.inr (Or.inr ⟨q, as, pc, L, S, h, fun _ _ _ _ => rfl⟩)))
theorem par_if {p : Prop} [Decidable p] {F G : zKn → zKd → zKt → zKc → zO} (h : zPar F) (g : zPar G) : zPar (fun kn kd kt kc => if p then F kn kd kt kc else G kn kd kt kc) := by
  by_cases hp : p
  · simpa only [if_pos hp] using h
  · simpa only [if_neg hp] using g
theorem par_gd {p : Prop} [Decidable p] {F : zKn → zKd → zKt → zKc → zO} (h : zPar F) : zPar (fun kn kd kt kc => gd p (F kn kd kt kc)) := par_if h par_none
theorem par_bif {b : Bool} {F G : zKn → zKd → zKt → zKc → zO} (h : zPar F) (g : zPar G) : zPar (fun kn kd kt kc => bif b then F kn kd kt kc else G kn kd kt kc) := by
  cases b
  · exact g
  · exact h
theorem par_pI {S : List zV} {F : Int → List zV → zKn → zKd → zKt → zKc → zO} (h : ∀ x S, zPar (F x S)) : zPar (fun kn kd kt kc => pI S (fun x S => F x S kn kd kt kc)) := by
  unfold pI
  split
  · exact h _ _
  · exact par_none
theorem par_pJ {S : List zV} {F : BitVec 64 → List zV → zKn → zKd → zKt → zKc → zO} (h : ∀ x S, zPar (F x S)) : zPar (fun kn kd kt kc => pJ S (fun x S => F x S kn kd kt kc)) := by
  unfold pJ
  split
  · exact h _ _
  · exact par_none
theorem par_pF {S : List zV} {F : UInt32 → List zV → zKn → zKd → zKt → zKc → zO} (h : ∀ x S, zPar (F x S)) : zPar (fun kn kd kt kc => pF S (fun x S => F x S kn kd kt kc)) := by
  unfold pF
  split
  · exact h _ _
  · exact par_none
theorem par_pD {S : List zV} {F : UInt64 → List zV → zKn → zKd → zKt → zKc → zO} (h : ∀ x S, zPar (F x S)) : zPar (fun kn kd kt kc => pD S (fun x S => F x S kn kd kt kc)) := by
  unfold pD
  split
  · exact h _ _
  · exact par_none
theorem par_pR {S : List zV} {F : Option Nat → List zV → zKn → zKd → zKt → zKc → zO} (h : ∀ x S, zPar (F x S)) : zPar (fun kn kd kt kc => pR S (fun x S => F x S kn kd kt kc)) := by
  unfold pR
  split
  · exact h _ _
  · exact par_none
theorem par_p1 {S : List zV} {F : zV → List zV → zKn → zKd → zKt → zKc → zO} (h : ∀ x S, zPar (F x S)) : zPar (fun kn kd kt kc => p1 S (fun x S => F x S kn kd kt kc)) := by
  unfold p1
  split
  · exact par_if par_none (h _ _)
  · exact par_none
theorem par_zlv {L : zL} {n : Nat} {F : zV → zKn → zKd → zKt → zKc → zO} (h : ∀ x, zPar (F x)) : zPar (fun kn kd kt kc => zlv L n (fun x => F x kn kd kt kc)) := by
  unfold zlv
  split
  · exact h _
  · exact par_none
theorem par_zls {x : Option zL} {F : zL → zKn → zKd → zKt → zKc → zO} (h : ∀ x, zPar (F x)) : zPar (fun kn kd kt kc => zls x (fun x => F x kn kd kt kc)) := by
  unfold zls
  split
  · exact h _
  · exact par_none
theorem par_zpop {n : Nat} {S : List zV} {F : List zV → List zV → zKn → zKd → zKt → zKc → zO} (h : ∀ x S, zPar (F x S)) : zPar (fun kn kd kt kc => zpop n S (fun x S => F x S kn kd kt kc)) := par_if (h _ _) par_none
theorem par_zbr {c : Jvm.ClassFile.Cond} {x y : Int} {F G : zKn → zKd → zKt → zKc → zO} (h : zPar F) (g : zPar G) : zPar (fun kn kd kt kc => zbr c x y (F kn kd kt kc) (G kn kd kt kc)) := by
  cases c <;> first | exact par_if h g | exact par_if g h
theorem par_zsw {pc : Nat} {d x : Int} {F : Nat → zKn → zKd → zKt → zKc → zO} (h : ∀ t, zPar (F t)) : ∀ (l : List (Int × Int)), zPar (fun kn kd kt kc => zsw pc d x l (fun t => F t kn kd kt kc))
  | [] => h _
  | _ :: l => par_if (h _) (par_zsw h l)
theorem par_ztab {pc : Nat} {x : Int} {F : Nat → zKn → zKd → zKt → zKc → zO} {G : zKn → zKd → zKt → zKc → zO} (h : ∀ t, zPar (F t)) (g : zPar G) : ∀ (l : List Int) (j : Int), zPar (fun kn kd kt kc => ztab pc x (fun t => F t kn kd kt kc) l j (G kn kd kt kc))
  | [], _ => g
  | _ :: l, _ => par_if (h _) (par_ztab h g l _)
theorem par_zload (L : zL) (S : List zV) (h : zH) (pc n t : Nat) : zPar (fun kn _ _ _ => zload L S h pc n t kn) := by
  refine par_zlv fun v => ?_
  split
  all_goals first | exact par_none | exact par_kn _ _ _ _
theorem par_zstore (L : zL) (S : List zV) (h : zH) (pc n t : Nat) : zPar (fun kn _ _ _ => zstore L S h pc n t kn) := by
  unfold zstore
  split
  · exact par_pI fun _ _ => par_zls fun _ => par_kn _ _ _ _
  · exact par_pJ fun _ _ => par_zls fun _ => par_kn _ _ _ _
  · exact par_pF fun _ _ => par_zls fun _ => par_kn _ _ _ _
  · exact par_pD fun _ _ => par_zls fun _ => par_kn _ _ _ _
  · exact par_pR fun _ _ => par_zls fun _ => par_kn _ _ _ _
theorem par_zget (L : zL) (S : List zV) (h : zH) (pc f : Nat) : zPar (fun kn _ _ _ => zget L S h pc f kn) := by
  unfold zget
  refine par_pR fun _ _ => par_gd (par_gd ?_)
  split
  all_goals first | exact par_none | exact par_kn _ _ _ _
theorem par_zset (L : zL) (S : List zV) (h : zH) (pc f : Nat) : zPar (fun kn _ _ _ => zset L S h pc f kn) := by
  unfold zset
  refine par_gd ?_
  split
  · exact par_pI fun _ _ => par_pR fun _ _ => par_gd (par_kn _ _ _ _)
  · exact par_pI fun _ _ => par_pR fun _ _ => par_gd (par_gd (par_kn _ _ _ _))
  · exact par_pJ fun _ _ => par_pR fun _ _ => par_gd (par_kn _ _ _ _)
  · exact par_pF fun _ _ => par_pR fun _ _ => par_gd (par_kn _ _ _ _)
  · exact par_pD fun _ _ => par_pR fun _ _ => par_gd (par_kn _ _ _ _)
  · exact par_pR fun _ _ => par_pR fun _ _ => par_gd (par_kn _ _ _ _)
  · exact par_pI fun _ _ => par_pR fun _ _ => par_gd (par_gd (par_kn _ _ _ _))
  · exact par_none
theorem par_zcal (m : Nat) (L : zL) (S : List zV) (h : zH) (pc q : Nat) (sp : Bool) : zPar (fun kn _ _ kc => zcal m L S h pc q sp kn kc) := by
  unfold zcal
  refine par_zpop fun as S => par_gd ?_
  split
  · exact par_kc _ _ _ _ _ _
  · split
    · exact par_gd (par_kc _ _ _ _ _ _)
    · exact par_none
theorem par_zinv (m : Nat) (L : zL) (S : List zV) (h : zH) (pc q : Nat) (sp : Bool) : zPar (fun kn _ _ kc => zinv m L S h pc q sp kn kc) := by
  unfold zinv
  refine par_if (par_zcal _ _ _ _ _ _ _) ?_
  split
  · exact par_gd (par_pR fun _ _ => par_gd (par_kn _ _ _ _))
  · exact par_pF fun _ _ => par_gd (par_kn _ _ _ _)
  · exact par_pD fun _ _ => par_gd (par_kn _ _ _ _)
  · exact par_pR fun _ _ => par_gd (par_kn _ _ _ _)
  · exact par_pI fun _ _ => par_pR fun _ _ => par_gd (par_kn _ _ _ _)
  · exact par_pI fun _ _ => par_pR fun _ _ => par_gd (par_kn _ _ _ _)
  · exact par_pI fun _ _ => par_pI fun _ _ => par_pR fun _ _ => par_pR fun _ _ => par_gd (par_kn _ _ _ _)
  · exact par_pR fun _ _ => par_gd (par_kn _ _ _ _)
  · exact par_pR fun _ _ => par_if (par_gd (par_kn _ _ _ _)) (par_zcal _ _ _ _ _ _ _)
  · exact par_pI fun _ _ => par_pR fun _ _ => par_if (par_gd (par_kn _ _ _ _)) (par_zcal _ _ _ _ _ _ _)
  · exact par_pI fun _ _ => par_pI fun _ _ => par_pR fun _ _ => par_pI fun _ _ => par_pR fun _ _ => par_gd (par_kn _ _ _ _)
  · exact par_pR fun _ _ => par_gd (par_kn _ _ _ _)
  · exact par_pI fun _ _ => par_pI fun _ _ => par_gd (par_kn _ _ _ _)
  · exact par_none
set_option maxHeartbeats 4000000 in
theorem par_exe (m pc len : Nat) (i : Instr) (L : zL) (S : List zV) (h : zH) : zPar (fun kn kd kt kc => zExe m pc len i L S h kn kd kt kc) := by
  unfold zExe
  split
  all_goals first
    | exact par_none
    | exact par_kn _ _ _ _
    | exact par_kd _ _
    | exact par_zload _ _ _ _ _ _
    | exact par_zstore _ _ _ _ _ _
    | exact par_gd (par_kn _ _ _ _)
    | exact par_gd (par_kd _ _)
    | exact par_p1 fun _ _ => par_kn _ _ _ _
    | exact par_p1 fun _ _ => par_p1 fun _ _ => par_kn _ _ _ _
    | exact par_pI fun _ _ => par_kn _ _ _ _
    | exact par_pJ fun _ _ => par_kn _ _ _ _
    | exact par_pF fun _ _ => par_kn _ _ _ _
    | exact par_pD fun _ _ => par_kn _ _ _ _
    | exact par_pI fun _ _ => par_gd (par_kd _ _)
    | exact par_pJ fun _ _ => par_gd (par_kd _ _)
    | exact par_pF fun _ _ => par_gd (par_kd _ _)
    | exact par_pD fun _ _ => par_gd (par_kd _ _)
    | exact par_pR fun _ _ => par_gd (par_kd _ _)
    | exact par_pF fun _ _ => par_gd (par_kn _ _ _ _)
    | exact par_pI fun _ _ => par_pI fun _ _ => par_kn _ _ _ _
    | exact par_pI fun _ _ => par_pI fun _ _ => par_gd (par_kn _ _ _ _)
    | exact par_bif (par_pI fun _ _ => par_pI fun _ _ => par_gd (par_kn _ _ _ _)) (par_pI fun _ _ => par_pI fun _ _ => par_kn _ _ _ _)
    | exact par_bif (par_pI fun _ _ => par_pR fun _ _ => par_gd (par_kn _ _ _ _)) (par_pI fun _ _ => par_pR fun _ _ => par_gd (par_kn _ _ _ _))
    | exact par_pR fun _ _ => par_if (par_kn _ _ _ _) (par_kn _ _ _ _)
    | exact par_bif (par_pI fun _ _ => par_gd (par_kd _ _)) (par_pI fun _ _ => par_gd (par_kd _ _))
    | exact par_pJ fun _ _ => par_pJ fun _ _ => par_kn _ _ _ _
    | exact par_pI fun _ _ => par_pJ fun _ _ => par_kn _ _ _ _
    | exact par_pF fun _ _ => par_pF fun _ _ => par_kn _ _ _ _
    | exact par_pF fun _ _ => par_pF fun _ _ => par_gd (par_kn _ _ _ _)
    | exact par_pD fun _ _ => par_pD fun _ _ => par_kn _ _ _ _
    | exact par_pD fun _ _ => par_pD fun _ _ => par_gd (par_kn _ _ _ _)
    | exact par_pI fun _ _ => par_zbr (par_kn _ _ _ _) (par_kn _ _ _ _)
    | exact par_pI fun _ _ => par_pI fun _ _ => par_zbr (par_kn _ _ _ _) (par_kn _ _ _ _)
    | exact par_pI fun _ _ => par_ztab (fun _ => par_kn _ _ _ _) (par_kn _ _ _ _) _ _
    | exact par_pI fun _ _ => par_zsw (fun _ => par_kn _ _ _ _) _
    | exact par_pI fun _ _ => par_pR fun _ _ => par_gd (par_kn _ _ _ _)
    | exact par_pR fun _ _ => par_gd (par_kn _ _ _ _)
    | exact par_pI fun _ _ => par_pI fun _ _ => par_pR fun _ _ => par_gd (par_kn _ _ _ _)
    | exact par_pI fun _ _ => par_pI fun _ _ => par_pR fun _ _ => par_gd (par_gd (par_kn _ _ _ _))
    | exact par_pJ fun _ _ => par_pI fun _ _ => par_pR fun _ _ => par_gd (par_kn _ _ _ _)
    | exact par_pD fun _ _ => par_pI fun _ _ => par_pR fun _ _ => par_gd (par_kn _ _ _ _)
    | exact par_pR fun _ _ => par_pI fun _ _ => par_pR fun _ _ => par_gd (par_kn _ _ _ _)
    | (refine par_zlv fun v => ?_; split <;> first | exact par_none | exact par_gd (par_gd (par_zls fun _ => par_kn _ _ _ _)))
    | (split <;> first | exact par_none | exact par_pR fun _ _ => par_gd (par_kn _ _ _ _) | exact par_if par_none (par_kn _ _ _ _) | exact par_if (par_kn _ _ _ _) par_none | exact par_kn _ _ _ _ | exact par_bif (par_kn _ _ _ _) (par_kn _ _ _ _) | exact par_if (par_gd (par_zinv _ _ _ _ _ _ _)) (par_if (par_gd (par_zinv _ _ _ _ _ _ _)) (par_gd (par_zinv _ _ _ _ _ _ _))) | exact par_zget _ _ _ _ _ | exact par_gd (par_zset _ _ _ _ _) | exact par_zinv _ _ _ _ _ _ _ | exact par_if (par_gd (par_zinv _ _ _ _ _ _ _)) (par_gd (par_zinv _ _ _ _ _ _ _)) | exact par_gd (par_zinv _ _ _ _ _ _ _) | exact par_pI fun _ _ => par_gd (par_if (par_kn _ _ _ _) par_none) | exact par_pI fun _ _ => par_pI fun _ _ => par_gd (par_kn _ _ _ _) | (refine par_if (par_kn _ _ _ _) ?_; split <;> first | exact par_none | exact par_if (par_kt _ _) par_none))
    | (refine par_pI fun _ _ => par_gd ?_; split <;> first | exact par_none | exact par_kn _ _ _ _)
theorem par_stp (m pc : Nat) (L : zL) (S : List zV) (h : zH) : zPar (fun kn kd kt kc => zStp m pc L S h kn kd kt kc) := by
  unfold zStp
  split
  · exact par_exe _ _ _ _ _ _ _
  · exact par_none
theorem stp_ways (m pc : Nat) (L : zL) (S : List zV) (h : zH) : (∀ kn kd kt kc, zStp m pc L S h kn kd kt kc = none) ∨ (∃ pc2 L2 S2 h2, ∀ kn kd kt kc, zStp m pc L S h kn kd kt kc = kn pc2 L2 S2 h2) ∨ (∃ v h2, ∀ kn kd kt kc, zStp m pc L S h kn kd kt kc = kd v h2) ∨ (∃ E h2, ∀ kn kd kt kc, zStp m pc L S h kn kd kt kc = kt E h2) ∨ (∃ q as pc2 L2 S2 h2, ∀ kn kd kt kc, zStp m pc L S h kn kd kt kc = kc q as pc2 L2 S2 h2) := par_stp m pc L S h
abbrev zYT : Type := Nat → Nat → zL → List zV → zH → zO
def zLe (A B : zYT) : Prop := ∀ m pc L S h r, A m pc L S h = some r → B m pc L S h = some r
theorem zBack_mono {A B : zYT} (hAB : zLe A B) {m pcc pc : Nat} {L : zL} {S : List zV} {x y : zO} (hxy : ∀ r, x = some r → y = some r) {r} (h : zBack A m pcc pc L S x = some r) : zBack B m pcc pc L S y = some r := by
  cases x with
  | none => cases h
  | some q =>
    rw [hxy q rfl]
    obtain ⟨o, h'⟩ := q
    cases o with
    | inl v =>
      cases v with
      | none => exact hAB _ _ _ _ _ _ h
      | some v => exact hAB _ _ _ _ _ _ h
    | inr E =>
      simp only [zBack] at h ⊢
      split at h
      · exact h
      · split at h
        · unfold zls at h ⊢
          split at h
          · exact hAB _ _ _ _ _ _ h
          · cases h
        · unfold zls at h ⊢
          split at h
          · exact hAB _ _ _ _ _ _ h
          · cases h
        · cases h
theorem zFun_mono {A B : zYT} (hAB : zLe A B) : zLe (zFun A) (zFun B) := by
  intro m pc L S h r hr
  unfold zFun at hr ⊢
  rcases stp_ways m pc L S h with e | ⟨pc', L', S', h', e⟩ | ⟨v, h', e⟩ | ⟨E, h', e⟩ | ⟨q, as, pc', L', S', h', e⟩
  · rw [e] at hr; cases hr
  · rw [e] at hr ⊢; exact hAB _ _ _ _ _ _ hr
  · rw [e] at hr ⊢; exact hr
  · rw [e] at hr ⊢; exact hr
  · rw [e] at hr ⊢; exact zBack_mono hAB (fun r h => hAB _ _ _ _ _ _ h) hr
theorem zX_mono1 : ∀ n, zLe (zX n) (zX (n + 1))
  | 0 => fun _ _ _ _ _ _ h => by cases h
  | n + 1 => zFun_mono (zX_mono1 n)
theorem zX_mono {n k : Nat} (h : n ≤ k) : zLe (zX n) (zX k) := by
  induction h with
  | refl => exact fun _ _ _ _ _ _ h => h
  | step _ ih => exact fun m pc L S h r hr => zX_mono1 _ m pc L S h r (ih m pc L S h r hr)

/-- what a run comes to -/
noncomputable def zY : zYT := fun m pc L S h => @dite _ (∃ n r, zX n m pc L S h = some r) (Classical.propDecidable _) (fun e => some (Classical.choose (Classical.choose_spec e))) (fun _ => none)
theorem zY_of {n : Nat} {m pc : Nat} {L : zL} {S : List zV} {h : zH} {r} (e : zX n m pc L S h = some r) : zY m pc L S h = some r := by
  have e0 : ∃ n r, zX n m pc L S h = some r := ⟨n, r, e⟩
  unfold zY
  rw [dif_pos e0]
  have h1 := Classical.choose_spec (Classical.choose_spec e0)
  generalize Classical.choose (Classical.choose_spec e0) = r1 at h1 ⊢
  have a := zX_mono (Nat.le_max_left n (Classical.choose e0)) _ _ _ _ _ _ e
  have b := zX_mono (Nat.le_max_right n (Classical.choose e0)) _ _ _ _ _ _ h1
  rw [a] at b
  exact b.symm
theorem zY_ex {m pc : Nat} {L : zL} {S : List zV} {h : zH} {r} (e : zY m pc L S h = some r) : ∃ n, zX n m pc L S h = some r := by
  unfold zY at e
  by_cases e0 : ∃ n r, zX n m pc L S h = some r
  · rw [dif_pos e0] at e
    have h1 := Classical.choose_spec (Classical.choose_spec e0)
    rw [Option.some.inj e] at h1
    exact ⟨_, h1⟩
  · rw [dif_neg e0] at e
    cases e
theorem zX_le (n : Nat) : zLe (zX n) zY := fun _ _ _ _ _ _ h => zY_of h
theorem zY_ge {m pc : Nat} {L : zL} {S : List zV} {h : zH} {r} (hr : zFun zY m pc L S h = some r) : ∃ n, zFun (zX n) m pc L S h = some r := by
  unfold zFun at hr ⊢
  rcases stp_ways m pc L S h with e | ⟨pc', L', S', h', e⟩ | ⟨v, h', e⟩ | ⟨E, h', e⟩ | ⟨q, as, pc', L', S', h', e⟩
  · rw [e] at hr; cases hr
  · rw [e] at hr
    obtain ⟨n, hn⟩ := zY_ex hr
    exact ⟨n, by rw [e]; exact hn⟩
  · rw [e] at hr; exact ⟨0, by rw [e]; exact hr⟩
  · rw [e] at hr; exact ⟨0, by rw [e]; exact hr⟩
  · rw [e] at hr
    cases hc : zY q 0 (zini as (zmaxl q)) [] h' with
    | none => rw [hc] at hr; cases hr
    | some x =>
      rw [hc] at hr
      obtain ⟨n, hn⟩ := zY_ex hc
      suffices hk : ∃ k, zBack (zX k) m pc pc' L' S' (some x) = some r by
        obtain ⟨k, hk⟩ := hk
        refine ⟨max n k, ?_⟩
        rw [e]
        exact zBack_mono (zX_mono (Nat.le_max_right n k)) (fun r h => by cases h; exact zX_mono (Nat.le_max_left n k) _ _ _ _ _ _ hn) hk
      obtain ⟨o, h2⟩ := x
      cases o with
      | inl v =>
        cases v with
        | none => exact zY_ex hr
        | some v => exact zY_ex hr
      | inr E =>
        simp only [zBack] at hr ⊢
        split at hr
        · exact ⟨0, hr⟩
        · split at hr
          · unfold zls at hr ⊢
            split at hr
            · exact zY_ex hr
            · cases hr
          · unfold zls at hr ⊢
            split at hr
            · exact zY_ex hr
            · cases hr
          · cases hr
theorem zY_fun : zY = zFun zY := by
  funext m pc L S h
  cases hr : zFun zY m pc L S h with
  | some r =>
    obtain ⟨n, hn⟩ := zY_ge hr
    exact zY_of (n := n + 1) hn
  | none =>
    cases hy : zY m pc L S h with
    | none => rfl
    | some r =>
      obtain ⟨n, hn⟩ := zY_ex hy
      have h1 := zFun_mono (zX_le n) _ _ _ _ _ _ (zX_mono1 n _ _ _ _ _ _ hn)
      rw [hr] at h1
      cases h1
/-- k steps at once -/
noncomputable def zIt : Nat → zYT
  | 0 => zY
  | n + 1 => zFun (zIt n)
theorem zIt_eq : ∀ k, zIt k = zY
  | 0 => rfl
  | n + 1 => by rw [show zIt (n + 1) = zFun (zIt n) from rfl, zIt_eq n]; exact zY_fun.symm
theorem zGo (k m pc : Nat) (L : zL) (S : List zV) (h : zH) : zY m pc L S h = zIt k m pc L S h := by rw [zIt_eq]
