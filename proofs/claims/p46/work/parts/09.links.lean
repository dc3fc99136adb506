theorem zTk_in (k : Nat) : ∀ w ∈ zTk k, w ∈ lw_tbl := by
  intro w hw
  unfold zTk at hw
  unfold lw_tbl tables_1
  split at hw <;> simp only [List.mem_append] <;> first | (simp only [hw, true_or, or_true]; done) | cases hw
abbrev zinP (w : Cond) (p : Nat) : Prop := (zTk (p / 1000))[p % 1000]? = some w ∧ goodWord w = true
theorem zin_ok {w : Cond} {p : Nat} (h : zinP w p) : w ∈ lw_tbl := zTk_in _ w (List.mem_of_getElem? h.1)
noncomputable def zcw (m : Nat) : Bool := (bif Nat.blt m 213 then (bif Nat.blt m 211 then (bif Nat.blt m 210 then (bif Nat.beq m 208 then true else false) else
   (bif Nat.beq m 210 then true else false)) else
  (bif Nat.blt m 212 then (bif Nat.beq m 211 then true else false) else
   (bif Nat.beq m 212 then true else false))) else
 (bif Nat.blt m 221 then (bif Nat.blt m 214 then (bif Nat.beq m 213 then true else false) else
   (bif Nat.beq m 214 then true else false)) else
  (bif Nat.blt m 222 then (bif Nat.beq m 221 then true else false) else
   (bif Nat.beq m 222 then true else false))))
/-- what the private methods of the class above a StringBuilder select on it -/
def zPrW : List Cond := [.selects "java/lang/StringBuilder" ⟨"java/lang/AbstractStringBuilder", "ensureCapacityInternal", "(I)V"⟩ ⟨"java/lang/AbstractStringBuilder", "ensureCapacityInternal", "(I)V"⟩, .selects "java/lang/StringBuilder" ⟨"java/lang/AbstractStringBuilder", "newCapacity", "(I)I"⟩ ⟨"java/lang/AbstractStringBuilder", "newCapacity", "(I)I"⟩, .selects "java/lang/StringBuilder" ⟨"java/lang/AbstractStringBuilder", "putStringAt", "(ILjava/lang/String;)V"⟩ ⟨"java/lang/AbstractStringBuilder", "putStringAt", "(ILjava/lang/String;)V"⟩, .selects "java/lang/StringBuilder" ⟨"java/lang/AbstractStringBuilder", "inflateIfNeededFor", "(Ljava/lang/String;)V"⟩ ⟨"java/lang/AbstractStringBuilder", "inflateIfNeededFor", "(Ljava/lang/String;)V"⟩]
noncomputable def zovr (m : Nat) : Bool := (bif Nat.blt m 205 then (bif Nat.beq m 148 then true else false) else
 (bif Nat.beq m 205 then true else false))
noncomputable def zword (m : Nat) : Cond := bif zcw m then .codeWith (zy m) (zbytes m) (zmaxl m) (zret m) (zhh m) else .code (zy m) (zbytes m) (zmaxl m) (zret m)
noncomputable abbrev zMok (m : Nat) : Prop := zinP (zword m) (zpC m) ∧ zinP (bif Nat.beq (zrecv m) 0 then .static (zy m) else .instanceMethod (zy m)) (zpI m) ∧ ((zrecv m = 0 ∨ zspc m = true ∨ zovr m = true) ∨ zinP (.selects (zvn (zrecv m - 1)) (zy m) (zy m)) (zpS m) ∨ (.selects (zvn (zrecv m - 1)) (zy m) (zy m)) ∈ zPrW) ∧ zinP (.initialized (zcn (zown m))) (zpN (zown m))
theorem tr_n {α : Type} {b : Bool} {A B : Option α} {r : α} {P : Prop} (h1 : A = some r → P) (h2 : B = some r → P) : (bif b then A else B) = some r → P := by
  cases b <;> assumption
theorem tr_g {α : Type} {i k : Nat} {A : Option α} {r : α} {P : Prop} (h1 : i < k → A = some r → P) : (bif Nat.blt i k then A else none) = some r → P := by
  intro h
  cases hb : Nat.blt i k with
  | true => rw [hb] at h; exact h1 (Nat.ble_eq.mp hb) h
  | false => rw [hb] at h; cases h
theorem tr_l {α : Type} {P : Nat → α → Prop} {i k : Nat} {v r : α} (h : P k v) : (bif Nat.beq i k then some v else none) = some r → P i r := by
  intro e
  cases hb : Nat.beq i k with
  | true =>
    rw [hb] at e
    rw [Nat.eq_of_beq_eq_true hb, ← Option.some.inj e]
    exact h
  | false => rw [hb] at e; cases e
theorem tr_k {α : Type} {i k : Nat} {A : Option α} {r : α} {P : Nat → Prop} (h1 : A = some r → P k) : (bif Nat.beq i k then A else none) = some r → P i := by
  intro e
  cases hb : Nat.beq i k with
  | true =>
    rw [hb] at e
    rw [Nat.eq_of_beq_eq_true hb]
    exact h1 e
  | false => rw [hb] at e; cases e
set_option maxRecDepth 100000 in
theorem zM_0 : zMok 0 := ⟨⟨rfl, rfl⟩, ⟨rfl, rfl⟩, Or.inl (Or.inr (Or.inl rfl)), ⟨rfl, rfl⟩⟩
set_option maxRecDepth 100000 in
theorem zM_1 : zMok 1 := ⟨⟨rfl, rfl⟩, ⟨rfl, rfl⟩, Or.inr (Or.inl ⟨rfl, rfl⟩), ⟨rfl, rfl⟩⟩
set_option maxRecDepth 100000 in
theorem zM_2 : zMok 2 := ⟨⟨rfl, rfl⟩, ⟨rfl, rfl⟩, Or.inr (Or.inl ⟨rfl, rfl⟩), ⟨rfl, rfl⟩⟩
set_option maxRecDepth 100000 in
theorem zM_3 : zMok 3 := ⟨⟨rfl, rfl⟩, ⟨rfl, rfl⟩, Or.inr (Or.inl ⟨rfl, rfl⟩), ⟨rfl, rfl⟩⟩
set_option maxRecDepth 100000 in
theorem zM_4 : zMok 4 := ⟨⟨rfl, rfl⟩, ⟨rfl, rfl⟩, Or.inr (Or.inl ⟨rfl, rfl⟩), ⟨rfl, rfl⟩⟩
set_option maxRecDepth 100000 in
theorem zM_5 : zMok 5 := ⟨⟨rfl, rfl⟩, ⟨rfl, rfl⟩, Or.inr (Or.inl ⟨rfl, rfl⟩), ⟨rfl, rfl⟩⟩
set_option maxRecDepth 100000 in
theorem zM_6 : zMok 6 := ⟨⟨rfl, rfl⟩, ⟨rfl, rfl⟩, Or.inr (Or.inl ⟨rfl, rfl⟩), ⟨rfl, rfl⟩⟩
set_option maxRecDepth 100000 in
theorem zM_7 : zMok 7 := ⟨⟨rfl, rfl⟩, ⟨rfl, rfl⟩, Or.inr (Or.inl ⟨rfl, rfl⟩), ⟨rfl, rfl⟩⟩
set_option maxRecDepth 100000 in
theorem zM_8 : zMok 8 := ⟨⟨rfl, rfl⟩, ⟨rfl, rfl⟩, Or.inr (Or.inl ⟨rfl, rfl⟩), ⟨rfl, rfl⟩⟩
set_option maxRecDepth 100000 in
theorem zM_9 : zMok 9 := ⟨⟨rfl, rfl⟩, ⟨rfl, rfl⟩, Or.inr (Or.inl ⟨rfl, rfl⟩), ⟨rfl, rfl⟩⟩
set_option maxRecDepth 100000 in
theorem zM_10 : zMok 10 := ⟨⟨rfl, rfl⟩, ⟨rfl, rfl⟩, Or.inr (Or.inl ⟨rfl, rfl⟩), ⟨rfl, rfl⟩⟩
set_option maxRecDepth 100000 in
theorem zM_11 : zMok 11 := ⟨⟨rfl, rfl⟩, ⟨rfl, rfl⟩, Or.inr (Or.inl ⟨rfl, rfl⟩), ⟨rfl, rfl⟩⟩
set_option maxRecDepth 100000 in
theorem zM_12 : zMok 12 := ⟨⟨rfl, rfl⟩, ⟨rfl, rfl⟩, Or.inr (Or.inl ⟨rfl, rfl⟩), ⟨rfl, rfl⟩⟩
set_option maxRecDepth 100000 in
theorem zM_13 : zMok 13 := ⟨⟨rfl, rfl⟩, ⟨rfl, rfl⟩, Or.inl (Or.inr (Or.inl rfl)), ⟨rfl, rfl⟩⟩
set_option maxRecDepth 100000 in
theorem zM_14 : zMok 14 := ⟨⟨rfl, rfl⟩, ⟨rfl, rfl⟩, Or.inr (Or.inl ⟨rfl, rfl⟩), ⟨rfl, rfl⟩⟩
set_option maxRecDepth 100000 in
theorem zM_15 : zMok 15 := ⟨⟨rfl, rfl⟩, ⟨rfl, rfl⟩, Or.inl (Or.inr (Or.inl rfl)), ⟨rfl, rfl⟩⟩
set_option maxRecDepth 100000 in
theorem zM_16 : zMok 16 := ⟨⟨rfl, rfl⟩, ⟨rfl, rfl⟩, Or.inr (Or.inl ⟨rfl, rfl⟩), ⟨rfl, rfl⟩⟩
set_option maxRecDepth 100000 in
theorem zM_17 : zMok 17 := ⟨⟨rfl, rfl⟩, ⟨rfl, rfl⟩, Or.inr (Or.inl ⟨rfl, rfl⟩), ⟨rfl, rfl⟩⟩
set_option maxRecDepth 100000 in
theorem zM_18 : zMok 18 := ⟨⟨rfl, rfl⟩, ⟨rfl, rfl⟩, Or.inr (Or.inl ⟨rfl, rfl⟩), ⟨rfl, rfl⟩⟩
set_option maxRecDepth 100000 in
theorem zM_19 : zMok 19 := ⟨⟨rfl, rfl⟩, ⟨rfl, rfl⟩, Or.inr (Or.inl ⟨rfl, rfl⟩), ⟨rfl, rfl⟩⟩
set_option maxRecDepth 100000 in
theorem zM_20 : zMok 20 := ⟨⟨rfl, rfl⟩, ⟨rfl, rfl⟩, Or.inr (Or.inl ⟨rfl, rfl⟩), ⟨rfl, rfl⟩⟩
set_option maxRecDepth 100000 in
theorem zM_21 : zMok 21 := ⟨⟨rfl, rfl⟩, ⟨rfl, rfl⟩, Or.inr (Or.inl ⟨rfl, rfl⟩), ⟨rfl, rfl⟩⟩
set_option maxRecDepth 100000 in
theorem zM_22 : zMok 22 := ⟨⟨rfl, rfl⟩, ⟨rfl, rfl⟩, Or.inr (Or.inl ⟨rfl, rfl⟩), ⟨rfl, rfl⟩⟩
set_option maxRecDepth 100000 in
theorem zM_23 : zMok 23 := ⟨⟨rfl, rfl⟩, ⟨rfl, rfl⟩, Or.inl (Or.inr (Or.inl rfl)), ⟨rfl, rfl⟩⟩
set_option maxRecDepth 100000 in
theorem zM_24 : zMok 24 := ⟨⟨rfl, rfl⟩, ⟨rfl, rfl⟩, Or.inr (Or.inl ⟨rfl, rfl⟩), ⟨rfl, rfl⟩⟩
set_option maxRecDepth 100000 in
theorem zM_25 : zMok 25 := ⟨⟨rfl, rfl⟩, ⟨rfl, rfl⟩, Or.inr (Or.inl ⟨rfl, rfl⟩), ⟨rfl, rfl⟩⟩
set_option maxRecDepth 100000 in
theorem zM_26 : zMok 26 := ⟨⟨rfl, rfl⟩, ⟨rfl, rfl⟩, Or.inr (Or.inl ⟨rfl, rfl⟩), ⟨rfl, rfl⟩⟩
set_option maxRecDepth 100000 in
theorem zM_27 : zMok 27 := ⟨⟨rfl, rfl⟩, ⟨rfl, rfl⟩, Or.inr (Or.inl ⟨rfl, rfl⟩), ⟨rfl, rfl⟩⟩
set_option maxRecDepth 100000 in
theorem zM_28 : zMok 28 := ⟨⟨rfl, rfl⟩, ⟨rfl, rfl⟩, Or.inr (Or.inl ⟨rfl, rfl⟩), ⟨rfl, rfl⟩⟩
set_option maxRecDepth 100000 in
theorem zM_29 : zMok 29 := ⟨⟨rfl, rfl⟩, ⟨rfl, rfl⟩, Or.inr (Or.inl ⟨rfl, rfl⟩), ⟨rfl, rfl⟩⟩
set_option maxRecDepth 100000 in
theorem zM_30 : zMok 30 := ⟨⟨rfl, rfl⟩, ⟨rfl, rfl⟩, Or.inr (Or.inl ⟨rfl, rfl⟩), ⟨rfl, rfl⟩⟩
set_option maxRecDepth 100000 in
theorem zM_31 : zMok 31 := ⟨⟨rfl, rfl⟩, ⟨rfl, rfl⟩, Or.inr (Or.inl ⟨rfl, rfl⟩), ⟨rfl, rfl⟩⟩
set_option maxRecDepth 100000 in
theorem zM_32 : zMok 32 := ⟨⟨rfl, rfl⟩, ⟨rfl, rfl⟩, Or.inr (Or.inl ⟨rfl, rfl⟩), ⟨rfl, rfl⟩⟩
set_option maxRecDepth 100000 in
theorem zM_33 : zMok 33 := ⟨⟨rfl, rfl⟩, ⟨rfl, rfl⟩, Or.inr (Or.inl ⟨rfl, rfl⟩), ⟨rfl, rfl⟩⟩
set_option maxRecDepth 100000 in
theorem zM_34 : zMok 34 := ⟨⟨rfl, rfl⟩, ⟨rfl, rfl⟩, Or.inr (Or.inl ⟨rfl, rfl⟩), ⟨rfl, rfl⟩⟩
set_option maxRecDepth 100000 in
theorem zM_35 : zMok 35 := ⟨⟨rfl, rfl⟩, ⟨rfl, rfl⟩, Or.inl (Or.inr (Or.inl rfl)), ⟨rfl, rfl⟩⟩
set_option maxRecDepth 100000 in
theorem zM_36 : zMok 36 := ⟨⟨rfl, rfl⟩, ⟨rfl, rfl⟩, Or.inr (Or.inl ⟨rfl, rfl⟩), ⟨rfl, rfl⟩⟩
set_option maxRecDepth 100000 in
theorem zM_37 : zMok 37 := ⟨⟨rfl, rfl⟩, ⟨rfl, rfl⟩, Or.inr (Or.inl ⟨rfl, rfl⟩), ⟨rfl, rfl⟩⟩
set_option maxRecDepth 100000 in
theorem zM_38 : zMok 38 := ⟨⟨rfl, rfl⟩, ⟨rfl, rfl⟩, Or.inr (Or.inl ⟨rfl, rfl⟩), ⟨rfl, rfl⟩⟩
set_option maxRecDepth 100000 in
theorem zM_39 : zMok 39 := ⟨⟨rfl, rfl⟩, ⟨rfl, rfl⟩, Or.inr (Or.inl ⟨rfl, rfl⟩), ⟨rfl, rfl⟩⟩
set_option maxRecDepth 100000 in
theorem zM_40 : zMok 40 := ⟨⟨rfl, rfl⟩, ⟨rfl, rfl⟩, Or.inr (Or.inl ⟨rfl, rfl⟩), ⟨rfl, rfl⟩⟩
set_option maxRecDepth 100000 in
theorem zM_41 : zMok 41 := ⟨⟨rfl, rfl⟩, ⟨rfl, rfl⟩, Or.inr (Or.inl ⟨rfl, rfl⟩), ⟨rfl, rfl⟩⟩
set_option maxRecDepth 100000 in
theorem zM_42 : zMok 42 := ⟨⟨rfl, rfl⟩, ⟨rfl, rfl⟩, Or.inr (Or.inl ⟨rfl, rfl⟩), ⟨rfl, rfl⟩⟩
set_option maxRecDepth 100000 in
theorem zM_43 : zMok 43 := ⟨⟨rfl, rfl⟩, ⟨rfl, rfl⟩, Or.inr (Or.inl ⟨rfl, rfl⟩), ⟨rfl, rfl⟩⟩
set_option maxRecDepth 100000 in
theorem zM_44 : zMok 44 := ⟨⟨rfl, rfl⟩, ⟨rfl, rfl⟩, Or.inr (Or.inl ⟨rfl, rfl⟩), ⟨rfl, rfl⟩⟩
set_option maxRecDepth 100000 in
theorem zM_45 : zMok 45 := ⟨⟨rfl, rfl⟩, ⟨rfl, rfl⟩, Or.inr (Or.inl ⟨rfl, rfl⟩), ⟨rfl, rfl⟩⟩
set_option maxRecDepth 100000 in
theorem zM_46 : zMok 46 := ⟨⟨rfl, rfl⟩, ⟨rfl, rfl⟩, Or.inr (Or.inl ⟨rfl, rfl⟩), ⟨rfl, rfl⟩⟩
set_option maxRecDepth 100000 in
theorem zM_47 : zMok 47 := ⟨⟨rfl, rfl⟩, ⟨rfl, rfl⟩, Or.inr (Or.inl ⟨rfl, rfl⟩), ⟨rfl, rfl⟩⟩
set_option maxRecDepth 100000 in
theorem zM_48 : zMok 48 := ⟨⟨rfl, rfl⟩, ⟨rfl, rfl⟩, Or.inr (Or.inl ⟨rfl, rfl⟩), ⟨rfl, rfl⟩⟩
set_option maxRecDepth 100000 in
theorem zM_49 : zMok 49 := ⟨⟨rfl, rfl⟩, ⟨rfl, rfl⟩, Or.inr (Or.inl ⟨rfl, rfl⟩), ⟨rfl, rfl⟩⟩
set_option maxRecDepth 100000 in
theorem zM_50 : zMok 50 := ⟨⟨rfl, rfl⟩, ⟨rfl, rfl⟩, Or.inr (Or.inl ⟨rfl, rfl⟩), ⟨rfl, rfl⟩⟩
set_option maxRecDepth 100000 in
theorem zM_51 : zMok 51 := ⟨⟨rfl, rfl⟩, ⟨rfl, rfl⟩, Or.inr (Or.inl ⟨rfl, rfl⟩), ⟨rfl, rfl⟩⟩
set_option maxRecDepth 100000 in
theorem zM_52 : zMok 52 := ⟨⟨rfl, rfl⟩, ⟨rfl, rfl⟩, Or.inr (Or.inl ⟨rfl, rfl⟩), ⟨rfl, rfl⟩⟩
set_option maxRecDepth 100000 in
theorem zM_53 : zMok 53 := ⟨⟨rfl, rfl⟩, ⟨rfl, rfl⟩, Or.inr (Or.inl ⟨rfl, rfl⟩), ⟨rfl, rfl⟩⟩
set_option maxRecDepth 100000 in
theorem zM_54 : zMok 54 := ⟨⟨rfl, rfl⟩, ⟨rfl, rfl⟩, Or.inr (Or.inl ⟨rfl, rfl⟩), ⟨rfl, rfl⟩⟩
set_option maxRecDepth 100000 in
theorem zM_55 : zMok 55 := ⟨⟨rfl, rfl⟩, ⟨rfl, rfl⟩, Or.inr (Or.inl ⟨rfl, rfl⟩), ⟨rfl, rfl⟩⟩
set_option maxRecDepth 100000 in
theorem zM_56 : zMok 56 := ⟨⟨rfl, rfl⟩, ⟨rfl, rfl⟩, Or.inr (Or.inl ⟨rfl, rfl⟩), ⟨rfl, rfl⟩⟩
set_option maxRecDepth 100000 in
theorem zM_57 : zMok 57 := ⟨⟨rfl, rfl⟩, ⟨rfl, rfl⟩, Or.inl (Or.inr (Or.inl rfl)), ⟨rfl, rfl⟩⟩
set_option maxRecDepth 100000 in
theorem zM_58 : zMok 58 := ⟨⟨rfl, rfl⟩, ⟨rfl, rfl⟩, Or.inr (Or.inl ⟨rfl, rfl⟩), ⟨rfl, rfl⟩⟩
set_option maxRecDepth 100000 in
theorem zM_59 : zMok 59 := ⟨⟨rfl, rfl⟩, ⟨rfl, rfl⟩, Or.inr (Or.inl ⟨rfl, rfl⟩), ⟨rfl, rfl⟩⟩
set_option maxRecDepth 100000 in
theorem zM_60 : zMok 60 := ⟨⟨rfl, rfl⟩, ⟨rfl, rfl⟩, Or.inr (Or.inl ⟨rfl, rfl⟩), ⟨rfl, rfl⟩⟩
set_option maxRecDepth 100000 in
theorem zM_61 : zMok 61 := ⟨⟨rfl, rfl⟩, ⟨rfl, rfl⟩, Or.inr (Or.inl ⟨rfl, rfl⟩), ⟨rfl, rfl⟩⟩
set_option maxRecDepth 100000 in
theorem zM_62 : zMok 62 := ⟨⟨rfl, rfl⟩, ⟨rfl, rfl⟩, Or.inr (Or.inl ⟨rfl, rfl⟩), ⟨rfl, rfl⟩⟩
set_option maxRecDepth 100000 in
theorem zM_63 : zMok 63 := ⟨⟨rfl, rfl⟩, ⟨rfl, rfl⟩, Or.inr (Or.inl ⟨rfl, rfl⟩), ⟨rfl, rfl⟩⟩
set_option maxRecDepth 100000 in
theorem zM_64 : zMok 64 := ⟨⟨rfl, rfl⟩, ⟨rfl, rfl⟩, Or.inr (Or.inl ⟨rfl, rfl⟩), ⟨rfl, rfl⟩⟩
set_option maxRecDepth 100000 in
theorem zM_65 : zMok 65 := ⟨⟨rfl, rfl⟩, ⟨rfl, rfl⟩, Or.inr (Or.inl ⟨rfl, rfl⟩), ⟨rfl, rfl⟩⟩
set_option maxRecDepth 100000 in
theorem zM_66 : zMok 66 := ⟨⟨rfl, rfl⟩, ⟨rfl, rfl⟩, Or.inr (Or.inl ⟨rfl, rfl⟩), ⟨rfl, rfl⟩⟩
set_option maxRecDepth 100000 in
theorem zM_67 : zMok 67 := ⟨⟨rfl, rfl⟩, ⟨rfl, rfl⟩, Or.inr (Or.inl ⟨rfl, rfl⟩), ⟨rfl, rfl⟩⟩
set_option maxRecDepth 100000 in
theorem zM_68 : zMok 68 := ⟨⟨rfl, rfl⟩, ⟨rfl, rfl⟩, Or.inr (Or.inl ⟨rfl, rfl⟩), ⟨rfl, rfl⟩⟩
set_option maxRecDepth 100000 in
theorem zM_69 : zMok 69 := ⟨⟨rfl, rfl⟩, ⟨rfl, rfl⟩, Or.inr (Or.inl ⟨rfl, rfl⟩), ⟨rfl, rfl⟩⟩
set_option maxRecDepth 100000 in
theorem zM_70 : zMok 70 := ⟨⟨rfl, rfl⟩, ⟨rfl, rfl⟩, Or.inr (Or.inl ⟨rfl, rfl⟩), ⟨rfl, rfl⟩⟩
set_option maxRecDepth 100000 in
theorem zM_71 : zMok 71 := ⟨⟨rfl, rfl⟩, ⟨rfl, rfl⟩, Or.inr (Or.inl ⟨rfl, rfl⟩), ⟨rfl, rfl⟩⟩
set_option maxRecDepth 100000 in
theorem zM_72 : zMok 72 := ⟨⟨rfl, rfl⟩, ⟨rfl, rfl⟩, Or.inr (Or.inl ⟨rfl, rfl⟩), ⟨rfl, rfl⟩⟩
set_option maxRecDepth 100000 in
theorem zM_73 : zMok 73 := ⟨⟨rfl, rfl⟩, ⟨rfl, rfl⟩, Or.inr (Or.inl ⟨rfl, rfl⟩), ⟨rfl, rfl⟩⟩
set_option maxRecDepth 100000 in
theorem zM_74 : zMok 74 := ⟨⟨rfl, rfl⟩, ⟨rfl, rfl⟩, Or.inl (Or.inl rfl), ⟨rfl, rfl⟩⟩
set_option maxRecDepth 100000 in
theorem zM_75 : zMok 75 := ⟨⟨rfl, rfl⟩, ⟨rfl, rfl⟩, Or.inr (Or.inl ⟨rfl, rfl⟩), ⟨rfl, rfl⟩⟩
set_option maxRecDepth 100000 in
theorem zM_76 : zMok 76 := ⟨⟨rfl, rfl⟩, ⟨rfl, rfl⟩, Or.inr (Or.inl ⟨rfl, rfl⟩), ⟨rfl, rfl⟩⟩
set_option maxRecDepth 100000 in
theorem zM_77 : zMok 77 := ⟨⟨rfl, rfl⟩, ⟨rfl, rfl⟩, Or.inl (Or.inl rfl), ⟨rfl, rfl⟩⟩
set_option maxRecDepth 100000 in
theorem zM_78 : zMok 78 := ⟨⟨rfl, rfl⟩, ⟨rfl, rfl⟩, Or.inr (Or.inl ⟨rfl, rfl⟩), ⟨rfl, rfl⟩⟩
set_option maxRecDepth 100000 in
theorem zM_79 : zMok 79 := ⟨⟨rfl, rfl⟩, ⟨rfl, rfl⟩, Or.inr (Or.inl ⟨rfl, rfl⟩), ⟨rfl, rfl⟩⟩
set_option maxRecDepth 100000 in
theorem zM_80 : zMok 80 := ⟨⟨rfl, rfl⟩, ⟨rfl, rfl⟩, Or.inl (Or.inr (Or.inl rfl)), ⟨rfl, rfl⟩⟩
set_option maxRecDepth 100000 in
theorem zM_81 : zMok 81 := ⟨⟨rfl, rfl⟩, ⟨rfl, rfl⟩, Or.inl (Or.inr (Or.inl rfl)), ⟨rfl, rfl⟩⟩
set_option maxRecDepth 100000 in
theorem zM_82 : zMok 82 := ⟨⟨rfl, rfl⟩, ⟨rfl, rfl⟩, Or.inr (Or.inl ⟨rfl, rfl⟩), ⟨rfl, rfl⟩⟩
set_option maxRecDepth 100000 in
theorem zM_83 : zMok 83 := ⟨⟨rfl, rfl⟩, ⟨rfl, rfl⟩, Or.inr (Or.inl ⟨rfl, rfl⟩), ⟨rfl, rfl⟩⟩
set_option maxRecDepth 100000 in
theorem zM_84 : zMok 84 := ⟨⟨rfl, rfl⟩, ⟨rfl, rfl⟩, Or.inr (Or.inl ⟨rfl, rfl⟩), ⟨rfl, rfl⟩⟩
set_option maxRecDepth 100000 in
theorem zM_85 : zMok 85 := ⟨⟨rfl, rfl⟩, ⟨rfl, rfl⟩, Or.inr (Or.inl ⟨rfl, rfl⟩), ⟨rfl, rfl⟩⟩
set_option maxRecDepth 100000 in
theorem zM_86 : zMok 86 := ⟨⟨rfl, rfl⟩, ⟨rfl, rfl⟩, Or.inl (Or.inl rfl), ⟨rfl, rfl⟩⟩
set_option maxRecDepth 100000 in
theorem zM_87 : zMok 87 := ⟨⟨rfl, rfl⟩, ⟨rfl, rfl⟩, Or.inr (Or.inl ⟨rfl, rfl⟩), ⟨rfl, rfl⟩⟩
set_option maxRecDepth 100000 in
theorem zM_88 : zMok 88 := ⟨⟨rfl, rfl⟩, ⟨rfl, rfl⟩, Or.inl (Or.inl rfl), ⟨rfl, rfl⟩⟩
set_option maxRecDepth 100000 in
theorem zM_89 : zMok 89 := ⟨⟨rfl, rfl⟩, ⟨rfl, rfl⟩, Or.inr (Or.inl ⟨rfl, rfl⟩), ⟨rfl, rfl⟩⟩
set_option maxRecDepth 100000 in
theorem zM_90 : zMok 90 := ⟨⟨rfl, rfl⟩, ⟨rfl, rfl⟩, Or.inr (Or.inl ⟨rfl, rfl⟩), ⟨rfl, rfl⟩⟩
set_option maxRecDepth 100000 in
theorem zM_91 : zMok 91 := ⟨⟨rfl, rfl⟩, ⟨rfl, rfl⟩, Or.inr (Or.inl ⟨rfl, rfl⟩), ⟨rfl, rfl⟩⟩
set_option maxRecDepth 100000 in
theorem zM_92 : zMok 92 := ⟨⟨rfl, rfl⟩, ⟨rfl, rfl⟩, Or.inl (Or.inr (Or.inl rfl)), ⟨rfl, rfl⟩⟩
set_option maxRecDepth 100000 in
theorem zM_93 : zMok 93 := ⟨⟨rfl, rfl⟩, ⟨rfl, rfl⟩, Or.inl (Or.inl rfl), ⟨rfl, rfl⟩⟩
set_option maxRecDepth 100000 in
theorem zM_94 : zMok 94 := ⟨⟨rfl, rfl⟩, ⟨rfl, rfl⟩, Or.inr (Or.inl ⟨rfl, rfl⟩), ⟨rfl, rfl⟩⟩
set_option maxRecDepth 100000 in
theorem zM_95 : zMok 95 := ⟨⟨rfl, rfl⟩, ⟨rfl, rfl⟩, Or.inr (Or.inl ⟨rfl, rfl⟩), ⟨rfl, rfl⟩⟩
set_option maxRecDepth 100000 in
theorem zM_96 : zMok 96 := ⟨⟨rfl, rfl⟩, ⟨rfl, rfl⟩, Or.inr (Or.inl ⟨rfl, rfl⟩), ⟨rfl, rfl⟩⟩
set_option maxRecDepth 100000 in
theorem zM_97 : zMok 97 := ⟨⟨rfl, rfl⟩, ⟨rfl, rfl⟩, Or.inr (Or.inl ⟨rfl, rfl⟩), ⟨rfl, rfl⟩⟩
set_option maxRecDepth 100000 in
theorem zM_98 : zMok 98 := ⟨⟨rfl, rfl⟩, ⟨rfl, rfl⟩, Or.inr (Or.inl ⟨rfl, rfl⟩), ⟨rfl, rfl⟩⟩
set_option maxRecDepth 100000 in
theorem zM_99 : zMok 99 := ⟨⟨rfl, rfl⟩, ⟨rfl, rfl⟩, Or.inr (Or.inl ⟨rfl, rfl⟩), ⟨rfl, rfl⟩⟩
set_option maxRecDepth 100000 in
theorem zM_100 : zMok 100 := ⟨⟨rfl, rfl⟩, ⟨rfl, rfl⟩, Or.inr (Or.inl ⟨rfl, rfl⟩), ⟨rfl, rfl⟩⟩
set_option maxRecDepth 100000 in
theorem zM_101 : zMok 101 := ⟨⟨rfl, rfl⟩, ⟨rfl, rfl⟩, Or.inr (Or.inl ⟨rfl, rfl⟩), ⟨rfl, rfl⟩⟩
set_option maxRecDepth 100000 in
theorem zM_102 : zMok 102 := ⟨⟨rfl, rfl⟩, ⟨rfl, rfl⟩, Or.inr (Or.inl ⟨rfl, rfl⟩), ⟨rfl, rfl⟩⟩
set_option maxRecDepth 100000 in
theorem zM_103 : zMok 103 := ⟨⟨rfl, rfl⟩, ⟨rfl, rfl⟩, Or.inr (Or.inl ⟨rfl, rfl⟩), ⟨rfl, rfl⟩⟩
set_option maxRecDepth 100000 in
theorem zM_104 : zMok 104 := ⟨⟨rfl, rfl⟩, ⟨rfl, rfl⟩, Or.inl (Or.inl rfl), ⟨rfl, rfl⟩⟩
set_option maxRecDepth 100000 in
theorem zM_105 : zMok 105 := ⟨⟨rfl, rfl⟩, ⟨rfl, rfl⟩, Or.inr (Or.inl ⟨rfl, rfl⟩), ⟨rfl, rfl⟩⟩
set_option maxRecDepth 100000 in
theorem zM_106 : zMok 106 := ⟨⟨rfl, rfl⟩, ⟨rfl, rfl⟩, Or.inl (Or.inl rfl), ⟨rfl, rfl⟩⟩
set_option maxRecDepth 100000 in
theorem zM_107 : zMok 107 := ⟨⟨rfl, rfl⟩, ⟨rfl, rfl⟩, Or.inr (Or.inl ⟨rfl, rfl⟩), ⟨rfl, rfl⟩⟩
set_option maxRecDepth 100000 in
theorem zM_108 : zMok 108 := ⟨⟨rfl, rfl⟩, ⟨rfl, rfl⟩, Or.inr (Or.inl ⟨rfl, rfl⟩), ⟨rfl, rfl⟩⟩
set_option maxRecDepth 100000 in
theorem zM_109 : zMok 109 := ⟨⟨rfl, rfl⟩, ⟨rfl, rfl⟩, Or.inr (Or.inl ⟨rfl, rfl⟩), ⟨rfl, rfl⟩⟩
set_option maxRecDepth 100000 in
theorem zM_110 : zMok 110 := ⟨⟨rfl, rfl⟩, ⟨rfl, rfl⟩, Or.inl (Or.inl rfl), ⟨rfl, rfl⟩⟩
set_option maxRecDepth 100000 in
theorem zM_111 : zMok 111 := ⟨⟨rfl, rfl⟩, ⟨rfl, rfl⟩, Or.inr (Or.inl ⟨rfl, rfl⟩), ⟨rfl, rfl⟩⟩
set_option maxRecDepth 100000 in
theorem zM_112 : zMok 112 := ⟨⟨rfl, rfl⟩, ⟨rfl, rfl⟩, Or.inr (Or.inl ⟨rfl, rfl⟩), ⟨rfl, rfl⟩⟩
set_option maxRecDepth 100000 in
theorem zM_113 : zMok 113 := ⟨⟨rfl, rfl⟩, ⟨rfl, rfl⟩, Or.inl (Or.inr (Or.inl rfl)), ⟨rfl, rfl⟩⟩
set_option maxRecDepth 100000 in
theorem zM_114 : zMok 114 := ⟨⟨rfl, rfl⟩, ⟨rfl, rfl⟩, Or.inr (Or.inl ⟨rfl, rfl⟩), ⟨rfl, rfl⟩⟩
set_option maxRecDepth 100000 in
theorem zM_115 : zMok 115 := ⟨⟨rfl, rfl⟩, ⟨rfl, rfl⟩, Or.inr (Or.inl ⟨rfl, rfl⟩), ⟨rfl, rfl⟩⟩
set_option maxRecDepth 100000 in
theorem zM_116 : zMok 116 := ⟨⟨rfl, rfl⟩, ⟨rfl, rfl⟩, Or.inr (Or.inl ⟨rfl, rfl⟩), ⟨rfl, rfl⟩⟩
set_option maxRecDepth 100000 in
theorem zM_117 : zMok 117 := ⟨⟨rfl, rfl⟩, ⟨rfl, rfl⟩, Or.inr (Or.inl ⟨rfl, rfl⟩), ⟨rfl, rfl⟩⟩
set_option maxRecDepth 100000 in
theorem zM_118 : zMok 118 := ⟨⟨rfl, rfl⟩, ⟨rfl, rfl⟩, Or.inr (Or.inl ⟨rfl, rfl⟩), ⟨rfl, rfl⟩⟩
set_option maxRecDepth 100000 in
theorem zM_119 : zMok 119 := ⟨⟨rfl, rfl⟩, ⟨rfl, rfl⟩, Or.inr (Or.inl ⟨rfl, rfl⟩), ⟨rfl, rfl⟩⟩
set_option maxRecDepth 100000 in
theorem zM_120 : zMok 120 := ⟨⟨rfl, rfl⟩, ⟨rfl, rfl⟩, Or.inl (Or.inl rfl), ⟨rfl, rfl⟩⟩
set_option maxRecDepth 100000 in
theorem zM_121 : zMok 121 := ⟨⟨rfl, rfl⟩, ⟨rfl, rfl⟩, Or.inr (Or.inl ⟨rfl, rfl⟩), ⟨rfl, rfl⟩⟩
set_option maxRecDepth 100000 in
theorem zM_122 : zMok 122 := ⟨⟨rfl, rfl⟩, ⟨rfl, rfl⟩, Or.inr (Or.inl ⟨rfl, rfl⟩), ⟨rfl, rfl⟩⟩
set_option maxRecDepth 100000 in
theorem zM_123 : zMok 123 := ⟨⟨rfl, rfl⟩, ⟨rfl, rfl⟩, Or.inr (Or.inl ⟨rfl, rfl⟩), ⟨rfl, rfl⟩⟩
set_option maxRecDepth 100000 in
theorem zM_124 : zMok 124 := ⟨⟨rfl, rfl⟩, ⟨rfl, rfl⟩, Or.inl (Or.inr (Or.inl rfl)), ⟨rfl, rfl⟩⟩
set_option maxRecDepth 100000 in
theorem zM_125 : zMok 125 := ⟨⟨rfl, rfl⟩, ⟨rfl, rfl⟩, Or.inr (Or.inl ⟨rfl, rfl⟩), ⟨rfl, rfl⟩⟩
set_option maxRecDepth 100000 in
theorem zM_126 : zMok 126 := ⟨⟨rfl, rfl⟩, ⟨rfl, rfl⟩, Or.inl (Or.inl rfl), ⟨rfl, rfl⟩⟩
set_option maxRecDepth 100000 in
theorem zM_127 : zMok 127 := ⟨⟨rfl, rfl⟩, ⟨rfl, rfl⟩, Or.inr (Or.inl ⟨rfl, rfl⟩), ⟨rfl, rfl⟩⟩
set_option maxRecDepth 100000 in
theorem zM_128 : zMok 128 := ⟨⟨rfl, rfl⟩, ⟨rfl, rfl⟩, Or.inr (Or.inl ⟨rfl, rfl⟩), ⟨rfl, rfl⟩⟩
set_option maxRecDepth 100000 in
theorem zM_129 : zMok 129 := ⟨⟨rfl, rfl⟩, ⟨rfl, rfl⟩, Or.inr (Or.inl ⟨rfl, rfl⟩), ⟨rfl, rfl⟩⟩
set_option maxRecDepth 100000 in
theorem zM_130 : zMok 130 := ⟨⟨rfl, rfl⟩, ⟨rfl, rfl⟩, Or.inr (Or.inl ⟨rfl, rfl⟩), ⟨rfl, rfl⟩⟩
set_option maxRecDepth 100000 in
theorem zM_131 : zMok 131 := ⟨⟨rfl, rfl⟩, ⟨rfl, rfl⟩, Or.inr (Or.inl ⟨rfl, rfl⟩), ⟨rfl, rfl⟩⟩
set_option maxRecDepth 100000 in
theorem zM_132 : zMok 132 := ⟨⟨rfl, rfl⟩, ⟨rfl, rfl⟩, Or.inr (Or.inl ⟨rfl, rfl⟩), ⟨rfl, rfl⟩⟩
set_option maxRecDepth 100000 in
theorem zM_133 : zMok 133 := ⟨⟨rfl, rfl⟩, ⟨rfl, rfl⟩, Or.inr (Or.inl ⟨rfl, rfl⟩), ⟨rfl, rfl⟩⟩
set_option maxRecDepth 100000 in
theorem zM_134 : zMok 134 := ⟨⟨rfl, rfl⟩, ⟨rfl, rfl⟩, Or.inr (Or.inl ⟨rfl, rfl⟩), ⟨rfl, rfl⟩⟩
set_option maxRecDepth 100000 in
theorem zM_135 : zMok 135 := ⟨⟨rfl, rfl⟩, ⟨rfl, rfl⟩, Or.inr (Or.inl ⟨rfl, rfl⟩), ⟨rfl, rfl⟩⟩
set_option maxRecDepth 100000 in
theorem zM_136 : zMok 136 := ⟨⟨rfl, rfl⟩, ⟨rfl, rfl⟩, Or.inl (Or.inl rfl), ⟨rfl, rfl⟩⟩
set_option maxRecDepth 100000 in
theorem zM_137 : zMok 137 := ⟨⟨rfl, rfl⟩, ⟨rfl, rfl⟩, Or.inl (Or.inl rfl), ⟨rfl, rfl⟩⟩
set_option maxRecDepth 100000 in
theorem zM_138 : zMok 138 := ⟨⟨rfl, rfl⟩, ⟨rfl, rfl⟩, Or.inl (Or.inl rfl), ⟨rfl, rfl⟩⟩
set_option maxRecDepth 100000 in
theorem zM_139 : zMok 139 := ⟨⟨rfl, rfl⟩, ⟨rfl, rfl⟩, Or.inl (Or.inl rfl), ⟨rfl, rfl⟩⟩
set_option maxRecDepth 100000 in
theorem zM_140 : zMok 140 := ⟨⟨rfl, rfl⟩, ⟨rfl, rfl⟩, Or.inl (Or.inl rfl), ⟨rfl, rfl⟩⟩
set_option maxRecDepth 100000 in
theorem zM_141 : zMok 141 := ⟨⟨rfl, rfl⟩, ⟨rfl, rfl⟩, Or.inl (Or.inl rfl), ⟨rfl, rfl⟩⟩
set_option maxRecDepth 100000 in
theorem zM_142 : zMok 142 := ⟨⟨rfl, rfl⟩, ⟨rfl, rfl⟩, Or.inl (Or.inl rfl), ⟨rfl, rfl⟩⟩
set_option maxRecDepth 100000 in
theorem zM_143 : zMok 143 := ⟨⟨rfl, rfl⟩, ⟨rfl, rfl⟩, Or.inl (Or.inl rfl), ⟨rfl, rfl⟩⟩
set_option maxRecDepth 100000 in
theorem zM_144 : zMok 144 := ⟨⟨rfl, rfl⟩, ⟨rfl, rfl⟩, Or.inl (Or.inl rfl), ⟨rfl, rfl⟩⟩
set_option maxRecDepth 100000 in
theorem zM_145 : zMok 145 := ⟨⟨rfl, rfl⟩, ⟨rfl, rfl⟩, Or.inl (Or.inl rfl), ⟨rfl, rfl⟩⟩
set_option maxRecDepth 100000 in
theorem zM_146 : zMok 146 := ⟨⟨rfl, rfl⟩, ⟨rfl, rfl⟩, Or.inl (Or.inr (Or.inl rfl)), ⟨rfl, rfl⟩⟩
set_option maxRecDepth 100000 in
theorem zM_147 : zMok 147 := ⟨⟨rfl, rfl⟩, ⟨rfl, rfl⟩, Or.inr (Or.inl ⟨rfl, rfl⟩), ⟨rfl, rfl⟩⟩
set_option maxRecDepth 100000 in
theorem zM_148 : zMok 148 := ⟨⟨rfl, rfl⟩, ⟨rfl, rfl⟩, Or.inl (Or.inr (Or.inr rfl)), ⟨rfl, rfl⟩⟩
set_option maxRecDepth 100000 in
theorem zM_149 : zMok 149 := ⟨⟨rfl, rfl⟩, ⟨rfl, rfl⟩, Or.inr (Or.inl ⟨rfl, rfl⟩), ⟨rfl, rfl⟩⟩
set_option maxRecDepth 100000 in
theorem zM_150 : zMok 150 := ⟨⟨rfl, rfl⟩, ⟨rfl, rfl⟩, Or.inr (Or.inl ⟨rfl, rfl⟩), ⟨rfl, rfl⟩⟩
set_option maxRecDepth 100000 in
theorem zM_151 : zMok 151 := ⟨⟨rfl, rfl⟩, ⟨rfl, rfl⟩, Or.inr (Or.inl ⟨rfl, rfl⟩), ⟨rfl, rfl⟩⟩
set_option maxRecDepth 100000 in
theorem zM_152 : zMok 152 := ⟨⟨rfl, rfl⟩, ⟨rfl, rfl⟩, Or.inr (Or.inl ⟨rfl, rfl⟩), ⟨rfl, rfl⟩⟩
set_option maxRecDepth 100000 in
theorem zM_153 : zMok 153 := ⟨⟨rfl, rfl⟩, ⟨rfl, rfl⟩, Or.inr (Or.inl ⟨rfl, rfl⟩), ⟨rfl, rfl⟩⟩
set_option maxRecDepth 100000 in
theorem zM_154 : zMok 154 := ⟨⟨rfl, rfl⟩, ⟨rfl, rfl⟩, Or.inr (Or.inl ⟨rfl, rfl⟩), ⟨rfl, rfl⟩⟩
set_option maxRecDepth 100000 in
theorem zM_155 : zMok 155 := ⟨⟨rfl, rfl⟩, ⟨rfl, rfl⟩, Or.inr (Or.inl ⟨rfl, rfl⟩), ⟨rfl, rfl⟩⟩
set_option maxRecDepth 100000 in
theorem zM_156 : zMok 156 := ⟨⟨rfl, rfl⟩, ⟨rfl, rfl⟩, Or.inr (Or.inl ⟨rfl, rfl⟩), ⟨rfl, rfl⟩⟩
set_option maxRecDepth 100000 in
theorem zM_157 : zMok 157 := ⟨⟨rfl, rfl⟩, ⟨rfl, rfl⟩, Or.inr (Or.inl ⟨rfl, rfl⟩), ⟨rfl, rfl⟩⟩
set_option maxRecDepth 100000 in
theorem zM_158 : zMok 158 := ⟨⟨rfl, rfl⟩, ⟨rfl, rfl⟩, Or.inr (Or.inl ⟨rfl, rfl⟩), ⟨rfl, rfl⟩⟩
set_option maxRecDepth 100000 in
theorem zM_159 : zMok 159 := ⟨⟨rfl, rfl⟩, ⟨rfl, rfl⟩, Or.inr (Or.inl ⟨rfl, rfl⟩), ⟨rfl, rfl⟩⟩
set_option maxRecDepth 100000 in
theorem zM_160 : zMok 160 := ⟨⟨rfl, rfl⟩, ⟨rfl, rfl⟩, Or.inr (Or.inl ⟨rfl, rfl⟩), ⟨rfl, rfl⟩⟩
set_option maxRecDepth 100000 in
theorem zM_161 : zMok 161 := ⟨⟨rfl, rfl⟩, ⟨rfl, rfl⟩, Or.inr (Or.inl ⟨rfl, rfl⟩), ⟨rfl, rfl⟩⟩
set_option maxRecDepth 100000 in
theorem zM_162 : zMok 162 := ⟨⟨rfl, rfl⟩, ⟨rfl, rfl⟩, Or.inr (Or.inl ⟨rfl, rfl⟩), ⟨rfl, rfl⟩⟩
set_option maxRecDepth 100000 in
theorem zM_163 : zMok 163 := ⟨⟨rfl, rfl⟩, ⟨rfl, rfl⟩, Or.inr (Or.inl ⟨rfl, rfl⟩), ⟨rfl, rfl⟩⟩
set_option maxRecDepth 100000 in
theorem zM_164 : zMok 164 := ⟨⟨rfl, rfl⟩, ⟨rfl, rfl⟩, Or.inr (Or.inl ⟨rfl, rfl⟩), ⟨rfl, rfl⟩⟩
set_option maxRecDepth 100000 in
theorem zM_165 : zMok 165 := ⟨⟨rfl, rfl⟩, ⟨rfl, rfl⟩, Or.inr (Or.inl ⟨rfl, rfl⟩), ⟨rfl, rfl⟩⟩
set_option maxRecDepth 100000 in
theorem zM_166 : zMok 166 := ⟨⟨rfl, rfl⟩, ⟨rfl, rfl⟩, Or.inr (Or.inl ⟨rfl, rfl⟩), ⟨rfl, rfl⟩⟩
set_option maxRecDepth 100000 in
theorem zM_167 : zMok 167 := ⟨⟨rfl, rfl⟩, ⟨rfl, rfl⟩, Or.inr (Or.inl ⟨rfl, rfl⟩), ⟨rfl, rfl⟩⟩
set_option maxRecDepth 100000 in
theorem zM_168 : zMok 168 := ⟨⟨rfl, rfl⟩, ⟨rfl, rfl⟩, Or.inr (Or.inl ⟨rfl, rfl⟩), ⟨rfl, rfl⟩⟩
set_option maxRecDepth 100000 in
theorem zM_169 : zMok 169 := ⟨⟨rfl, rfl⟩, ⟨rfl, rfl⟩, Or.inr (Or.inl ⟨rfl, rfl⟩), ⟨rfl, rfl⟩⟩
set_option maxRecDepth 100000 in
theorem zM_170 : zMok 170 := ⟨⟨rfl, rfl⟩, ⟨rfl, rfl⟩, Or.inr (Or.inl ⟨rfl, rfl⟩), ⟨rfl, rfl⟩⟩
set_option maxRecDepth 100000 in
theorem zM_171 : zMok 171 := ⟨⟨rfl, rfl⟩, ⟨rfl, rfl⟩, Or.inr (Or.inl ⟨rfl, rfl⟩), ⟨rfl, rfl⟩⟩
set_option maxRecDepth 100000 in
theorem zM_172 : zMok 172 := ⟨⟨rfl, rfl⟩, ⟨rfl, rfl⟩, Or.inr (Or.inl ⟨rfl, rfl⟩), ⟨rfl, rfl⟩⟩
set_option maxRecDepth 100000 in
theorem zM_173 : zMok 173 := ⟨⟨rfl, rfl⟩, ⟨rfl, rfl⟩, Or.inr (Or.inl ⟨rfl, rfl⟩), ⟨rfl, rfl⟩⟩
set_option maxRecDepth 100000 in
theorem zM_174 : zMok 174 := ⟨⟨rfl, rfl⟩, ⟨rfl, rfl⟩, Or.inr (Or.inl ⟨rfl, rfl⟩), ⟨rfl, rfl⟩⟩
set_option maxRecDepth 100000 in
theorem zM_175 : zMok 175 := ⟨⟨rfl, rfl⟩, ⟨rfl, rfl⟩, Or.inr (Or.inl ⟨rfl, rfl⟩), ⟨rfl, rfl⟩⟩
set_option maxRecDepth 100000 in
theorem zM_176 : zMok 176 := ⟨⟨rfl, rfl⟩, ⟨rfl, rfl⟩, Or.inr (Or.inl ⟨rfl, rfl⟩), ⟨rfl, rfl⟩⟩
set_option maxRecDepth 100000 in
theorem zM_177 : zMok 177 := ⟨⟨rfl, rfl⟩, ⟨rfl, rfl⟩, Or.inr (Or.inl ⟨rfl, rfl⟩), ⟨rfl, rfl⟩⟩
set_option maxRecDepth 100000 in
theorem zM_178 : zMok 178 := ⟨⟨rfl, rfl⟩, ⟨rfl, rfl⟩, Or.inr (Or.inl ⟨rfl, rfl⟩), ⟨rfl, rfl⟩⟩
set_option maxRecDepth 100000 in
theorem zM_179 : zMok 179 := ⟨⟨rfl, rfl⟩, ⟨rfl, rfl⟩, Or.inr (Or.inl ⟨rfl, rfl⟩), ⟨rfl, rfl⟩⟩
set_option maxRecDepth 100000 in
theorem zM_180 : zMok 180 := ⟨⟨rfl, rfl⟩, ⟨rfl, rfl⟩, Or.inr (Or.inl ⟨rfl, rfl⟩), ⟨rfl, rfl⟩⟩
set_option maxRecDepth 100000 in
theorem zM_181 : zMok 181 := ⟨⟨rfl, rfl⟩, ⟨rfl, rfl⟩, Or.inr (Or.inl ⟨rfl, rfl⟩), ⟨rfl, rfl⟩⟩
set_option maxRecDepth 100000 in
theorem zM_182 : zMok 182 := ⟨⟨rfl, rfl⟩, ⟨rfl, rfl⟩, Or.inr (Or.inl ⟨rfl, rfl⟩), ⟨rfl, rfl⟩⟩
set_option maxRecDepth 100000 in
theorem zM_183 : zMok 183 := ⟨⟨rfl, rfl⟩, ⟨rfl, rfl⟩, Or.inr (Or.inl ⟨rfl, rfl⟩), ⟨rfl, rfl⟩⟩
set_option maxRecDepth 100000 in
theorem zM_184 : zMok 184 := ⟨⟨rfl, rfl⟩, ⟨rfl, rfl⟩, Or.inr (Or.inl ⟨rfl, rfl⟩), ⟨rfl, rfl⟩⟩
set_option maxRecDepth 100000 in
theorem zM_185 : zMok 185 := ⟨⟨rfl, rfl⟩, ⟨rfl, rfl⟩, Or.inr (Or.inl ⟨rfl, rfl⟩), ⟨rfl, rfl⟩⟩
set_option maxRecDepth 100000 in
theorem zM_186 : zMok 186 := ⟨⟨rfl, rfl⟩, ⟨rfl, rfl⟩, Or.inr (Or.inl ⟨rfl, rfl⟩), ⟨rfl, rfl⟩⟩
set_option maxRecDepth 100000 in
theorem zM_187 : zMok 187 := ⟨⟨rfl, rfl⟩, ⟨rfl, rfl⟩, Or.inr (Or.inl ⟨rfl, rfl⟩), ⟨rfl, rfl⟩⟩
set_option maxRecDepth 100000 in
theorem zM_188 : zMok 188 := ⟨⟨rfl, rfl⟩, ⟨rfl, rfl⟩, Or.inr (Or.inl ⟨rfl, rfl⟩), ⟨rfl, rfl⟩⟩
set_option maxRecDepth 100000 in
theorem zM_189 : zMok 189 := ⟨⟨rfl, rfl⟩, ⟨rfl, rfl⟩, Or.inr (Or.inl ⟨rfl, rfl⟩), ⟨rfl, rfl⟩⟩
set_option maxRecDepth 100000 in
theorem zM_190 : zMok 190 := ⟨⟨rfl, rfl⟩, ⟨rfl, rfl⟩, Or.inr (Or.inl ⟨rfl, rfl⟩), ⟨rfl, rfl⟩⟩
set_option maxRecDepth 100000 in
theorem zM_191 : zMok 191 := ⟨⟨rfl, rfl⟩, ⟨rfl, rfl⟩, Or.inr (Or.inl ⟨rfl, rfl⟩), ⟨rfl, rfl⟩⟩
set_option maxRecDepth 100000 in
theorem zM_192 : zMok 192 := ⟨⟨rfl, rfl⟩, ⟨rfl, rfl⟩, Or.inr (Or.inl ⟨rfl, rfl⟩), ⟨rfl, rfl⟩⟩
set_option maxRecDepth 100000 in
theorem zM_193 : zMok 193 := ⟨⟨rfl, rfl⟩, ⟨rfl, rfl⟩, Or.inr (Or.inl ⟨rfl, rfl⟩), ⟨rfl, rfl⟩⟩
set_option maxRecDepth 100000 in
theorem zM_194 : zMok 194 := ⟨⟨rfl, rfl⟩, ⟨rfl, rfl⟩, Or.inr (Or.inl ⟨rfl, rfl⟩), ⟨rfl, rfl⟩⟩
set_option maxRecDepth 100000 in
theorem zM_195 : zMok 195 := ⟨⟨rfl, rfl⟩, ⟨rfl, rfl⟩, Or.inr (Or.inl ⟨rfl, rfl⟩), ⟨rfl, rfl⟩⟩
set_option maxRecDepth 100000 in
theorem zM_196 : zMok 196 := ⟨⟨rfl, rfl⟩, ⟨rfl, rfl⟩, Or.inr (Or.inl ⟨rfl, rfl⟩), ⟨rfl, rfl⟩⟩
set_option maxRecDepth 100000 in
theorem zM_197 : zMok 197 := ⟨⟨rfl, rfl⟩, ⟨rfl, rfl⟩, Or.inr (Or.inl ⟨rfl, rfl⟩), ⟨rfl, rfl⟩⟩
set_option maxRecDepth 100000 in
theorem zM_198 : zMok 198 := ⟨⟨rfl, rfl⟩, ⟨rfl, rfl⟩, Or.inr (Or.inl ⟨rfl, rfl⟩), ⟨rfl, rfl⟩⟩
set_option maxRecDepth 100000 in
theorem zM_199 : zMok 199 := ⟨⟨rfl, rfl⟩, ⟨rfl, rfl⟩, Or.inr (Or.inl ⟨rfl, rfl⟩), ⟨rfl, rfl⟩⟩
set_option maxRecDepth 100000 in
theorem zM_200 : zMok 200 := ⟨⟨rfl, rfl⟩, ⟨rfl, rfl⟩, Or.inr (Or.inl ⟨rfl, rfl⟩), ⟨rfl, rfl⟩⟩
set_option maxRecDepth 100000 in
theorem zM_201 : zMok 201 := ⟨⟨rfl, rfl⟩, ⟨rfl, rfl⟩, Or.inr (Or.inl ⟨rfl, rfl⟩), ⟨rfl, rfl⟩⟩
set_option maxRecDepth 100000 in
theorem zM_202 : zMok 202 := ⟨⟨rfl, rfl⟩, ⟨rfl, rfl⟩, Or.inr (Or.inl ⟨rfl, rfl⟩), ⟨rfl, rfl⟩⟩
set_option maxRecDepth 100000 in
theorem zM_203 : zMok 203 := ⟨⟨rfl, rfl⟩, ⟨rfl, rfl⟩, Or.inr (Or.inl ⟨rfl, rfl⟩), ⟨rfl, rfl⟩⟩
set_option maxRecDepth 100000 in
theorem zM_204 : zMok 204 := ⟨⟨rfl, rfl⟩, ⟨rfl, rfl⟩, Or.inr (Or.inl ⟨rfl, rfl⟩), ⟨rfl, rfl⟩⟩
set_option maxRecDepth 100000 in
theorem zM_205 : zMok 205 := ⟨⟨rfl, rfl⟩, ⟨rfl, rfl⟩, Or.inl (Or.inr (Or.inr rfl)), ⟨rfl, rfl⟩⟩
set_option maxRecDepth 100000 in
theorem zM_206 : zMok 206 := ⟨⟨rfl, rfl⟩, ⟨rfl, rfl⟩, Or.inl (Or.inr (Or.inl rfl)), ⟨rfl, rfl⟩⟩
set_option maxRecDepth 100000 in
theorem zM_207 : zMok 207 := ⟨⟨rfl, rfl⟩, ⟨rfl, rfl⟩, Or.inl (Or.inl rfl), ⟨rfl, rfl⟩⟩
set_option maxRecDepth 100000 in
theorem zM_208 : zMok 208 := ⟨⟨rfl, rfl⟩, ⟨rfl, rfl⟩, Or.inl (Or.inl rfl), ⟨rfl, rfl⟩⟩
set_option maxRecDepth 100000 in
theorem zM_209 : zMok 209 := ⟨⟨rfl, rfl⟩, ⟨rfl, rfl⟩, Or.inl (Or.inl rfl), ⟨rfl, rfl⟩⟩
set_option maxRecDepth 100000 in
theorem zM_210 : zMok 210 := ⟨⟨rfl, rfl⟩, ⟨rfl, rfl⟩, Or.inl (Or.inl rfl), ⟨rfl, rfl⟩⟩
set_option maxRecDepth 100000 in
theorem zM_211 : zMok 211 := ⟨⟨rfl, rfl⟩, ⟨rfl, rfl⟩, Or.inl (Or.inl rfl), ⟨rfl, rfl⟩⟩
set_option maxRecDepth 100000 in
theorem zM_212 : zMok 212 := ⟨⟨rfl, rfl⟩, ⟨rfl, rfl⟩, Or.inl (Or.inl rfl), ⟨rfl, rfl⟩⟩
set_option maxRecDepth 100000 in
theorem zM_213 : zMok 213 := ⟨⟨rfl, rfl⟩, ⟨rfl, rfl⟩, Or.inl (Or.inl rfl), ⟨rfl, rfl⟩⟩
set_option maxRecDepth 100000 in
theorem zM_214 : zMok 214 := ⟨⟨rfl, rfl⟩, ⟨rfl, rfl⟩, Or.inl (Or.inl rfl), ⟨rfl, rfl⟩⟩
set_option maxRecDepth 100000 in
theorem zM_215 : zMok 215 := ⟨⟨rfl, rfl⟩, ⟨rfl, rfl⟩, Or.inl (Or.inl rfl), ⟨rfl, rfl⟩⟩
set_option maxRecDepth 100000 in
theorem zM_216 : zMok 216 := ⟨⟨rfl, rfl⟩, ⟨rfl, rfl⟩, Or.inl (Or.inl rfl), ⟨rfl, rfl⟩⟩
set_option maxRecDepth 100000 in
theorem zM_217 : zMok 217 := ⟨⟨rfl, rfl⟩, ⟨rfl, rfl⟩, Or.inl (Or.inl rfl), ⟨rfl, rfl⟩⟩
set_option maxRecDepth 100000 in
theorem zM_218 : zMok 218 := ⟨⟨rfl, rfl⟩, ⟨rfl, rfl⟩, Or.inl (Or.inl rfl), ⟨rfl, rfl⟩⟩
set_option maxRecDepth 100000 in
theorem zM_219 : zMok 219 := ⟨⟨rfl, rfl⟩, ⟨rfl, rfl⟩, Or.inl (Or.inl rfl), ⟨rfl, rfl⟩⟩
set_option maxRecDepth 100000 in
theorem zM_220 : zMok 220 := ⟨⟨rfl, rfl⟩, ⟨rfl, rfl⟩, Or.inl (Or.inl rfl), ⟨rfl, rfl⟩⟩
set_option maxRecDepth 100000 in
theorem zM_221 : zMok 221 := ⟨⟨rfl, rfl⟩, ⟨rfl, rfl⟩, Or.inl (Or.inl rfl), ⟨rfl, rfl⟩⟩
set_option maxRecDepth 100000 in
theorem zM_222 : zMok 222 := ⟨⟨rfl, rfl⟩, ⟨rfl, rfl⟩, Or.inl (Or.inl rfl), ⟨rfl, rfl⟩⟩
set_option maxRecDepth 100000 in
theorem zM_223 : zMok 223 := ⟨⟨rfl, rfl⟩, ⟨rfl, rfl⟩, Or.inl (Or.inl rfl), ⟨rfl, rfl⟩⟩
set_option maxRecDepth 100000 in
theorem zM_224 : zMok 224 := ⟨⟨rfl, rfl⟩, ⟨rfl, rfl⟩, Or.inl (Or.inl rfl), ⟨rfl, rfl⟩⟩
set_option maxRecDepth 100000 in
theorem zM_225 : zMok 225 := ⟨⟨rfl, rfl⟩, ⟨rfl, rfl⟩, Or.inl (Or.inl rfl), ⟨rfl, rfl⟩⟩
set_option maxRecDepth 100000 in
theorem zM_226 : zMok 226 := ⟨⟨rfl, rfl⟩, ⟨rfl, rfl⟩, Or.inl (Or.inl rfl), ⟨rfl, rfl⟩⟩
set_option maxRecDepth 100000 in
theorem zM_227 : zMok 227 := ⟨⟨rfl, rfl⟩, ⟨rfl, rfl⟩, Or.inl (Or.inl rfl), ⟨rfl, rfl⟩⟩
set_option maxRecDepth 100000 in
theorem zM_228 : zMok 228 := ⟨⟨rfl, rfl⟩, ⟨rfl, rfl⟩, Or.inl (Or.inl rfl), ⟨rfl, rfl⟩⟩
set_option maxRecDepth 100000 in
theorem zM_229 : zMok 229 := ⟨⟨rfl, rfl⟩, ⟨rfl, rfl⟩, Or.inl (Or.inl rfl), ⟨rfl, rfl⟩⟩
set_option maxRecDepth 100000 in
theorem zM_230 : zMok 230 := ⟨⟨rfl, rfl⟩, ⟨rfl, rfl⟩, Or.inl (Or.inl rfl), ⟨rfl, rfl⟩⟩
set_option maxRecDepth 100000 in
theorem zM_231 : zMok 231 := ⟨⟨rfl, rfl⟩, ⟨rfl, rfl⟩, Or.inl (Or.inl rfl), ⟨rfl, rfl⟩⟩
set_option maxRecDepth 100000 in
theorem zM_232 : zMok 232 := ⟨⟨rfl, rfl⟩, ⟨rfl, rfl⟩, Or.inl (Or.inl rfl), ⟨rfl, rfl⟩⟩
set_option maxRecDepth 100000 in
theorem zM_233 : zMok 233 := ⟨⟨rfl, rfl⟩, ⟨rfl, rfl⟩, Or.inl (Or.inl rfl), ⟨rfl, rfl⟩⟩
set_option maxRecDepth 100000 in
theorem zM_234 : zMok 234 := ⟨⟨rfl, rfl⟩, ⟨rfl, rfl⟩, Or.inl (Or.inl rfl), ⟨rfl, rfl⟩⟩
set_option maxRecDepth 100000 in
theorem zM_235 : zMok 235 := ⟨⟨rfl, rfl⟩, ⟨rfl, rfl⟩, Or.inl (Or.inl rfl), ⟨rfl, rfl⟩⟩
set_option maxRecDepth 100000 in
theorem zM_236 : zMok 236 := ⟨⟨rfl, rfl⟩, ⟨rfl, rfl⟩, Or.inl (Or.inl rfl), ⟨rfl, rfl⟩⟩
set_option maxRecDepth 100000 in
theorem zM_237 : zMok 237 := ⟨⟨rfl, rfl⟩, ⟨rfl, rfl⟩, Or.inl (Or.inr (Or.inl rfl)), ⟨rfl, rfl⟩⟩
set_option maxRecDepth 100000 in
theorem zM_238 : zMok 238 := ⟨⟨rfl, rfl⟩, ⟨rfl, rfl⟩, Or.inl (Or.inr (Or.inl rfl)), ⟨rfl, rfl⟩⟩
set_option maxRecDepth 100000 in
theorem zM_239 : zMok 239 := ⟨⟨rfl, rfl⟩, ⟨rfl, rfl⟩, Or.inr (Or.inr (.head _)), ⟨rfl, rfl⟩⟩
set_option maxRecDepth 100000 in
theorem zM_240 : zMok 240 := ⟨⟨rfl, rfl⟩, ⟨rfl, rfl⟩, Or.inr (Or.inr (.tail _ (.head _))), ⟨rfl, rfl⟩⟩
set_option maxRecDepth 100000 in
theorem zM_241 : zMok 241 := ⟨⟨rfl, rfl⟩, ⟨rfl, rfl⟩, Or.inr (Or.inl ⟨rfl, rfl⟩), ⟨rfl, rfl⟩⟩
set_option maxRecDepth 100000 in
theorem zM_242 : zMok 242 := ⟨⟨rfl, rfl⟩, ⟨rfl, rfl⟩, Or.inr (Or.inr (.tail _ (.tail _ (.head _)))), ⟨rfl, rfl⟩⟩
set_option maxRecDepth 100000 in
theorem zM_243 : zMok 243 := ⟨⟨rfl, rfl⟩, ⟨rfl, rfl⟩, Or.inr (Or.inr (.tail _ (.tail _ (.tail _ (.head _))))), ⟨rfl, rfl⟩⟩
set_option maxRecDepth 100000 in
theorem zM_244 : zMok 244 := ⟨⟨rfl, rfl⟩, ⟨rfl, rfl⟩, Or.inl (Or.inr (Or.inl rfl)), ⟨rfl, rfl⟩⟩
set_option maxRecDepth 100000 in
theorem zM_245 : zMok 245 := ⟨⟨rfl, rfl⟩, ⟨rfl, rfl⟩, Or.inl (Or.inr (Or.inl rfl)), ⟨rfl, rfl⟩⟩
set_option maxRecDepth 100000 in
theorem zM_246 : zMok 246 := ⟨⟨rfl, rfl⟩, ⟨rfl, rfl⟩, Or.inr (Or.inl ⟨rfl, rfl⟩), ⟨rfl, rfl⟩⟩
set_option maxRecDepth 100000 in
theorem zM_247 : zMok 247 := ⟨⟨rfl, rfl⟩, ⟨rfl, rfl⟩, Or.inl (Or.inr (Or.inl rfl)), ⟨rfl, rfl⟩⟩
set_option maxRecDepth 100000 in
theorem zM_248 : zMok 248 := ⟨⟨rfl, rfl⟩, ⟨rfl, rfl⟩, Or.inl (Or.inr (Or.inl rfl)), ⟨rfl, rfl⟩⟩
set_option maxRecDepth 100000 in
theorem zM_249 : zMok 249 := ⟨⟨rfl, rfl⟩, ⟨rfl, rfl⟩, Or.inr (Or.inl ⟨rfl, rfl⟩), ⟨rfl, rfl⟩⟩
set_option maxRecDepth 100000 in
theorem zM_250 : zMok 250 := ⟨⟨rfl, rfl⟩, ⟨rfl, rfl⟩, Or.inr (Or.inl ⟨rfl, rfl⟩), ⟨rfl, rfl⟩⟩
set_option maxRecDepth 100000 in
theorem zM_251 : zMok 251 := ⟨⟨rfl, rfl⟩, ⟨rfl, rfl⟩, Or.inr (Or.inl ⟨rfl, rfl⟩), ⟨rfl, rfl⟩⟩
set_option maxRecDepth 100000 in
theorem zM_252 : zMok 252 := ⟨⟨rfl, rfl⟩, ⟨rfl, rfl⟩, Or.inr (Or.inl ⟨rfl, rfl⟩), ⟨rfl, rfl⟩⟩
set_option maxRecDepth 100000 in
theorem zM_253 : zMok 253 := ⟨⟨rfl, rfl⟩, ⟨rfl, rfl⟩, Or.inl (Or.inr (Or.inl rfl)), ⟨rfl, rfl⟩⟩
set_option maxRecDepth 100000 in
theorem zM_254 : zMok 254 := ⟨⟨rfl, rfl⟩, ⟨rfl, rfl⟩, Or.inl (Or.inr (Or.inl rfl)), ⟨rfl, rfl⟩⟩
set_option maxRecDepth 100000 in
theorem zM_255 : zMok 255 := ⟨⟨rfl, rfl⟩, ⟨rfl, rfl⟩, Or.inl (Or.inl rfl), ⟨rfl, rfl⟩⟩
set_option maxRecDepth 100000 in
theorem zM_256 : zMok 256 := ⟨⟨rfl, rfl⟩, ⟨rfl, rfl⟩, Or.inl (Or.inl rfl), ⟨rfl, rfl⟩⟩
set_option maxRecDepth 100000 in
theorem zM_257 : zMok 257 := ⟨⟨rfl, rfl⟩, ⟨rfl, rfl⟩, Or.inl (Or.inl rfl), ⟨rfl, rfl⟩⟩
set_option maxRecDepth 100000 in
theorem zM_258 : zMok 258 := ⟨⟨rfl, rfl⟩, ⟨rfl, rfl⟩, Or.inl (Or.inl rfl), ⟨rfl, rfl⟩⟩
set_option maxRecDepth 100000 in
theorem zM_259 : zMok 259 := ⟨⟨rfl, rfl⟩, ⟨rfl, rfl⟩, Or.inl (Or.inl rfl), ⟨rfl, rfl⟩⟩
set_option maxRecDepth 100000 in
theorem zM_260 : zMok 260 := ⟨⟨rfl, rfl⟩, ⟨rfl, rfl⟩, Or.inl (Or.inl rfl), ⟨rfl, rfl⟩⟩
set_option maxRecDepth 100000 in
theorem zMa_0 : ∀ a, a < 56 → zMok a := lt_s (lt_s (lt_s (lt_s (lt_s (lt_s (lt_s (lt_s (lt_s (lt_s (lt_s (lt_s (lt_s (lt_s (lt_s (lt_s (lt_s (lt_s (lt_s (lt_s (lt_s (lt_s (lt_s (lt_s (lt_s (lt_s (lt_s (lt_s (lt_s (lt_s (lt_s (lt_s (lt_s (lt_s (lt_s (lt_s (lt_s (lt_s (lt_s (lt_s (lt_s (lt_s (lt_s (lt_s (lt_s (lt_s (lt_s (lt_s (lt_s (lt_s (lt_s (lt_s (lt_s (lt_s (lt_s (lt_s ((lt_0 : ∀ a, a < 0 → zMok a)) zM_0) zM_1) zM_2) zM_3) zM_4) zM_5) zM_6) zM_7) zM_8) zM_9) zM_10) zM_11) zM_12) zM_13) zM_14) zM_15) zM_16) zM_17) zM_18) zM_19) zM_20) zM_21) zM_22) zM_23) zM_24) zM_25) zM_26) zM_27) zM_28) zM_29) zM_30) zM_31) zM_32) zM_33) zM_34) zM_35) zM_36) zM_37) zM_38) zM_39) zM_40) zM_41) zM_42) zM_43) zM_44) zM_45) zM_46) zM_47) zM_48) zM_49) zM_50) zM_51) zM_52) zM_53) zM_54) zM_55
set_option maxRecDepth 100000 in
theorem zMa_56 : ∀ a, a < 112 → zMok a := lt_s (lt_s (lt_s (lt_s (lt_s (lt_s (lt_s (lt_s (lt_s (lt_s (lt_s (lt_s (lt_s (lt_s (lt_s (lt_s (lt_s (lt_s (lt_s (lt_s (lt_s (lt_s (lt_s (lt_s (lt_s (lt_s (lt_s (lt_s (lt_s (lt_s (lt_s (lt_s (lt_s (lt_s (lt_s (lt_s (lt_s (lt_s (lt_s (lt_s (lt_s (lt_s (lt_s (lt_s (lt_s (lt_s (lt_s (lt_s (lt_s (lt_s (lt_s (lt_s (lt_s (lt_s (lt_s (lt_s (zMa_0) zM_56) zM_57) zM_58) zM_59) zM_60) zM_61) zM_62) zM_63) zM_64) zM_65) zM_66) zM_67) zM_68) zM_69) zM_70) zM_71) zM_72) zM_73) zM_74) zM_75) zM_76) zM_77) zM_78) zM_79) zM_80) zM_81) zM_82) zM_83) zM_84) zM_85) zM_86) zM_87) zM_88) zM_89) zM_90) zM_91) zM_92) zM_93) zM_94) zM_95) zM_96) zM_97) zM_98) zM_99) zM_100) zM_101) zM_102) zM_103) zM_104) zM_105) zM_106) zM_107) zM_108) zM_109) zM_110) zM_111
set_option maxRecDepth 100000 in
theorem zMa_112 : ∀ a, a < 168 → zMok a := lt_s (lt_s (lt_s (lt_s (lt_s (lt_s (lt_s (lt_s (lt_s (lt_s (lt_s (lt_s (lt_s (lt_s (lt_s (lt_s (lt_s (lt_s (lt_s (lt_s (lt_s (lt_s (lt_s (lt_s (lt_s (lt_s (lt_s (lt_s (lt_s (lt_s (lt_s (lt_s (lt_s (lt_s (lt_s (lt_s (lt_s (lt_s (lt_s (lt_s (lt_s (lt_s (lt_s (lt_s (lt_s (lt_s (lt_s (lt_s (lt_s (lt_s (lt_s (lt_s (lt_s (lt_s (lt_s (lt_s (zMa_56) zM_112) zM_113) zM_114) zM_115) zM_116) zM_117) zM_118) zM_119) zM_120) zM_121) zM_122) zM_123) zM_124) zM_125) zM_126) zM_127) zM_128) zM_129) zM_130) zM_131) zM_132) zM_133) zM_134) zM_135) zM_136) zM_137) zM_138) zM_139) zM_140) zM_141) zM_142) zM_143) zM_144) zM_145) zM_146) zM_147) zM_148) zM_149) zM_150) zM_151) zM_152) zM_153) zM_154) zM_155) zM_156) zM_157) zM_158) zM_159) zM_160) zM_161) zM_162) zM_163) zM_164) zM_165) zM_166) zM_167
set_option maxRecDepth 100000 in
theorem zMa_168 : ∀ a, a < 224 → zMok a := lt_s (lt_s (lt_s (lt_s (lt_s (lt_s (lt_s (lt_s (lt_s (lt_s (lt_s (lt_s (lt_s (lt_s (lt_s (lt_s (lt_s (lt_s (lt_s (lt_s (lt_s (lt_s (lt_s (lt_s (lt_s (lt_s (lt_s (lt_s (lt_s (lt_s (lt_s (lt_s (lt_s (lt_s (lt_s (lt_s (lt_s (lt_s (lt_s (lt_s (lt_s (lt_s (lt_s (lt_s (lt_s (lt_s (lt_s (lt_s (lt_s (lt_s (lt_s (lt_s (lt_s (lt_s (lt_s (lt_s (zMa_112) zM_168) zM_169) zM_170) zM_171) zM_172) zM_173) zM_174) zM_175) zM_176) zM_177) zM_178) zM_179) zM_180) zM_181) zM_182) zM_183) zM_184) zM_185) zM_186) zM_187) zM_188) zM_189) zM_190) zM_191) zM_192) zM_193) zM_194) zM_195) zM_196) zM_197) zM_198) zM_199) zM_200) zM_201) zM_202) zM_203) zM_204) zM_205) zM_206) zM_207) zM_208) zM_209) zM_210) zM_211) zM_212) zM_213) zM_214) zM_215) zM_216) zM_217) zM_218) zM_219) zM_220) zM_221) zM_222) zM_223
set_option maxRecDepth 100000 in
theorem zMa_224 : ∀ a, a < 261 → zMok a := lt_s (lt_s (lt_s (lt_s (lt_s (lt_s (lt_s (lt_s (lt_s (lt_s (lt_s (lt_s (lt_s (lt_s (lt_s (lt_s (lt_s (lt_s (lt_s (lt_s (lt_s (lt_s (lt_s (lt_s (lt_s (lt_s (lt_s (lt_s (lt_s (lt_s (lt_s (lt_s (lt_s (lt_s (lt_s (lt_s (lt_s (zMa_168) zM_224) zM_225) zM_226) zM_227) zM_228) zM_229) zM_230) zM_231) zM_232) zM_233) zM_234) zM_235) zM_236) zM_237) zM_238) zM_239) zM_240) zM_241) zM_242) zM_243) zM_244) zM_245) zM_246) zM_247) zM_248) zM_249) zM_250) zM_251) zM_252) zM_253) zM_254) zM_255) zM_256) zM_257) zM_258) zM_259) zM_260
theorem zM_all : ∀ a, a < 261 → zMok a := zMa_224
noncomputable def zFw (o i f : Nat) : Cond := .fieldLink (zcn o) i (zT (f / 64) (f % 64)).1 (zT (f / 64) (f % 64)).2.1 (zT (f / 64) (f % 64)).2.2.1
noncomputable abbrev lkFok (o i f : Nat) : Prop := f / 64 < 13 ∧ f % 64 < znf (f / 64) ∧ (zinP (zFw o i f) (zplF o i) ∨ (o = 5 ∧ i = 83 ∧ f = 263))
set_option maxRecDepth 100000 in
theorem lkF_1_19 : lkFok 1 19 64 := ⟨Nat.le_of_ble_eq_true rfl, Nat.le_of_ble_eq_true rfl, Or.inl ⟨rfl, rfl⟩⟩
theorem lkF_1 (i : Nat) (f : Nat) : zcpF_1 i = some f → lkFok 1 i f := (tr_l (P := fun i f => lkFok 1 i f) lkF_1_19)
set_option maxRecDepth 100000 in
theorem lkF_7_9 : lkFok 7 9 450 := ⟨Nat.le_of_ble_eq_true rfl, Nat.le_of_ble_eq_true rfl, Or.inl ⟨rfl, rfl⟩⟩
set_option maxRecDepth 100000 in
theorem lkF_7_15 : lkFok 7 15 451 := ⟨Nat.le_of_ble_eq_true rfl, Nat.le_of_ble_eq_true rfl, Or.inl ⟨rfl, rfl⟩⟩
set_option maxRecDepth 100000 in
theorem lkF_7_18 : lkFok 7 18 452 := ⟨Nat.le_of_ble_eq_true rfl, Nat.le_of_ble_eq_true rfl, Or.inl ⟨rfl, rfl⟩⟩
set_option maxRecDepth 100000 in
theorem lkF_7_21 : lkFok 7 21 453 := ⟨Nat.le_of_ble_eq_true rfl, Nat.le_of_ble_eq_true rfl, Or.inl ⟨rfl, rfl⟩⟩
set_option maxRecDepth 100000 in
theorem lkF_7_24 : lkFok 7 24 454 := ⟨Nat.le_of_ble_eq_true rfl, Nat.le_of_ble_eq_true rfl, Or.inl ⟨rfl, rfl⟩⟩
set_option maxRecDepth 100000 in
theorem lkF_7_27 : lkFok 7 27 455 := ⟨Nat.le_of_ble_eq_true rfl, Nat.le_of_ble_eq_true rfl, Or.inl ⟨rfl, rfl⟩⟩
set_option maxRecDepth 100000 in
theorem lkF_7_33 : lkFok 7 33 456 := ⟨Nat.le_of_ble_eq_true rfl, Nat.le_of_ble_eq_true rfl, Or.inl ⟨rfl, rfl⟩⟩
set_option maxRecDepth 100000 in
theorem lkF_7_37 : lkFok 7 37 458 := ⟨Nat.le_of_ble_eq_true rfl, Nat.le_of_ble_eq_true rfl, Or.inl ⟨rfl, rfl⟩⟩
set_option maxRecDepth 100000 in
theorem lkF_7_40 : lkFok 7 40 459 := ⟨Nat.le_of_ble_eq_true rfl, Nat.le_of_ble_eq_true rfl, Or.inl ⟨rfl, rfl⟩⟩
set_option maxRecDepth 100000 in
theorem lkF_7_43 : lkFok 7 43 460 := ⟨Nat.le_of_ble_eq_true rfl, Nat.le_of_ble_eq_true rfl, Or.inl ⟨rfl, rfl⟩⟩
set_option maxRecDepth 100000 in
theorem lkF_7_46 : lkFok 7 46 457 := ⟨Nat.le_of_ble_eq_true rfl, Nat.le_of_ble_eq_true rfl, Or.inl ⟨rfl, rfl⟩⟩
set_option maxRecDepth 100000 in
theorem lkF_7_59 : lkFok 7 59 462 := ⟨Nat.le_of_ble_eq_true rfl, Nat.le_of_ble_eq_true rfl, Or.inl ⟨rfl, rfl⟩⟩
set_option maxRecDepth 100000 in
theorem lkF_7_63 : lkFok 7 63 463 := ⟨Nat.le_of_ble_eq_true rfl, Nat.le_of_ble_eq_true rfl, Or.inl ⟨rfl, rfl⟩⟩
set_option maxRecDepth 100000 in
theorem lkF_7_67 : lkFok 7 67 576 := ⟨Nat.le_of_ble_eq_true rfl, Nat.le_of_ble_eq_true rfl, Or.inl ⟨rfl, rfl⟩⟩
set_option maxRecDepth 100000 in
theorem lkF_7_72 : lkFok 7 72 64 := ⟨Nat.le_of_ble_eq_true rfl, Nat.le_of_ble_eq_true rfl, Or.inl ⟨rfl, rfl⟩⟩
set_option maxRecDepth 100000 in
theorem lkF_7_87 : lkFok 7 87 448 := ⟨Nat.le_of_ble_eq_true rfl, Nat.le_of_ble_eq_true rfl, Or.inl ⟨rfl, rfl⟩⟩
set_option maxRecDepth 100000 in
theorem lkF_7_90 : lkFok 7 90 577 := ⟨Nat.le_of_ble_eq_true rfl, Nat.le_of_ble_eq_true rfl, Or.inl ⟨rfl, rfl⟩⟩
set_option maxRecDepth 100000 in
theorem lkF_7_93 : lkFok 7 93 449 := ⟨Nat.le_of_ble_eq_true rfl, Nat.le_of_ble_eq_true rfl, Or.inl ⟨rfl, rfl⟩⟩
set_option maxRecDepth 100000 in
theorem lkF_7_95 : lkFok 7 95 256 := ⟨Nat.le_of_ble_eq_true rfl, Nat.le_of_ble_eq_true rfl, Or.inl ⟨rfl, rfl⟩⟩
set_option maxRecDepth 100000 in
theorem lkF_7_105 : lkFok 7 105 257 := ⟨Nat.le_of_ble_eq_true rfl, Nat.le_of_ble_eq_true rfl, Or.inl ⟨rfl, rfl⟩⟩
set_option maxRecDepth 100000 in
theorem lkF_7_162 : lkFok 7 162 461 := ⟨Nat.le_of_ble_eq_true rfl, Nat.le_of_ble_eq_true rfl, Or.inl ⟨rfl, rfl⟩⟩
theorem lkF_7 (i : Nat) (f : Nat) : zcpF_7 i = some f → lkFok 7 i f := (tr_n (tr_n (tr_n (tr_n (tr_l (P := fun i f => lkFok 7 i f) lkF_7_9) (tr_l (P := fun i f => lkFok 7 i f) lkF_7_15)) (tr_n (tr_l (P := fun i f => lkFok 7 i f) lkF_7_18) (tr_n (tr_l (P := fun i f => lkFok 7 i f) lkF_7_21) (tr_l (P := fun i f => lkFok 7 i f) lkF_7_24)))) (tr_n (tr_n (tr_l (P := fun i f => lkFok 7 i f) lkF_7_27) (tr_l (P := fun i f => lkFok 7 i f) lkF_7_33)) (tr_n (tr_l (P := fun i f => lkFok 7 i f) lkF_7_37) (tr_n (tr_l (P := fun i f => lkFok 7 i f) lkF_7_40) (tr_l (P := fun i f => lkFok 7 i f) lkF_7_43))))) (tr_n (tr_n (tr_n (tr_l (P := fun i f => lkFok 7 i f) lkF_7_46) (tr_l (P := fun i f => lkFok 7 i f) lkF_7_59)) (tr_n (tr_l (P := fun i f => lkFok 7 i f) lkF_7_63) (tr_n (tr_l (P := fun i f => lkFok 7 i f) lkF_7_67) (tr_l (P := fun i f => lkFok 7 i f) lkF_7_72)))) (tr_n (tr_n (tr_l (P := fun i f => lkFok 7 i f) lkF_7_87) (tr_n (tr_l (P := fun i f => lkFok 7 i f) lkF_7_90) (tr_l (P := fun i f => lkFok 7 i f) lkF_7_93))) (tr_n (tr_l (P := fun i f => lkFok 7 i f) lkF_7_95) (tr_n (tr_l (P := fun i f => lkFok 7 i f) lkF_7_105) (tr_l (P := fun i f => lkFok 7 i f) lkF_7_162))))))
set_option maxRecDepth 100000 in
theorem lkF_8_13 : lkFok 8 13 514 := ⟨Nat.le_of_ble_eq_true rfl, Nat.le_of_ble_eq_true rfl, Or.inl ⟨rfl, rfl⟩⟩
set_option maxRecDepth 100000 in
theorem lkF_8_16 : lkFok 8 16 515 := ⟨Nat.le_of_ble_eq_true rfl, Nat.le_of_ble_eq_true rfl, Or.inl ⟨rfl, rfl⟩⟩
set_option maxRecDepth 100000 in
theorem lkF_8_20 : lkFok 8 20 512 := ⟨Nat.le_of_ble_eq_true rfl, Nat.le_of_ble_eq_true rfl, Or.inl ⟨rfl, rfl⟩⟩
set_option maxRecDepth 100000 in
theorem lkF_8_24 : lkFok 8 24 513 := ⟨Nat.le_of_ble_eq_true rfl, Nat.le_of_ble_eq_true rfl, Or.inl ⟨rfl, rfl⟩⟩
set_option maxRecDepth 100000 in
theorem lkF_8_34 : lkFok 8 34 577 := ⟨Nat.le_of_ble_eq_true rfl, Nat.le_of_ble_eq_true rfl, Or.inl ⟨rfl, rfl⟩⟩
set_option maxRecDepth 100000 in
theorem lkF_8_44 : lkFok 8 44 257 := ⟨Nat.le_of_ble_eq_true rfl, Nat.le_of_ble_eq_true rfl, Or.inl ⟨rfl, rfl⟩⟩
set_option maxRecDepth 100000 in
theorem lkF_8_58 : lkFok 8 58 256 := ⟨Nat.le_of_ble_eq_true rfl, Nat.le_of_ble_eq_true rfl, Or.inl ⟨rfl, rfl⟩⟩
set_option maxRecDepth 100000 in
theorem lkF_8_111 : lkFok 8 111 64 := ⟨Nat.le_of_ble_eq_true rfl, Nat.le_of_ble_eq_true rfl, Or.inl ⟨rfl, rfl⟩⟩
theorem lkF_8 (i : Nat) (f : Nat) : zcpF_8 i = some f → lkFok 8 i f := (tr_n (tr_n (tr_n (tr_l (P := fun i f => lkFok 8 i f) lkF_8_13) (tr_l (P := fun i f => lkFok 8 i f) lkF_8_16)) (tr_n (tr_l (P := fun i f => lkFok 8 i f) lkF_8_20) (tr_l (P := fun i f => lkFok 8 i f) lkF_8_24))) (tr_n (tr_n (tr_l (P := fun i f => lkFok 8 i f) lkF_8_34) (tr_l (P := fun i f => lkFok 8 i f) lkF_8_44)) (tr_n (tr_l (P := fun i f => lkFok 8 i f) lkF_8_58) (tr_l (P := fun i f => lkFok 8 i f) lkF_8_111))))
set_option maxRecDepth 100000 in
theorem lkF_6_11 : lkFok 6 11 389 := ⟨Nat.le_of_ble_eq_true rfl, Nat.le_of_ble_eq_true rfl, Or.inl ⟨rfl, rfl⟩⟩
set_option maxRecDepth 100000 in
theorem lkF_6_15 : lkFok 6 15 390 := ⟨Nat.le_of_ble_eq_true rfl, Nat.le_of_ble_eq_true rfl, Or.inl ⟨rfl, rfl⟩⟩
set_option maxRecDepth 100000 in
theorem lkF_6_18 : lkFok 6 18 386 := ⟨Nat.le_of_ble_eq_true rfl, Nat.le_of_ble_eq_true rfl, Or.inl ⟨rfl, rfl⟩⟩
set_option maxRecDepth 100000 in
theorem lkF_6_28 : lkFok 6 28 387 := ⟨Nat.le_of_ble_eq_true rfl, Nat.le_of_ble_eq_true rfl, Or.inl ⟨rfl, rfl⟩⟩
set_option maxRecDepth 100000 in
theorem lkF_6_32 : lkFok 6 32 384 := ⟨Nat.le_of_ble_eq_true rfl, Nat.le_of_ble_eq_true rfl, Or.inl ⟨rfl, rfl⟩⟩
set_option maxRecDepth 100000 in
theorem lkF_6_35 : lkFok 6 35 388 := ⟨Nat.le_of_ble_eq_true rfl, Nat.le_of_ble_eq_true rfl, Or.inl ⟨rfl, rfl⟩⟩
set_option maxRecDepth 100000 in
theorem lkF_6_38 : lkFok 6 38 391 := ⟨Nat.le_of_ble_eq_true rfl, Nat.le_of_ble_eq_true rfl, Or.inl ⟨rfl, rfl⟩⟩
set_option maxRecDepth 100000 in
theorem lkF_6_44 : lkFok 6 44 385 := ⟨Nat.le_of_ble_eq_true rfl, Nat.le_of_ble_eq_true rfl, Or.inl ⟨rfl, rfl⟩⟩
set_option maxRecDepth 100000 in
theorem lkF_6_47 : lkFok 6 47 392 := ⟨Nat.le_of_ble_eq_true rfl, Nat.le_of_ble_eq_true rfl, Or.inl ⟨rfl, rfl⟩⟩
theorem lkF_6 (i : Nat) (f : Nat) : zcpF_6 i = some f → lkFok 6 i f := (tr_n (tr_n (tr_n (tr_l (P := fun i f => lkFok 6 i f) lkF_6_11) (tr_l (P := fun i f => lkFok 6 i f) lkF_6_15)) (tr_n (tr_l (P := fun i f => lkFok 6 i f) lkF_6_18) (tr_l (P := fun i f => lkFok 6 i f) lkF_6_28))) (tr_n (tr_n (tr_l (P := fun i f => lkFok 6 i f) lkF_6_32) (tr_l (P := fun i f => lkFok 6 i f) lkF_6_35)) (tr_n (tr_l (P := fun i f => lkFok 6 i f) lkF_6_38) (tr_n (tr_l (P := fun i f => lkFok 6 i f) lkF_6_44) (tr_l (P := fun i f => lkFok 6 i f) lkF_6_47)))))
set_option maxRecDepth 100000 in
theorem lkF_3_9 : lkFok 3 9 195 := ⟨Nat.le_of_ble_eq_true rfl, Nat.le_of_ble_eq_true rfl, Or.inl ⟨rfl, rfl⟩⟩
set_option maxRecDepth 100000 in
theorem lkF_3_20 : lkFok 3 20 194 := ⟨Nat.le_of_ble_eq_true rfl, Nat.le_of_ble_eq_true rfl, Or.inl ⟨rfl, rfl⟩⟩
set_option maxRecDepth 100000 in
theorem lkF_3_24 : lkFok 3 24 192 := ⟨Nat.le_of_ble_eq_true rfl, Nat.le_of_ble_eq_true rfl, Or.inl ⟨rfl, rfl⟩⟩
set_option maxRecDepth 100000 in
theorem lkF_3_28 : lkFok 3 28 193 := ⟨Nat.le_of_ble_eq_true rfl, Nat.le_of_ble_eq_true rfl, Or.inl ⟨rfl, rfl⟩⟩
set_option maxRecDepth 100000 in
theorem lkF_3_39 : lkFok 3 39 384 := ⟨Nat.le_of_ble_eq_true rfl, Nat.le_of_ble_eq_true rfl, Or.inl ⟨rfl, rfl⟩⟩
set_option maxRecDepth 100000 in
theorem lkF_3_45 : lkFok 3 45 196 := ⟨Nat.le_of_ble_eq_true rfl, Nat.le_of_ble_eq_true rfl, Or.inl ⟨rfl, rfl⟩⟩
set_option maxRecDepth 100000 in
theorem lkF_3_49 : lkFok 3 49 197 := ⟨Nat.le_of_ble_eq_true rfl, Nat.le_of_ble_eq_true rfl, Or.inl ⟨rfl, rfl⟩⟩
set_option maxRecDepth 100000 in
theorem lkF_3_53 : lkFok 3 53 198 := ⟨Nat.le_of_ble_eq_true rfl, Nat.le_of_ble_eq_true rfl, Or.inl ⟨rfl, rfl⟩⟩
set_option maxRecDepth 100000 in
theorem lkF_3_56 : lkFok 3 56 199 := ⟨Nat.le_of_ble_eq_true rfl, Nat.le_of_ble_eq_true rfl, Or.inl ⟨rfl, rfl⟩⟩
set_option maxRecDepth 100000 in
theorem lkF_3_65 : lkFok 3 65 576 := ⟨Nat.le_of_ble_eq_true rfl, Nat.le_of_ble_eq_true rfl, Or.inl ⟨rfl, rfl⟩⟩
set_option maxRecDepth 100000 in
theorem lkF_3_71 : lkFok 3 71 577 := ⟨Nat.le_of_ble_eq_true rfl, Nat.le_of_ble_eq_true rfl, Or.inl ⟨rfl, rfl⟩⟩
set_option maxRecDepth 100000 in
theorem lkF_3_82 : lkFok 3 82 385 := ⟨Nat.le_of_ble_eq_true rfl, Nat.le_of_ble_eq_true rfl, Or.inl ⟨rfl, rfl⟩⟩
set_option maxRecDepth 100000 in
theorem lkF_3_111 : lkFok 3 111 256 := ⟨Nat.le_of_ble_eq_true rfl, Nat.le_of_ble_eq_true rfl, Or.inl ⟨rfl, rfl⟩⟩
theorem lkF_3 (i : Nat) (f : Nat) : zcpF_3 i = some f → lkFok 3 i f := (tr_n (tr_n (tr_n (tr_l (P := fun i f => lkFok 3 i f) lkF_3_9) (tr_n (tr_l (P := fun i f => lkFok 3 i f) lkF_3_20) (tr_l (P := fun i f => lkFok 3 i f) lkF_3_24))) (tr_n (tr_l (P := fun i f => lkFok 3 i f) lkF_3_28) (tr_n (tr_l (P := fun i f => lkFok 3 i f) lkF_3_39) (tr_l (P := fun i f => lkFok 3 i f) lkF_3_45)))) (tr_n (tr_n (tr_l (P := fun i f => lkFok 3 i f) lkF_3_49) (tr_n (tr_l (P := fun i f => lkFok 3 i f) lkF_3_53) (tr_l (P := fun i f => lkFok 3 i f) lkF_3_56))) (tr_n (tr_n (tr_l (P := fun i f => lkFok 3 i f) lkF_3_65) (tr_l (P := fun i f => lkFok 3 i f) lkF_3_71)) (tr_n (tr_l (P := fun i f => lkFok 3 i f) lkF_3_82) (tr_l (P := fun i f => lkFok 3 i f) lkF_3_111)))))
set_option maxRecDepth 100000 in
theorem lkF_11_9 : lkFok 11 9 640 := ⟨Nat.le_of_ble_eq_true rfl, Nat.le_of_ble_eq_true rfl, Or.inl ⟨rfl, rfl⟩⟩
set_option maxRecDepth 100000 in
theorem lkF_11_13 : lkFok 11 13 642 := ⟨Nat.le_of_ble_eq_true rfl, Nat.le_of_ble_eq_true rfl, Or.inl ⟨rfl, rfl⟩⟩
set_option maxRecDepth 100000 in
theorem lkF_11_21 : lkFok 11 21 646 := ⟨Nat.le_of_ble_eq_true rfl, Nat.le_of_ble_eq_true rfl, Or.inl ⟨rfl, rfl⟩⟩
set_option maxRecDepth 100000 in
theorem lkF_11_30 : lkFok 11 30 647 := ⟨Nat.le_of_ble_eq_true rfl, Nat.le_of_ble_eq_true rfl, Or.inl ⟨rfl, rfl⟩⟩
set_option maxRecDepth 100000 in
theorem lkF_11_39 : lkFok 11 39 648 := ⟨Nat.le_of_ble_eq_true rfl, Nat.le_of_ble_eq_true rfl, Or.inl ⟨rfl, rfl⟩⟩
set_option maxRecDepth 100000 in
theorem lkF_11_46 : lkFok 11 46 653 := ⟨Nat.le_of_ble_eq_true rfl, Nat.le_of_ble_eq_true rfl, Or.inl ⟨rfl, rfl⟩⟩
set_option maxRecDepth 100000 in
theorem lkF_11_53 : lkFok 11 53 654 := ⟨Nat.le_of_ble_eq_true rfl, Nat.le_of_ble_eq_true rfl, Or.inl ⟨rfl, rfl⟩⟩
set_option maxRecDepth 100000 in
theorem lkF_11_60 : lkFok 11 60 649 := ⟨Nat.le_of_ble_eq_true rfl, Nat.le_of_ble_eq_true rfl, Or.inl ⟨rfl, rfl⟩⟩
set_option maxRecDepth 100000 in
theorem lkF_11_69 : lkFok 11 69 650 := ⟨Nat.le_of_ble_eq_true rfl, Nat.le_of_ble_eq_true rfl, Or.inl ⟨rfl, rfl⟩⟩
set_option maxRecDepth 100000 in
theorem lkF_11_78 : lkFok 11 78 651 := ⟨Nat.le_of_ble_eq_true rfl, Nat.le_of_ble_eq_true rfl, Or.inl ⟨rfl, rfl⟩⟩
set_option maxRecDepth 100000 in
theorem lkF_11_85 : lkFok 11 85 652 := ⟨Nat.le_of_ble_eq_true rfl, Nat.le_of_ble_eq_true rfl, Or.inl ⟨rfl, rfl⟩⟩
set_option maxRecDepth 100000 in
theorem lkF_11_97 : lkFok 11 97 641 := ⟨Nat.le_of_ble_eq_true rfl, Nat.le_of_ble_eq_true rfl, Or.inl ⟨rfl, rfl⟩⟩
set_option maxRecDepth 100000 in
theorem lkF_11_109 : lkFok 11 109 645 := ⟨Nat.le_of_ble_eq_true rfl, Nat.le_of_ble_eq_true rfl, Or.inl ⟨rfl, rfl⟩⟩
set_option maxRecDepth 100000 in
theorem lkF_11_130 : lkFok 11 130 256 := ⟨Nat.le_of_ble_eq_true rfl, Nat.le_of_ble_eq_true rfl, Or.inl ⟨rfl, rfl⟩⟩
set_option maxRecDepth 100000 in
theorem lkF_11_133 : lkFok 11 133 644 := ⟨Nat.le_of_ble_eq_true rfl, Nat.le_of_ble_eq_true rfl, Or.inl ⟨rfl, rfl⟩⟩
set_option maxRecDepth 100000 in
theorem lkF_11_136 : lkFok 11 136 257 := ⟨Nat.le_of_ble_eq_true rfl, Nat.le_of_ble_eq_true rfl, Or.inl ⟨rfl, rfl⟩⟩
set_option maxRecDepth 100000 in
theorem lkF_11_139 : lkFok 11 139 258 := ⟨Nat.le_of_ble_eq_true rfl, Nat.le_of_ble_eq_true rfl, Or.inl ⟨rfl, rfl⟩⟩
set_option maxRecDepth 100000 in
theorem lkF_11_152 : lkFok 11 152 128 := ⟨Nat.le_of_ble_eq_true rfl, Nat.le_of_ble_eq_true rfl, Or.inl ⟨rfl, rfl⟩⟩
set_option maxRecDepth 100000 in
theorem lkF_11_186 : lkFok 11 186 448 := ⟨Nat.le_of_ble_eq_true rfl, Nat.le_of_ble_eq_true rfl, Or.inl ⟨rfl, rfl⟩⟩
set_option maxRecDepth 100000 in
theorem lkF_11_190 : lkFok 11 190 449 := ⟨Nat.le_of_ble_eq_true rfl, Nat.le_of_ble_eq_true rfl, Or.inl ⟨rfl, rfl⟩⟩
set_option maxRecDepth 100000 in
theorem lkF_11_294 : lkFok 11 294 643 := ⟨Nat.le_of_ble_eq_true rfl, Nat.le_of_ble_eq_true rfl, Or.inl ⟨rfl, rfl⟩⟩
set_option maxRecDepth 100000 in
theorem lkF_11_314 : lkFok 11 314 576 := ⟨Nat.le_of_ble_eq_true rfl, Nat.le_of_ble_eq_true rfl, Or.inl ⟨rfl, rfl⟩⟩
set_option maxRecDepth 100000 in
theorem lkF_11_316 : lkFok 11 316 577 := ⟨Nat.le_of_ble_eq_true rfl, Nat.le_of_ble_eq_true rfl, Or.inl ⟨rfl, rfl⟩⟩
set_option maxRecDepth 100000 in
theorem lkF_11_358 : lkFok 11 358 192 := ⟨Nat.le_of_ble_eq_true rfl, Nat.le_of_ble_eq_true rfl, Or.inl ⟨rfl, rfl⟩⟩
set_option maxRecDepth 100000 in
theorem lkF_11_359 : lkFok 11 359 193 := ⟨Nat.le_of_ble_eq_true rfl, Nat.le_of_ble_eq_true rfl, Or.inl ⟨rfl, rfl⟩⟩
theorem lkF_11 (i : Nat) (f : Nat) : zcpF_11 i = some f → lkFok 11 i f := (tr_n (tr_n (tr_n (tr_n (tr_l (P := fun i f => lkFok 11 i f) lkF_11_9) (tr_n (tr_l (P := fun i f => lkFok 11 i f) lkF_11_13) (tr_l (P := fun i f => lkFok 11 i f) lkF_11_21))) (tr_n (tr_l (P := fun i f => lkFok 11 i f) lkF_11_30) (tr_n (tr_l (P := fun i f => lkFok 11 i f) lkF_11_39) (tr_l (P := fun i f => lkFok 11 i f) lkF_11_46)))) (tr_n (tr_n (tr_l (P := fun i f => lkFok 11 i f) lkF_11_53) (tr_n (tr_l (P := fun i f => lkFok 11 i f) lkF_11_60) (tr_l (P := fun i f => lkFok 11 i f) lkF_11_69))) (tr_n (tr_l (P := fun i f => lkFok 11 i f) lkF_11_78) (tr_n (tr_l (P := fun i f => lkFok 11 i f) lkF_11_85) (tr_l (P := fun i f => lkFok 11 i f) lkF_11_97))))) (tr_n (tr_n (tr_n (tr_l (P := fun i f => lkFok 11 i f) lkF_11_109) (tr_n (tr_l (P := fun i f => lkFok 11 i f) lkF_11_130) (tr_l (P := fun i f => lkFok 11 i f) lkF_11_133))) (tr_n (tr_l (P := fun i f => lkFok 11 i f) lkF_11_136) (tr_n (tr_l (P := fun i f => lkFok 11 i f) lkF_11_139) (tr_l (P := fun i f => lkFok 11 i f) lkF_11_152)))) (tr_n (tr_n (tr_l (P := fun i f => lkFok 11 i f) lkF_11_186) (tr_n (tr_l (P := fun i f => lkFok 11 i f) lkF_11_190) (tr_l (P := fun i f => lkFok 11 i f) lkF_11_294))) (tr_n (tr_n (tr_l (P := fun i f => lkFok 11 i f) lkF_11_314) (tr_l (P := fun i f => lkFok 11 i f) lkF_11_316)) (tr_n (tr_l (P := fun i f => lkFok 11 i f) lkF_11_358) (tr_l (P := fun i f => lkFok 11 i f) lkF_11_359))))))
set_option maxRecDepth 100000 in
theorem lkF_9_11 : lkFok 9 11 579 := ⟨Nat.le_of_ble_eq_true rfl, Nat.le_of_ble_eq_true rfl, Or.inl ⟨rfl, rfl⟩⟩
set_option maxRecDepth 100000 in
theorem lkF_9_17 : lkFok 9 17 580 := ⟨Nat.le_of_ble_eq_true rfl, Nat.le_of_ble_eq_true rfl, Or.inl ⟨rfl, rfl⟩⟩
set_option maxRecDepth 100000 in
theorem lkF_9_20 : lkFok 9 20 581 := ⟨Nat.le_of_ble_eq_true rfl, Nat.le_of_ble_eq_true rfl, Or.inl ⟨rfl, rfl⟩⟩
set_option maxRecDepth 100000 in
theorem lkF_9_24 : lkFok 9 24 582 := ⟨Nat.le_of_ble_eq_true rfl, Nat.le_of_ble_eq_true rfl, Or.inl ⟨rfl, rfl⟩⟩
set_option maxRecDepth 100000 in
theorem lkF_9_27 : lkFok 9 27 578 := ⟨Nat.le_of_ble_eq_true rfl, Nat.le_of_ble_eq_true rfl, Or.inl ⟨rfl, rfl⟩⟩
set_option maxRecDepth 100000 in
theorem lkF_9_31 : lkFok 9 31 576 := ⟨Nat.le_of_ble_eq_true rfl, Nat.le_of_ble_eq_true rfl, Or.inl ⟨rfl, rfl⟩⟩
set_option maxRecDepth 100000 in
theorem lkF_9_34 : lkFok 9 34 577 := ⟨Nat.le_of_ble_eq_true rfl, Nat.le_of_ble_eq_true rfl, Or.inl ⟨rfl, rfl⟩⟩
theorem lkF_9 (i : Nat) (f : Nat) : zcpF_9 i = some f → lkFok 9 i f := (tr_n (tr_n (tr_l (P := fun i f => lkFok 9 i f) lkF_9_11) (tr_n (tr_l (P := fun i f => lkFok 9 i f) lkF_9_17) (tr_l (P := fun i f => lkFok 9 i f) lkF_9_20))) (tr_n (tr_n (tr_l (P := fun i f => lkFok 9 i f) lkF_9_24) (tr_l (P := fun i f => lkFok 9 i f) lkF_9_27)) (tr_n (tr_l (P := fun i f => lkFok 9 i f) lkF_9_31) (tr_l (P := fun i f => lkFok 9 i f) lkF_9_34))))
set_option maxRecDepth 100000 in
theorem lkF_2_11 : lkFok 2 11 130 := ⟨Nat.le_of_ble_eq_true rfl, Nat.le_of_ble_eq_true rfl, Or.inl ⟨rfl, rfl⟩⟩
set_option maxRecDepth 100000 in
theorem lkF_2_17 : lkFok 2 17 131 := ⟨Nat.le_of_ble_eq_true rfl, Nat.le_of_ble_eq_true rfl, Or.inl ⟨rfl, rfl⟩⟩
set_option maxRecDepth 100000 in
theorem lkF_2_20 : lkFok 2 20 132 := ⟨Nat.le_of_ble_eq_true rfl, Nat.le_of_ble_eq_true rfl, Or.inl ⟨rfl, rfl⟩⟩
set_option maxRecDepth 100000 in
theorem lkF_2_27 : lkFok 2 27 128 := ⟨Nat.le_of_ble_eq_true rfl, Nat.le_of_ble_eq_true rfl, Or.inl ⟨rfl, rfl⟩⟩
set_option maxRecDepth 100000 in
theorem lkF_2_31 : lkFok 2 31 129 := ⟨Nat.le_of_ble_eq_true rfl, Nat.le_of_ble_eq_true rfl, Or.inl ⟨rfl, rfl⟩⟩
theorem lkF_2 (i : Nat) (f : Nat) : zcpF_2 i = some f → lkFok 2 i f := (tr_n (tr_n (tr_l (P := fun i f => lkFok 2 i f) lkF_2_11) (tr_l (P := fun i f => lkFok 2 i f) lkF_2_17)) (tr_n (tr_l (P := fun i f => lkFok 2 i f) lkF_2_20) (tr_n (tr_l (P := fun i f => lkFok 2 i f) lkF_2_27) (tr_l (P := fun i f => lkFok 2 i f) lkF_2_31))))
set_option maxRecDepth 100000 in
theorem lkF_4_9 : lkFok 4 9 259 := ⟨Nat.le_of_ble_eq_true rfl, Nat.le_of_ble_eq_true rfl, Or.inl ⟨rfl, rfl⟩⟩
set_option maxRecDepth 100000 in
theorem lkF_4_15 : lkFok 4 15 260 := ⟨Nat.le_of_ble_eq_true rfl, Nat.le_of_ble_eq_true rfl, Or.inl ⟨rfl, rfl⟩⟩
set_option maxRecDepth 100000 in
theorem lkF_4_18 : lkFok 4 18 261 := ⟨Nat.le_of_ble_eq_true rfl, Nat.le_of_ble_eq_true rfl, Or.inl ⟨rfl, rfl⟩⟩
set_option maxRecDepth 100000 in
theorem lkF_4_21 : lkFok 4 21 262 := ⟨Nat.le_of_ble_eq_true rfl, Nat.le_of_ble_eq_true rfl, Or.inl ⟨rfl, rfl⟩⟩
set_option maxRecDepth 100000 in
theorem lkF_4_24 : lkFok 4 24 263 := ⟨Nat.le_of_ble_eq_true rfl, Nat.le_of_ble_eq_true rfl, Or.inl ⟨rfl, rfl⟩⟩
set_option maxRecDepth 100000 in
theorem lkF_4_27 : lkFok 4 27 264 := ⟨Nat.le_of_ble_eq_true rfl, Nat.le_of_ble_eq_true rfl, Or.inl ⟨rfl, rfl⟩⟩
set_option maxRecDepth 100000 in
theorem lkF_4_30 : lkFok 4 30 265 := ⟨Nat.le_of_ble_eq_true rfl, Nat.le_of_ble_eq_true rfl, Or.inl ⟨rfl, rfl⟩⟩
set_option maxRecDepth 100000 in
theorem lkF_4_33 : lkFok 4 33 266 := ⟨Nat.le_of_ble_eq_true rfl, Nat.le_of_ble_eq_true rfl, Or.inl ⟨rfl, rfl⟩⟩
set_option maxRecDepth 100000 in
theorem lkF_4_36 : lkFok 4 36 267 := ⟨Nat.le_of_ble_eq_true rfl, Nat.le_of_ble_eq_true rfl, Or.inl ⟨rfl, rfl⟩⟩
set_option maxRecDepth 100000 in
theorem lkF_4_41 : lkFok 4 41 268 := ⟨Nat.le_of_ble_eq_true rfl, Nat.le_of_ble_eq_true rfl, Or.inl ⟨rfl, rfl⟩⟩
set_option maxRecDepth 100000 in
theorem lkF_4_45 : lkFok 4 45 269 := ⟨Nat.le_of_ble_eq_true rfl, Nat.le_of_ble_eq_true rfl, Or.inl ⟨rfl, rfl⟩⟩
set_option maxRecDepth 100000 in
theorem lkF_4_49 : lkFok 4 49 256 := ⟨Nat.le_of_ble_eq_true rfl, Nat.le_of_ble_eq_true rfl, Or.inl ⟨rfl, rfl⟩⟩
set_option maxRecDepth 100000 in
theorem lkF_4_57 : lkFok 4 57 257 := ⟨Nat.le_of_ble_eq_true rfl, Nat.le_of_ble_eq_true rfl, Or.inl ⟨rfl, rfl⟩⟩
set_option maxRecDepth 100000 in
theorem lkF_4_90 : lkFok 4 90 258 := ⟨Nat.le_of_ble_eq_true rfl, Nat.le_of_ble_eq_true rfl, Or.inl ⟨rfl, rfl⟩⟩
theorem lkF_4 (i : Nat) (f : Nat) : zcpF_4 i = some f → lkFok 4 i f := (tr_n (tr_n (tr_n (tr_l (P := fun i f => lkFok 4 i f) lkF_4_9) (tr_n (tr_l (P := fun i f => lkFok 4 i f) lkF_4_15) (tr_l (P := fun i f => lkFok 4 i f) lkF_4_18))) (tr_n (tr_n (tr_l (P := fun i f => lkFok 4 i f) lkF_4_21) (tr_l (P := fun i f => lkFok 4 i f) lkF_4_24)) (tr_n (tr_l (P := fun i f => lkFok 4 i f) lkF_4_27) (tr_l (P := fun i f => lkFok 4 i f) lkF_4_30)))) (tr_n (tr_n (tr_l (P := fun i f => lkFok 4 i f) lkF_4_33) (tr_n (tr_l (P := fun i f => lkFok 4 i f) lkF_4_36) (tr_l (P := fun i f => lkFok 4 i f) lkF_4_41))) (tr_n (tr_n (tr_l (P := fun i f => lkFok 4 i f) lkF_4_45) (tr_l (P := fun i f => lkFok 4 i f) lkF_4_49)) (tr_n (tr_l (P := fun i f => lkFok 4 i f) lkF_4_57) (tr_l (P := fun i f => lkFok 4 i f) lkF_4_90)))))
set_option maxRecDepth 100000 in
theorem lkF_5_9 : lkFok 5 9 323 := ⟨Nat.le_of_ble_eq_true rfl, Nat.le_of_ble_eq_true rfl, Or.inl ⟨rfl, rfl⟩⟩
set_option maxRecDepth 100000 in
theorem lkF_5_15 : lkFok 5 15 324 := ⟨Nat.le_of_ble_eq_true rfl, Nat.le_of_ble_eq_true rfl, Or.inl ⟨rfl, rfl⟩⟩
set_option maxRecDepth 100000 in
theorem lkF_5_18 : lkFok 5 18 325 := ⟨Nat.le_of_ble_eq_true rfl, Nat.le_of_ble_eq_true rfl, Or.inl ⟨rfl, rfl⟩⟩
set_option maxRecDepth 100000 in
theorem lkF_5_22 : lkFok 5 22 320 := ⟨Nat.le_of_ble_eq_true rfl, Nat.le_of_ble_eq_true rfl, Or.inl ⟨rfl, rfl⟩⟩
set_option maxRecDepth 100000 in
theorem lkF_5_26 : lkFok 5 26 321 := ⟨Nat.le_of_ble_eq_true rfl, Nat.le_of_ble_eq_true rfl, Or.inl ⟨rfl, rfl⟩⟩
set_option maxRecDepth 100000 in
theorem lkF_5_30 : lkFok 5 30 322 := ⟨Nat.le_of_ble_eq_true rfl, Nat.le_of_ble_eq_true rfl, Or.inl ⟨rfl, rfl⟩⟩
set_option maxRecDepth 100000 in
theorem lkF_5_34 : lkFok 5 34 256 := ⟨Nat.le_of_ble_eq_true rfl, Nat.le_of_ble_eq_true rfl, Or.inl ⟨rfl, rfl⟩⟩
set_option maxRecDepth 100000 in
theorem lkF_5_83 : lkFok 5 83 263 := ⟨Nat.le_of_ble_eq_true rfl, Nat.le_of_ble_eq_true rfl, Or.inr ⟨rfl, rfl, rfl⟩⟩
set_option maxRecDepth 100000 in
theorem lkF_5_90 : lkFok 5 90 448 := ⟨Nat.le_of_ble_eq_true rfl, Nat.le_of_ble_eq_true rfl, Or.inl ⟨rfl, rfl⟩⟩
set_option maxRecDepth 100000 in
theorem lkF_5_113 : lkFok 5 113 326 := ⟨Nat.le_of_ble_eq_true rfl, Nat.le_of_ble_eq_true rfl, Or.inl ⟨rfl, rfl⟩⟩
set_option maxRecDepth 100000 in
theorem lkF_5_116 : lkFok 5 116 327 := ⟨Nat.le_of_ble_eq_true rfl, Nat.le_of_ble_eq_true rfl, Or.inl ⟨rfl, rfl⟩⟩
set_option maxRecDepth 100000 in
theorem lkF_5_120 : lkFok 5 120 328 := ⟨Nat.le_of_ble_eq_true rfl, Nat.le_of_ble_eq_true rfl, Or.inl ⟨rfl, rfl⟩⟩
set_option maxRecDepth 100000 in
theorem lkF_5_123 : lkFok 5 123 329 := ⟨Nat.le_of_ble_eq_true rfl, Nat.le_of_ble_eq_true rfl, Or.inl ⟨rfl, rfl⟩⟩
set_option maxRecDepth 100000 in
theorem lkF_5_162 : lkFok 5 162 449 := ⟨Nat.le_of_ble_eq_true rfl, Nat.le_of_ble_eq_true rfl, Or.inl ⟨rfl, rfl⟩⟩
theorem lkF_5 (i : Nat) (f : Nat) : zcpF_5 i = some f → lkFok 5 i f := (tr_n (tr_n (tr_n (tr_l (P := fun i f => lkFok 5 i f) lkF_5_9) (tr_n (tr_l (P := fun i f => lkFok 5 i f) lkF_5_15) (tr_l (P := fun i f => lkFok 5 i f) lkF_5_18))) (tr_n (tr_n (tr_l (P := fun i f => lkFok 5 i f) lkF_5_22) (tr_l (P := fun i f => lkFok 5 i f) lkF_5_26)) (tr_n (tr_l (P := fun i f => lkFok 5 i f) lkF_5_30) (tr_l (P := fun i f => lkFok 5 i f) lkF_5_34)))) (tr_n (tr_n (tr_l (P := fun i f => lkFok 5 i f) lkF_5_83) (tr_n (tr_l (P := fun i f => lkFok 5 i f) lkF_5_90) (tr_l (P := fun i f => lkFok 5 i f) lkF_5_113))) (tr_n (tr_n (tr_l (P := fun i f => lkFok 5 i f) lkF_5_116) (tr_l (P := fun i f => lkFok 5 i f) lkF_5_120)) (tr_n (tr_l (P := fun i f => lkFok 5 i f) lkF_5_123) (tr_l (P := fun i f => lkFok 5 i f) lkF_5_162)))))
set_option maxRecDepth 100000 in
theorem lkF_0_9 : lkFok 0 9 3 := ⟨Nat.le_of_ble_eq_true rfl, Nat.le_of_ble_eq_true rfl, Or.inl ⟨rfl, rfl⟩⟩
set_option maxRecDepth 100000 in
theorem lkF_0_15 : lkFok 0 15 4 := ⟨Nat.le_of_ble_eq_true rfl, Nat.le_of_ble_eq_true rfl, Or.inl ⟨rfl, rfl⟩⟩
set_option maxRecDepth 100000 in
theorem lkF_0_18 : lkFok 0 18 0 := ⟨Nat.le_of_ble_eq_true rfl, Nat.le_of_ble_eq_true rfl, Or.inl ⟨rfl, rfl⟩⟩
set_option maxRecDepth 100000 in
theorem lkF_0_22 : lkFok 0 22 1 := ⟨Nat.le_of_ble_eq_true rfl, Nat.le_of_ble_eq_true rfl, Or.inl ⟨rfl, rfl⟩⟩
set_option maxRecDepth 100000 in
theorem lkF_0_26 : lkFok 0 26 2 := ⟨Nat.le_of_ble_eq_true rfl, Nat.le_of_ble_eq_true rfl, Or.inl ⟨rfl, rfl⟩⟩
set_option maxRecDepth 100000 in
theorem lkF_0_48 : lkFok 0 48 448 := ⟨Nat.le_of_ble_eq_true rfl, Nat.le_of_ble_eq_true rfl, Or.inl ⟨rfl, rfl⟩⟩
set_option maxRecDepth 100000 in
theorem lkF_0_64 : lkFok 0 64 257 := ⟨Nat.le_of_ble_eq_true rfl, Nat.le_of_ble_eq_true rfl, Or.inl ⟨rfl, rfl⟩⟩
set_option maxRecDepth 100000 in
theorem lkF_0_83 : lkFok 0 83 256 := ⟨Nat.le_of_ble_eq_true rfl, Nat.le_of_ble_eq_true rfl, Or.inl ⟨rfl, rfl⟩⟩
set_option maxRecDepth 100000 in
theorem lkF_0_117 : lkFok 0 117 449 := ⟨Nat.le_of_ble_eq_true rfl, Nat.le_of_ble_eq_true rfl, Or.inl ⟨rfl, rfl⟩⟩
theorem lkF_0 (i : Nat) (f : Nat) : zcpF_0 i = some f → lkFok 0 i f := (tr_n (tr_n (tr_n (tr_l (P := fun i f => lkFok 0 i f) lkF_0_9) (tr_l (P := fun i f => lkFok 0 i f) lkF_0_15)) (tr_n (tr_l (P := fun i f => lkFok 0 i f) lkF_0_18) (tr_l (P := fun i f => lkFok 0 i f) lkF_0_22))) (tr_n (tr_n (tr_l (P := fun i f => lkFok 0 i f) lkF_0_26) (tr_l (P := fun i f => lkFok 0 i f) lkF_0_48)) (tr_n (tr_l (P := fun i f => lkFok 0 i f) lkF_0_64) (tr_n (tr_l (P := fun i f => lkFok 0 i f) lkF_0_83) (tr_l (P := fun i f => lkFok 0 i f) lkF_0_117)))))
set_option maxRecDepth 100000 in
theorem lkF_19_15 : lkFok 19 15 704 := ⟨Nat.le_of_ble_eq_true rfl, Nat.le_of_ble_eq_true rfl, Or.inl ⟨rfl, rfl⟩⟩
set_option maxRecDepth 100000 in
theorem lkF_19_22 : lkFok 19 22 705 := ⟨Nat.le_of_ble_eq_true rfl, Nat.le_of_ble_eq_true rfl, Or.inl ⟨rfl, rfl⟩⟩
set_option maxRecDepth 100000 in
theorem lkF_19_79 : lkFok 19 79 707 := ⟨Nat.le_of_ble_eq_true rfl, Nat.le_of_ble_eq_true rfl, Or.inl ⟨rfl, rfl⟩⟩
theorem lkF_19 (i : Nat) (f : Nat) : zcpF_19 i = some f → lkFok 19 i f := (tr_n (tr_l (P := fun i f => lkFok 19 i f) lkF_19_15) (tr_n (tr_l (P := fun i f => lkFok 19 i f) lkF_19_22) (tr_l (P := fun i f => lkFok 19 i f) lkF_19_79)))
set_option maxRecDepth 100000 in
theorem lkF_20_9 : lkFok 20 9 768 := ⟨Nat.le_of_ble_eq_true rfl, Nat.le_of_ble_eq_true rfl, Or.inl ⟨rfl, rfl⟩⟩
set_option maxRecDepth 100000 in
theorem lkF_20_15 : lkFok 20 15 769 := ⟨Nat.le_of_ble_eq_true rfl, Nat.le_of_ble_eq_true rfl, Or.inl ⟨rfl, rfl⟩⟩
set_option maxRecDepth 100000 in
theorem lkF_20_1048 : lkFok 20 1048 706 := ⟨Nat.le_of_ble_eq_true rfl, Nat.le_of_ble_eq_true rfl, Or.inl ⟨rfl, rfl⟩⟩
theorem lkF_20 (i : Nat) (f : Nat) : zcpF_20 i = some f → lkFok 20 i f := (tr_n (tr_l (P := fun i f => lkFok 20 i f) lkF_20_9) (tr_n (tr_l (P := fun i f => lkFok 20 i f) lkF_20_15) (tr_l (P := fun i f => lkFok 20 i f) lkF_20_1048)))
theorem lkF (o i : Nat) (f : Nat) : zcpF o i = some f → lkFok o i f := (tr_n (tr_n (tr_n (tr_k (P := fun o => lkFok o i f) (lkF_0 i f)) (tr_n (tr_k (P := fun o => lkFok o i f) (lkF_1 i f)) (tr_k (P := fun o => lkFok o i f) (lkF_2 i f)))) (tr_n (tr_k (P := fun o => lkFok o i f) (lkF_3 i f)) (tr_n (tr_k (P := fun o => lkFok o i f) (lkF_4 i f)) (tr_k (P := fun o => lkFok o i f) (lkF_5 i f))))) (tr_n (tr_n (tr_k (P := fun o => lkFok o i f) (lkF_6 i f)) (tr_n (tr_k (P := fun o => lkFok o i f) (lkF_7 i f)) (tr_k (P := fun o => lkFok o i f) (lkF_8 i f)))) (tr_n (tr_n (tr_k (P := fun o => lkFok o i f) (lkF_9 i f)) (tr_k (P := fun o => lkFok o i f) (lkF_11 i f))) (tr_n (tr_k (P := fun o => lkFok o i f) (lkF_19 i f)) (tr_k (P := fun o => lkFok o i f) (lkF_20 i f))))))
noncomputable def zyI (q : Nat) : MethodName :=
 (bif Nat.blt q 910 then (bif Nat.blt q 905 then (bif Nat.blt q 903 then (bif Nat.blt q 902 then (bif Nat.beq q 901 then ⟨"java/lang/Object", "<init>", "()V"⟩ else ⟨"", "", ""⟩) else
    (bif Nat.beq q 902 then ⟨"java/lang/Float", "floatToRawIntBits", "(F)I"⟩ else ⟨"", "", ""⟩)) else
   (bif Nat.blt q 904 then (bif Nat.beq q 903 then ⟨"java/lang/Double", "doubleToRawLongBits", "(D)J"⟩ else ⟨"", "", ""⟩) else
    (bif Nat.beq q 904 then ⟨"java/lang/String", "length", "()I"⟩ else ⟨"", "", ""⟩))) else
  (bif Nat.blt q 908 then (bif Nat.blt q 906 then (bif Nat.beq q 905 then ⟨"java/lang/String", "charAt", "(I)C"⟩ else ⟨"", "", ""⟩) else
    (bif Nat.beq q 906 then ⟨"java/util/Arrays", "copyOf", "([BI)[B"⟩ else ⟨"", "", ""⟩)) else
   (bif Nat.blt q 909 then (bif Nat.beq q 908 then ⟨"java/lang/String", "getBytes", "([BIB)V"⟩ else ⟨"", "", ""⟩) else
    (bif Nat.beq q 909 then ⟨"java/lang/String", "coder", "()B"⟩ else ⟨"", "", ""⟩)))) else
 (bif Nat.blt q 920 then (bif Nat.blt q 912 then (bif Nat.blt q 911 then (bif Nat.beq q 910 then ⟨"java/lang/IllegalArgumentException", "<init>", "()V"⟩ else ⟨"", "", ""⟩) else
    (bif Nat.beq q 911 then ⟨"java/lang/IllegalStateException", "<init>", "()V"⟩ else ⟨"", "", ""⟩)) else
   (bif Nat.blt q 913 then (bif Nat.beq q 912 then ⟨"java/lang/IndexOutOfBoundsException", "<init>", "()V"⟩ else ⟨"", "", ""⟩) else
    (bif Nat.beq q 913 then ⟨"java/util/NoSuchElementException", "<init>", "()V"⟩ else ⟨"", "", ""⟩))) else
  (bif Nat.blt q 930 then (bif Nat.blt q 921 then (bif Nat.beq q 920 then ⟨"java/lang/String", "length", "()I"⟩ else ⟨"", "", ""⟩) else
    (bif Nat.beq q 921 then ⟨"java/lang/String", "charAt", "(I)C"⟩ else ⟨"", "", ""⟩)) else
   (bif Nat.blt q 931 then (bif Nat.beq q 930 then ⟨"java/lang/System", "arraycopy", "(Ljava/lang/Object;ILjava/lang/Object;II)V"⟩ else ⟨"", "", ""⟩) else
    (bif Nat.blt q 932 then (bif Nat.beq q 931 then ⟨"[B", "clone", "()Ljava/lang/Object;"⟩ else ⟨"", "", ""⟩) else
     (bif Nat.beq q 932 then ⟨"java/lang/String", "checkIndex", "(II)V"⟩ else ⟨"", "", ""⟩))))))
noncomputable def zyy (q : Nat) : MethodName := bif Nat.blt q 900 then zy q else zyI q
noncomputable def zlk (o i q : Nat) : MethodName := bif Nat.beq o 19 && Nat.beq i 43 then ⟨"java/lang/AbstractStringBuilder", "append", "(Ljava/lang/String;)Ljava/lang/AbstractStringBuilder;"⟩ else bif Nat.beq o 20 && Nat.beq i 549 then ⟨"java/lang/AbstractStringBuilder", "length", "()I"⟩ else zyy q
noncomputable def zovs (o i : Nat) : Bool := (Nat.beq o 19 && Nat.beq i 43) || (Nat.beq o 20 && Nat.beq i 549)
noncomputable abbrev lkMok (o i q : Nat) : Prop := zinP (.methodLink (zcn o) i (zlk o i q)) (zplM o i) ∧ (q < 261 ∨ 900 < q) ∧ (!(zspc q) || zctor q || Nat.beq o 12) = true ∧ zovr q = zovs o i
set_option maxRecDepth 100000 in
theorem lkM_13_8 : lkMok 13 8 920 := ⟨⟨rfl, rfl⟩, Or.inr (Nat.le_of_ble_eq_true rfl), rfl, rfl⟩
set_option maxRecDepth 100000 in
theorem lkM_13_14 : lkMok 13 14 921 := ⟨⟨rfl, rfl⟩, Or.inr (Nat.le_of_ble_eq_true rfl), rfl, rfl⟩
set_option maxRecDepth 100000 in
theorem lkM_13_18 : lkMok 13 18 158 := ⟨⟨rfl, rfl⟩, Or.inl (Nat.le_of_ble_eq_true rfl), rfl, rfl⟩
set_option maxRecDepth 100000 in
theorem lkM_13_24 : lkMok 13 24 209 := ⟨⟨rfl, rfl⟩, Or.inl (Nat.le_of_ble_eq_true rfl), rfl, rfl⟩
set_option maxRecDepth 100000 in
theorem lkM_13_30 : lkMok 13 30 160 := ⟨⟨rfl, rfl⟩, Or.inl (Nat.le_of_ble_eq_true rfl), rfl, rfl⟩
set_option maxRecDepth 100000 in
theorem lkM_13_38 : lkMok 13 38 201 := ⟨⟨rfl, rfl⟩, Or.inl (Nat.le_of_ble_eq_true rfl), rfl, rfl⟩
set_option maxRecDepth 100000 in
theorem lkM_13_41 : lkMok 13 41 197 := ⟨⟨rfl, rfl⟩, Or.inl (Nat.le_of_ble_eq_true rfl), rfl, rfl⟩
set_option maxRecDepth 100000 in
theorem lkM_13_47 : lkMok 13 47 198 := ⟨⟨rfl, rfl⟩, Or.inl (Nat.le_of_ble_eq_true rfl), rfl, rfl⟩
set_option maxRecDepth 100000 in
theorem lkM_13_50 : lkMok 13 50 192 := ⟨⟨rfl, rfl⟩, Or.inl (Nat.le_of_ble_eq_true rfl), rfl, rfl⟩
set_option maxRecDepth 100000 in
theorem lkM_13_53 : lkMok 13 53 194 := ⟨⟨rfl, rfl⟩, Or.inl (Nat.le_of_ble_eq_true rfl), rfl, rfl⟩
set_option maxRecDepth 100000 in
theorem lkM_13_56 : lkMok 13 56 195 := ⟨⟨rfl, rfl⟩, Or.inl (Nat.le_of_ble_eq_true rfl), rfl, rfl⟩
set_option maxRecDepth 100000 in
theorem lkM_13_59 : lkMok 13 59 196 := ⟨⟨rfl, rfl⟩, Or.inl (Nat.le_of_ble_eq_true rfl), rfl, rfl⟩
set_option maxRecDepth 100000 in
theorem lkM_13_62 : lkMok 13 62 207 := ⟨⟨rfl, rfl⟩, Or.inl (Nat.le_of_ble_eq_true rfl), rfl, rfl⟩
set_option maxRecDepth 100000 in
theorem lkM_13_72 : lkMok 13 72 180 := ⟨⟨rfl, rfl⟩, Or.inl (Nat.le_of_ble_eq_true rfl), rfl, rfl⟩
set_option maxRecDepth 100000 in
theorem lkM_13_78 : lkMok 13 78 189 := ⟨⟨rfl, rfl⟩, Or.inl (Nat.le_of_ble_eq_true rfl), rfl, rfl⟩
set_option maxRecDepth 100000 in
theorem lkM_13_81 : lkMok 13 81 203 := ⟨⟨rfl, rfl⟩, Or.inl (Nat.le_of_ble_eq_true rfl), rfl, rfl⟩
set_option maxRecDepth 100000 in
theorem lkM_13_100 : lkMok 13 100 80 := ⟨⟨rfl, rfl⟩, Or.inl (Nat.le_of_ble_eq_true rfl), rfl, rfl⟩
set_option maxRecDepth 100000 in
theorem lkM_13_103 : lkMok 13 103 216 := ⟨⟨rfl, rfl⟩, Or.inl (Nat.le_of_ble_eq_true rfl), rfl, rfl⟩
set_option maxRecDepth 100000 in
theorem lkM_13_129 : lkMok 13 129 204 := ⟨⟨rfl, rfl⟩, Or.inl (Nat.le_of_ble_eq_true rfl), rfl, rfl⟩
set_option maxRecDepth 100000 in
theorem lkM_13_135 : lkMok 13 135 149 := ⟨⟨rfl, rfl⟩, Or.inl (Nat.le_of_ble_eq_true rfl), rfl, rfl⟩
set_option maxRecDepth 100000 in
theorem lkM_13_139 : lkMok 13 139 150 := ⟨⟨rfl, rfl⟩, Or.inl (Nat.le_of_ble_eq_true rfl), rfl, rfl⟩
set_option maxRecDepth 100000 in
theorem lkM_13_142 : lkMok 13 142 163 := ⟨⟨rfl, rfl⟩, Or.inl (Nat.le_of_ble_eq_true rfl), rfl, rfl⟩
set_option maxRecDepth 100000 in
theorem lkM_13_145 : lkMok 13 145 164 := ⟨⟨rfl, rfl⟩, Or.inl (Nat.le_of_ble_eq_true rfl), rfl, rfl⟩
set_option maxRecDepth 100000 in
theorem lkM_13_148 : lkMok 13 148 171 := ⟨⟨rfl, rfl⟩, Or.inl (Nat.le_of_ble_eq_true rfl), rfl, rfl⟩
set_option maxRecDepth 100000 in
theorem lkM_13_152 : lkMok 13 152 167 := ⟨⟨rfl, rfl⟩, Or.inl (Nat.le_of_ble_eq_true rfl), rfl, rfl⟩
set_option maxRecDepth 100000 in
theorem lkM_13_156 : lkMok 13 156 169 := ⟨⟨rfl, rfl⟩, Or.inl (Nat.le_of_ble_eq_true rfl), rfl, rfl⟩
set_option maxRecDepth 100000 in
theorem lkM_13_159 : lkMok 13 159 174 := ⟨⟨rfl, rfl⟩, Or.inl (Nat.le_of_ble_eq_true rfl), rfl, rfl⟩
set_option maxRecDepth 100000 in
theorem lkM_13_162 : lkMok 13 162 172 := ⟨⟨rfl, rfl⟩, Or.inl (Nat.le_of_ble_eq_true rfl), rfl, rfl⟩
set_option maxRecDepth 100000 in
theorem lkM_13_165 : lkMok 13 165 226 := ⟨⟨rfl, rfl⟩, Or.inl (Nat.le_of_ble_eq_true rfl), rfl, rfl⟩
set_option maxRecDepth 100000 in
theorem lkM_13_171 : lkMok 13 171 227 := ⟨⟨rfl, rfl⟩, Or.inl (Nat.le_of_ble_eq_true rfl), rfl, rfl⟩
set_option maxRecDepth 100000 in
theorem lkM_13_176 : lkMok 13 176 152 := ⟨⟨rfl, rfl⟩, Or.inl (Nat.le_of_ble_eq_true rfl), rfl, rfl⟩
set_option maxRecDepth 100000 in
theorem lkM_13_179 : lkMok 13 179 153 := ⟨⟨rfl, rfl⟩, Or.inl (Nat.le_of_ble_eq_true rfl), rfl, rfl⟩
set_option maxRecDepth 100000 in
theorem lkM_13_182 : lkMok 13 182 157 := ⟨⟨rfl, rfl⟩, Or.inl (Nat.le_of_ble_eq_true rfl), rfl, rfl⟩
set_option maxRecDepth 100000 in
theorem lkM_13_186 : lkMok 13 186 151 := ⟨⟨rfl, rfl⟩, Or.inl (Nat.le_of_ble_eq_true rfl), rfl, rfl⟩
set_option maxRecDepth 100000 in
theorem lkM_13_190 : lkMok 13 190 191 := ⟨⟨rfl, rfl⟩, Or.inl (Nat.le_of_ble_eq_true rfl), rfl, rfl⟩
set_option maxRecDepth 100000 in
theorem lkM_13_193 : lkMok 13 193 190 := ⟨⟨rfl, rfl⟩, Or.inl (Nat.le_of_ble_eq_true rfl), rfl, rfl⟩
set_option maxRecDepth 100000 in
theorem lkM_13_196 : lkMok 13 196 187 := ⟨⟨rfl, rfl⟩, Or.inl (Nat.le_of_ble_eq_true rfl), rfl, rfl⟩
set_option maxRecDepth 100000 in
theorem lkM_13_199 : lkMok 13 199 179 := ⟨⟨rfl, rfl⟩, Or.inl (Nat.le_of_ble_eq_true rfl), rfl, rfl⟩
set_option maxRecDepth 100000 in
theorem lkM_13_202 : lkMok 13 202 186 := ⟨⟨rfl, rfl⟩, Or.inl (Nat.le_of_ble_eq_true rfl), rfl, rfl⟩
set_option maxRecDepth 100000 in
theorem lkM_13_205 : lkMok 13 205 185 := ⟨⟨rfl, rfl⟩, Or.inl (Nat.le_of_ble_eq_true rfl), rfl, rfl⟩
set_option maxRecDepth 100000 in
theorem lkM_13_208 : lkMok 13 208 175 := ⟨⟨rfl, rfl⟩, Or.inl (Nat.le_of_ble_eq_true rfl), rfl, rfl⟩
set_option maxRecDepth 100000 in
theorem lkM_13_211 : lkMok 13 211 177 := ⟨⟨rfl, rfl⟩, Or.inl (Nat.le_of_ble_eq_true rfl), rfl, rfl⟩
set_option maxRecDepth 100000 in
theorem lkM_13_215 : lkMok 13 215 219 := ⟨⟨rfl, rfl⟩, Or.inl (Nat.le_of_ble_eq_true rfl), rfl, rfl⟩
set_option maxRecDepth 100000 in
theorem lkM_13_219 : lkMok 13 219 176 := ⟨⟨rfl, rfl⟩, Or.inl (Nat.le_of_ble_eq_true rfl), rfl, rfl⟩
set_option maxRecDepth 100000 in
theorem lkM_13_222 : lkMok 13 222 178 := ⟨⟨rfl, rfl⟩, Or.inl (Nat.le_of_ble_eq_true rfl), rfl, rfl⟩
set_option maxRecDepth 100000 in
theorem lkM_13_225 : lkMok 13 225 233 := ⟨⟨rfl, rfl⟩, Or.inl (Nat.le_of_ble_eq_true rfl), rfl, rfl⟩
set_option maxRecDepth 100000 in
theorem lkM_13_231 : lkMok 13 231 154 := ⟨⟨rfl, rfl⟩, Or.inl (Nat.le_of_ble_eq_true rfl), rfl, rfl⟩
set_option maxRecDepth 100000 in
theorem lkM_13_234 : lkMok 13 234 155 := ⟨⟨rfl, rfl⟩, Or.inl (Nat.le_of_ble_eq_true rfl), rfl, rfl⟩
set_option maxRecDepth 100000 in
theorem lkM_13_238 : lkMok 13 238 156 := ⟨⟨rfl, rfl⟩, Or.inl (Nat.le_of_ble_eq_true rfl), rfl, rfl⟩
set_option maxRecDepth 100000 in
theorem lkM_13_241 : lkMok 13 241 235 := ⟨⟨rfl, rfl⟩, Or.inl (Nat.le_of_ble_eq_true rfl), rfl, rfl⟩
set_option maxRecDepth 100000 in
theorem lkM_13_247 : lkMok 13 247 206 := ⟨⟨rfl, rfl⟩, Or.inl (Nat.le_of_ble_eq_true rfl), rfl, rfl⟩
set_option maxRecDepth 100000 in
theorem lkM_13_248 : lkMok 13 248 211 := ⟨⟨rfl, rfl⟩, Or.inl (Nat.le_of_ble_eq_true rfl), rfl, rfl⟩
set_option maxRecDepth 100000 in
theorem lkM_13_252 : lkMok 13 252 181 := ⟨⟨rfl, rfl⟩, Or.inl (Nat.le_of_ble_eq_true rfl), rfl, rfl⟩
set_option maxRecDepth 100000 in
theorem lkM_13_255 : lkMok 13 255 184 := ⟨⟨rfl, rfl⟩, Or.inl (Nat.le_of_ble_eq_true rfl), rfl, rfl⟩
set_option maxRecDepth 100000 in
theorem lkM_13_258 : lkMok 13 258 213 := ⟨⟨rfl, rfl⟩, Or.inl (Nat.le_of_ble_eq_true rfl), rfl, rfl⟩
set_option maxRecDepth 100000 in
theorem lkM_13_260 : lkMok 13 260 147 := ⟨⟨rfl, rfl⟩, Or.inl (Nat.le_of_ble_eq_true rfl), rfl, rfl⟩
set_option maxRecDepth 100000 in
theorem lkM_13_263 : lkMok 13 263 214 := ⟨⟨rfl, rfl⟩, Or.inl (Nat.le_of_ble_eq_true rfl), rfl, rfl⟩
set_option maxRecDepth 100000 in
theorem lkM_13_265 : lkMok 13 265 221 := ⟨⟨rfl, rfl⟩, Or.inl (Nat.le_of_ble_eq_true rfl), rfl, rfl⟩
set_option maxRecDepth 100000 in
theorem lkM_13_269 : lkMok 13 269 222 := ⟨⟨rfl, rfl⟩, Or.inl (Nat.le_of_ble_eq_true rfl), rfl, rfl⟩
set_option maxRecDepth 100000 in
theorem lkM_13_271 : lkMok 13 271 223 := ⟨⟨rfl, rfl⟩, Or.inl (Nat.le_of_ble_eq_true rfl), rfl, rfl⟩
set_option maxRecDepth 100000 in
theorem lkM_13_276 : lkMok 13 276 212 := ⟨⟨rfl, rfl⟩, Or.inl (Nat.le_of_ble_eq_true rfl), rfl, rfl⟩
set_option maxRecDepth 100000 in
theorem lkM_13_279 : lkMok 13 279 146 := ⟨⟨rfl, rfl⟩, Or.inl (Nat.le_of_ble_eq_true rfl), rfl, rfl⟩
set_option maxRecDepth 100000 in
theorem lkM_13_280 : lkMok 13 280 215 := ⟨⟨rfl, rfl⟩, Or.inl (Nat.le_of_ble_eq_true rfl), rfl, rfl⟩
set_option maxRecDepth 100000 in
theorem lkM_13_283 : lkMok 13 283 208 := ⟨⟨rfl, rfl⟩, Or.inl (Nat.le_of_ble_eq_true rfl), rfl, rfl⟩
set_option maxRecDepth 100000 in
theorem lkM_13_285 : lkMok 13 285 202 := ⟨⟨rfl, rfl⟩, Or.inl (Nat.le_of_ble_eq_true rfl), rfl, rfl⟩
set_option maxRecDepth 100000 in
theorem lkM_13_288 : lkMok 13 288 217 := ⟨⟨rfl, rfl⟩, Or.inl (Nat.le_of_ble_eq_true rfl), rfl, rfl⟩
set_option maxRecDepth 100000 in
theorem lkM_13_296 : lkMok 13 296 220 := ⟨⟨rfl, rfl⟩, Or.inl (Nat.le_of_ble_eq_true rfl), rfl, rfl⟩
set_option maxRecDepth 100000 in
theorem lkM_13_300 : lkMok 13 300 218 := ⟨⟨rfl, rfl⟩, Or.inl (Nat.le_of_ble_eq_true rfl), rfl, rfl⟩
set_option maxRecDepth 100000 in
theorem lkM_13_304 : lkMok 13 304 210 := ⟨⟨rfl, rfl⟩, Or.inl (Nat.le_of_ble_eq_true rfl), rfl, rfl⟩
set_option maxRecDepth 100000 in
theorem lkM_13_308 : lkMok 13 308 199 := ⟨⟨rfl, rfl⟩, Or.inl (Nat.le_of_ble_eq_true rfl), rfl, rfl⟩
theorem lkM_13 (i : Nat) (f : Nat) : zcpM_13 i = some f → lkMok 13 i f := (tr_n (tr_n (tr_n (tr_n (tr_n (tr_n (tr_l (P := fun i f => lkMok 13 i f) lkM_13_8) (tr_l (P := fun i f => lkMok 13 i f) lkM_13_14)) (tr_n (tr_l (P := fun i f => lkMok 13 i f) lkM_13_18) (tr_l (P := fun i f => lkMok 13 i f) lkM_13_24))) (tr_n (tr_n (tr_l (P := fun i f => lkMok 13 i f) lkM_13_30) (tr_l (P := fun i f => lkMok 13 i f) lkM_13_38)) (tr_n (tr_l (P := fun i f => lkMok 13 i f) lkM_13_41) (tr_l (P := fun i f => lkMok 13 i f) lkM_13_47)))) (tr_n (tr_n (tr_n (tr_l (P := fun i f => lkMok 13 i f) lkM_13_50) (tr_l (P := fun i f => lkMok 13 i f) lkM_13_53)) (tr_n (tr_l (P := fun i f => lkMok 13 i f) lkM_13_56) (tr_l (P := fun i f => lkMok 13 i f) lkM_13_59))) (tr_n (tr_n (tr_l (P := fun i f => lkMok 13 i f) lkM_13_62) (tr_l (P := fun i f => lkMok 13 i f) lkM_13_72)) (tr_n (tr_l (P := fun i f => lkMok 13 i f) lkM_13_78) (tr_n (tr_l (P := fun i f => lkMok 13 i f) lkM_13_81) (tr_l (P := fun i f => lkMok 13 i f) lkM_13_100)))))) (tr_n (tr_n (tr_n (tr_n (tr_l (P := fun i f => lkMok 13 i f) lkM_13_103) (tr_l (P := fun i f => lkMok 13 i f) lkM_13_129)) (tr_n (tr_l (P := fun i f => lkMok 13 i f) lkM_13_135) (tr_l (P := fun i f => lkMok 13 i f) lkM_13_139))) (tr_n (tr_n (tr_l (P := fun i f => lkMok 13 i f) lkM_13_142) (tr_l (P := fun i f => lkMok 13 i f) lkM_13_145)) (tr_n (tr_l (P := fun i f => lkMok 13 i f) lkM_13_148) (tr_n (tr_l (P := fun i f => lkMok 13 i f) lkM_13_152) (tr_l (P := fun i f => lkMok 13 i f) lkM_13_156))))) (tr_n (tr_n (tr_n (tr_l (P := fun i f => lkMok 13 i f) lkM_13_159) (tr_l (P := fun i f => lkMok 13 i f) lkM_13_162)) (tr_n (tr_l (P := fun i f => lkMok 13 i f) lkM_13_165) (tr_l (P := fun i f => lkMok 13 i f) lkM_13_171))) (tr_n (tr_n (tr_l (P := fun i f => lkMok 13 i f) lkM_13_176) (tr_l (P := fun i f => lkMok 13 i f) lkM_13_179)) (tr_n (tr_l (P := fun i f => lkMok 13 i f) lkM_13_182) (tr_n (tr_l (P := fun i f => lkMok 13 i f) lkM_13_186) (tr_l (P := fun i f => lkMok 13 i f) lkM_13_190))))))) (tr_n (tr_n (tr_n (tr_n (tr_n (tr_l (P := fun i f => lkMok 13 i f) lkM_13_193) (tr_l (P := fun i f => lkMok 13 i f) lkM_13_196)) (tr_n (tr_l (P := fun i f => lkMok 13 i f) lkM_13_199) (tr_l (P := fun i f => lkMok 13 i f) lkM_13_202))) (tr_n (tr_n (tr_l (P := fun i f => lkMok 13 i f) lkM_13_205) (tr_l (P := fun i f => lkMok 13 i f) lkM_13_208)) (tr_n (tr_l (P := fun i f => lkMok 13 i f) lkM_13_211) (tr_l (P := fun i f => lkMok 13 i f) lkM_13_215)))) (tr_n (tr_n (tr_n (tr_l (P := fun i f => lkMok 13 i f) lkM_13_219) (tr_l (P := fun i f => lkMok 13 i f) lkM_13_222)) (tr_n (tr_l (P := fun i f => lkMok 13 i f) lkM_13_225) (tr_l (P := fun i f => lkMok 13 i f) lkM_13_231))) (tr_n (tr_n (tr_l (P := fun i f => lkMok 13 i f) lkM_13_234) (tr_l (P := fun i f => lkMok 13 i f) lkM_13_238)) (tr_n (tr_l (P := fun i f => lkMok 13 i f) lkM_13_241) (tr_n (tr_l (P := fun i f => lkMok 13 i f) lkM_13_247) (tr_l (P := fun i f => lkMok 13 i f) lkM_13_248)))))) (tr_n (tr_n (tr_n (tr_n (tr_l (P := fun i f => lkMok 13 i f) lkM_13_252) (tr_l (P := fun i f => lkMok 13 i f) lkM_13_255)) (tr_n (tr_l (P := fun i f => lkMok 13 i f) lkM_13_258) (tr_l (P := fun i f => lkMok 13 i f) lkM_13_260))) (tr_n (tr_n (tr_l (P := fun i f => lkMok 13 i f) lkM_13_263) (tr_l (P := fun i f => lkMok 13 i f) lkM_13_265)) (tr_n (tr_l (P := fun i f => lkMok 13 i f) lkM_13_269) (tr_n (tr_l (P := fun i f => lkMok 13 i f) lkM_13_271) (tr_l (P := fun i f => lkMok 13 i f) lkM_13_276))))) (tr_n (tr_n (tr_n (tr_l (P := fun i f => lkMok 13 i f) lkM_13_279) (tr_l (P := fun i f => lkMok 13 i f) lkM_13_280)) (tr_n (tr_l (P := fun i f => lkMok 13 i f) lkM_13_283) (tr_l (P := fun i f => lkMok 13 i f) lkM_13_285))) (tr_n (tr_n (tr_l (P := fun i f => lkMok 13 i f) lkM_13_288) (tr_l (P := fun i f => lkMok 13 i f) lkM_13_296)) (tr_n (tr_l (P := fun i f => lkMok 13 i f) lkM_13_300) (tr_n (tr_l (P := fun i f => lkMok 13 i f) lkM_13_304) (tr_l (P := fun i f => lkMok 13 i f) lkM_13_308))))))))
set_option maxRecDepth 100000 in
theorem lkM_11_3 : lkMok 11 3 901 := ⟨⟨rfl, rfl⟩, Or.inr (Nat.le_of_ble_eq_true rfl), rfl, rfl⟩
set_option maxRecDepth 100000 in
theorem lkM_11_18 : lkMok 11 18 13 := ⟨⟨rfl, rfl⟩, Or.inl (Nat.le_of_ble_eq_true rfl), rfl, rfl⟩
set_option maxRecDepth 100000 in
theorem lkM_11_27 : lkMok 11 27 23 := ⟨⟨rfl, rfl⟩, Or.inl (Nat.le_of_ble_eq_true rfl), rfl, rfl⟩
set_option maxRecDepth 100000 in
theorem lkM_11_36 : lkMok 11 36 15 := ⟨⟨rfl, rfl⟩, Or.inl (Nat.le_of_ble_eq_true rfl), rfl, rfl⟩
set_option maxRecDepth 100000 in
theorem lkM_11_45 : lkMok 11 45 35 := ⟨⟨rfl, rfl⟩, Or.inl (Nat.le_of_ble_eq_true rfl), rfl, rfl⟩
set_option maxRecDepth 100000 in
theorem lkM_11_52 : lkMok 11 52 124 := ⟨⟨rfl, rfl⟩, Or.inl (Nat.le_of_ble_eq_true rfl), rfl, rfl⟩
set_option maxRecDepth 100000 in
theorem lkM_11_59 : lkMok 11 59 92 := ⟨⟨rfl, rfl⟩, Or.inl (Nat.le_of_ble_eq_true rfl), rfl, rfl⟩
set_option maxRecDepth 100000 in
theorem lkM_11_66 : lkMok 11 66 57 := ⟨⟨rfl, rfl⟩, Or.inl (Nat.le_of_ble_eq_true rfl), rfl, rfl⟩
set_option maxRecDepth 100000 in
theorem lkM_11_75 : lkMok 11 75 0 := ⟨⟨rfl, rfl⟩, Or.inl (Nat.le_of_ble_eq_true rfl), rfl, rfl⟩
set_option maxRecDepth 100000 in
theorem lkM_11_84 : lkMok 11 84 113 := ⟨⟨rfl, rfl⟩, Or.inl (Nat.le_of_ble_eq_true rfl), rfl, rfl⟩
set_option maxRecDepth 100000 in
theorem lkM_11_91 : lkMok 11 91 136 := ⟨⟨rfl, rfl⟩, Or.inl (Nat.le_of_ble_eq_true rfl), rfl, rfl⟩
set_option maxRecDepth 100000 in
theorem lkM_11_101 : lkMok 11 101 24 := ⟨⟨rfl, rfl⟩, Or.inl (Nat.le_of_ble_eq_true rfl), rfl, rfl⟩
set_option maxRecDepth 100000 in
theorem lkM_11_105 : lkMok 11 105 25 := ⟨⟨rfl, rfl⟩, Or.inl (Nat.le_of_ble_eq_true rfl), rfl, rfl⟩
set_option maxRecDepth 100000 in
theorem lkM_11_112 : lkMok 11 112 1 := ⟨⟨rfl, rfl⟩, Or.inl (Nat.le_of_ble_eq_true rfl), rfl, rfl⟩
set_option maxRecDepth 100000 in
theorem lkM_11_117 : lkMok 11 117 911 := ⟨⟨rfl, rfl⟩, Or.inr (Nat.le_of_ble_eq_true rfl), rfl, rfl⟩
set_option maxRecDepth 100000 in
theorem lkM_11_118 : lkMok 11 118 159 := ⟨⟨rfl, rfl⟩, Or.inl (Nat.le_of_ble_eq_true rfl), rfl, rfl⟩
set_option maxRecDepth 100000 in
theorem lkM_11_121 : lkMok 11 121 161 := ⟨⟨rfl, rfl⟩, Or.inl (Nat.le_of_ble_eq_true rfl), rfl, rfl⟩
set_option maxRecDepth 100000 in
theorem lkM_11_124 : lkMok 11 124 162 := ⟨⟨rfl, rfl⟩, Or.inl (Nat.le_of_ble_eq_true rfl), rfl, rfl⟩
set_option maxRecDepth 100000 in
theorem lkM_11_127 : lkMok 11 127 16 := ⟨⟨rfl, rfl⟩, Or.inl (Nat.le_of_ble_eq_true rfl), rfl, rfl⟩
set_option maxRecDepth 100000 in
theorem lkM_11_142 : lkMok 11 142 132 := ⟨⟨rfl, rfl⟩, Or.inl (Nat.le_of_ble_eq_true rfl), rfl, rfl⟩
set_option maxRecDepth 100000 in
theorem lkM_11_146 : lkMok 11 146 10 := ⟨⟨rfl, rfl⟩, Or.inl (Nat.le_of_ble_eq_true rfl), rfl, rfl⟩
set_option maxRecDepth 100000 in
theorem lkM_11_149 : lkMok 11 149 11 := ⟨⟨rfl, rfl⟩, Or.inl (Nat.le_of_ble_eq_true rfl), rfl, rfl⟩
set_option maxRecDepth 100000 in
theorem lkM_11_155 : lkMok 11 155 910 := ⟨⟨rfl, rfl⟩, Or.inr (Nat.le_of_ble_eq_true rfl), rfl, rfl⟩
set_option maxRecDepth 100000 in
theorem lkM_11_156 : lkMok 11 156 165 := ⟨⟨rfl, rfl⟩, Or.inl (Nat.le_of_ble_eq_true rfl), rfl, rfl⟩
set_option maxRecDepth 100000 in
theorem lkM_11_159 : lkMok 11 159 36 := ⟨⟨rfl, rfl⟩, Or.inl (Nat.le_of_ble_eq_true rfl), rfl, rfl⟩
set_option maxRecDepth 100000 in
theorem lkM_11_162 : lkMok 11 162 109 := ⟨⟨rfl, rfl⟩, Or.inl (Nat.le_of_ble_eq_true rfl), rfl, rfl⟩
set_option maxRecDepth 100000 in
theorem lkM_11_165 : lkMok 11 165 55 := ⟨⟨rfl, rfl⟩, Or.inl (Nat.le_of_ble_eq_true rfl), rfl, rfl⟩
set_option maxRecDepth 100000 in
theorem lkM_11_168 : lkMok 11 168 41 := ⟨⟨rfl, rfl⟩, Or.inl (Nat.le_of_ble_eq_true rfl), rfl, rfl⟩
set_option maxRecDepth 100000 in
theorem lkM_11_171 : lkMok 11 171 56 := ⟨⟨rfl, rfl⟩, Or.inl (Nat.le_of_ble_eq_true rfl), rfl, rfl⟩
set_option maxRecDepth 100000 in
theorem lkM_11_174 : lkMok 11 174 40 := ⟨⟨rfl, rfl⟩, Or.inl (Nat.le_of_ble_eq_true rfl), rfl, rfl⟩
set_option maxRecDepth 100000 in
theorem lkM_11_177 : lkMok 11 177 131 := ⟨⟨rfl, rfl⟩, Or.inl (Nat.le_of_ble_eq_true rfl), rfl, rfl⟩
set_option maxRecDepth 100000 in
theorem lkM_11_180 : lkMok 11 180 166 := ⟨⟨rfl, rfl⟩, Or.inl (Nat.le_of_ble_eq_true rfl), rfl, rfl⟩
set_option maxRecDepth 100000 in
theorem lkM_11_183 : lkMok 11 183 46 := ⟨⟨rfl, rfl⟩, Or.inl (Nat.le_of_ble_eq_true rfl), rfl, rfl⟩
set_option maxRecDepth 100000 in
theorem lkM_11_193 : lkMok 11 193 168 := ⟨⟨rfl, rfl⟩, Or.inl (Nat.le_of_ble_eq_true rfl), rfl, rfl⟩
set_option maxRecDepth 100000 in
theorem lkM_11_196 : lkMok 11 196 53 := ⟨⟨rfl, rfl⟩, Or.inl (Nat.le_of_ble_eq_true rfl), rfl, rfl⟩
set_option maxRecDepth 100000 in
theorem lkM_11_199 : lkMok 11 199 103 := ⟨⟨rfl, rfl⟩, Or.inl (Nat.le_of_ble_eq_true rfl), rfl, rfl⟩
set_option maxRecDepth 100000 in
theorem lkM_11_203 : lkMok 11 203 107 := ⟨⟨rfl, rfl⟩, Or.inl (Nat.le_of_ble_eq_true rfl), rfl, rfl⟩
set_option maxRecDepth 100000 in
theorem lkM_11_206 : lkMok 11 206 170 := ⟨⟨rfl, rfl⟩, Or.inl (Nat.le_of_ble_eq_true rfl), rfl, rfl⟩
set_option maxRecDepth 100000 in
theorem lkM_11_209 : lkMok 11 209 108 := ⟨⟨rfl, rfl⟩, Or.inl (Nat.le_of_ble_eq_true rfl), rfl, rfl⟩
set_option maxRecDepth 100000 in
theorem lkM_11_213 : lkMok 11 213 4 := ⟨⟨rfl, rfl⟩, Or.inl (Nat.le_of_ble_eq_true rfl), rfl, rfl⟩
set_option maxRecDepth 100000 in
theorem lkM_11_216 : lkMok 11 216 39 := ⟨⟨rfl, rfl⟩, Or.inl (Nat.le_of_ble_eq_true rfl), rfl, rfl⟩
set_option maxRecDepth 100000 in
theorem lkM_11_219 : lkMok 11 219 173 := ⟨⟨rfl, rfl⟩, Or.inl (Nat.le_of_ble_eq_true rfl), rfl, rfl⟩
set_option maxRecDepth 100000 in
theorem lkM_11_222 : lkMok 11 222 9 := ⟨⟨rfl, rfl⟩, Or.inl (Nat.le_of_ble_eq_true rfl), rfl, rfl⟩
set_option maxRecDepth 100000 in
theorem lkM_11_225 : lkMok 11 225 226 := ⟨⟨rfl, rfl⟩, Or.inl (Nat.le_of_ble_eq_true rfl), rfl, rfl⟩
set_option maxRecDepth 100000 in
theorem lkM_11_231 : lkMok 11 231 110 := ⟨⟨rfl, rfl⟩, Or.inl (Nat.le_of_ble_eq_true rfl), rfl, rfl⟩
set_option maxRecDepth 100000 in
theorem lkM_11_234 : lkMok 11 234 60 := ⟨⟨rfl, rfl⟩, Or.inl (Nat.le_of_ble_eq_true rfl), rfl, rfl⟩
set_option maxRecDepth 100000 in
theorem lkM_11_237 : lkMok 11 237 75 := ⟨⟨rfl, rfl⟩, Or.inl (Nat.le_of_ble_eq_true rfl), rfl, rfl⟩
set_option maxRecDepth 100000 in
theorem lkM_11_240 : lkMok 11 240 76 := ⟨⟨rfl, rfl⟩, Or.inl (Nat.le_of_ble_eq_true rfl), rfl, rfl⟩
set_option maxRecDepth 100000 in
theorem lkM_11_244 : lkMok 11 244 77 := ⟨⟨rfl, rfl⟩, Or.inl (Nat.le_of_ble_eq_true rfl), rfl, rfl⟩
set_option maxRecDepth 100000 in
theorem lkM_11_248 : lkMok 11 248 78 := ⟨⟨rfl, rfl⟩, Or.inl (Nat.le_of_ble_eq_true rfl), rfl, rfl⟩
set_option maxRecDepth 100000 in
theorem lkM_11_254 : lkMok 11 254 64 := ⟨⟨rfl, rfl⟩, Or.inl (Nat.le_of_ble_eq_true rfl), rfl, rfl⟩
set_option maxRecDepth 100000 in
theorem lkM_11_258 : lkMok 11 258 66 := ⟨⟨rfl, rfl⟩, Or.inl (Nat.le_of_ble_eq_true rfl), rfl, rfl⟩
set_option maxRecDepth 100000 in
theorem lkM_11_261 : lkMok 11 261 73 := ⟨⟨rfl, rfl⟩, Or.inl (Nat.le_of_ble_eq_true rfl), rfl, rfl⟩
set_option maxRecDepth 100000 in
theorem lkM_11_265 : lkMok 11 265 74 := ⟨⟨rfl, rfl⟩, Or.inl (Nat.le_of_ble_eq_true rfl), rfl, rfl⟩
set_option maxRecDepth 100000 in
theorem lkM_11_269 : lkMok 11 269 182 := ⟨⟨rfl, rfl⟩, Or.inl (Nat.le_of_ble_eq_true rfl), rfl, rfl⟩
set_option maxRecDepth 100000 in
theorem lkM_11_272 : lkMok 11 272 183 := ⟨⟨rfl, rfl⟩, Or.inl (Nat.le_of_ble_eq_true rfl), rfl, rfl⟩
set_option maxRecDepth 100000 in
theorem lkM_11_276 : lkMok 11 276 12 := ⟨⟨rfl, rfl⟩, Or.inl (Nat.le_of_ble_eq_true rfl), rfl, rfl⟩
set_option maxRecDepth 100000 in
theorem lkM_11_281 : lkMok 11 281 114 := ⟨⟨rfl, rfl⟩, Or.inl (Nat.le_of_ble_eq_true rfl), rfl, rfl⟩
set_option maxRecDepth 100000 in
theorem lkM_11_284 : lkMok 11 284 117 := ⟨⟨rfl, rfl⟩, Or.inl (Nat.le_of_ble_eq_true rfl), rfl, rfl⟩
set_option maxRecDepth 100000 in
theorem lkM_11_287 : lkMok 11 287 122 := ⟨⟨rfl, rfl⟩, Or.inl (Nat.le_of_ble_eq_true rfl), rfl, rfl⟩
set_option maxRecDepth 100000 in
theorem lkM_11_291 : lkMok 11 291 188 := ⟨⟨rfl, rfl⟩, Or.inl (Nat.le_of_ble_eq_true rfl), rfl, rfl⟩
set_option maxRecDepth 100000 in
theorem lkM_11_300 : lkMok 11 300 95 := ⟨⟨rfl, rfl⟩, Or.inl (Nat.le_of_ble_eq_true rfl), rfl, rfl⟩
set_option maxRecDepth 100000 in
theorem lkM_11_303 : lkMok 11 303 99 := ⟨⟨rfl, rfl⟩, Or.inl (Nat.le_of_ble_eq_true rfl), rfl, rfl⟩
set_option maxRecDepth 100000 in
theorem lkM_11_306 : lkMok 11 306 193 := ⟨⟨rfl, rfl⟩, Or.inl (Nat.le_of_ble_eq_true rfl), rfl, rfl⟩
set_option maxRecDepth 100000 in
theorem lkM_11_310 : lkMok 11 310 17 := ⟨⟨rfl, rfl⟩, Or.inl (Nat.le_of_ble_eq_true rfl), rfl, rfl⟩
set_option maxRecDepth 100000 in
theorem lkM_11_318 : lkMok 11 318 125 := ⟨⟨rfl, rfl⟩, Or.inl (Nat.le_of_ble_eq_true rfl), rfl, rfl⟩
set_option maxRecDepth 100000 in
theorem lkM_11_322 : lkMok 11 322 127 := ⟨⟨rfl, rfl⟩, Or.inl (Nat.le_of_ble_eq_true rfl), rfl, rfl⟩
set_option maxRecDepth 100000 in
theorem lkM_11_325 : lkMok 11 325 112 := ⟨⟨rfl, rfl⟩, Or.inl (Nat.le_of_ble_eq_true rfl), rfl, rfl⟩
set_option maxRecDepth 100000 in
theorem lkM_11_328 : lkMok 11 328 133 := ⟨⟨rfl, rfl⟩, Or.inl (Nat.le_of_ble_eq_true rfl), rfl, rfl⟩
set_option maxRecDepth 100000 in
theorem lkM_11_332 : lkMok 11 332 135 := ⟨⟨rfl, rfl⟩, Or.inl (Nat.le_of_ble_eq_true rfl), rfl, rfl⟩
set_option maxRecDepth 100000 in
theorem lkM_11_335 : lkMok 11 335 200 := ⟨⟨rfl, rfl⟩, Or.inl (Nat.le_of_ble_eq_true rfl), rfl, rfl⟩
set_option maxRecDepth 100000 in
theorem lkM_11_338 : lkMok 11 338 18 := ⟨⟨rfl, rfl⟩, Or.inl (Nat.le_of_ble_eq_true rfl), rfl, rfl⟩
set_option maxRecDepth 100000 in
theorem lkM_11_342 : lkMok 11 342 19 := ⟨⟨rfl, rfl⟩, Or.inl (Nat.le_of_ble_eq_true rfl), rfl, rfl⟩
set_option maxRecDepth 100000 in
theorem lkM_11_346 : lkMok 11 346 20 := ⟨⟨rfl, rfl⟩, Or.inl (Nat.le_of_ble_eq_true rfl), rfl, rfl⟩
set_option maxRecDepth 100000 in
theorem lkM_11_349 : lkMok 11 349 21 := ⟨⟨rfl, rfl⟩, Or.inl (Nat.le_of_ble_eq_true rfl), rfl, rfl⟩
set_option maxRecDepth 100000 in
theorem lkM_11_352 : lkMok 11 352 22 := ⟨⟨rfl, rfl⟩, Or.inl (Nat.le_of_ble_eq_true rfl), rfl, rfl⟩
set_option maxRecDepth 100000 in
theorem lkM_11_355 : lkMok 11 355 34 := ⟨⟨rfl, rfl⟩, Or.inl (Nat.le_of_ble_eq_true rfl), rfl, rfl⟩
set_option maxRecDepth 100000 in
theorem lkM_11_360 : lkMok 11 360 52 := ⟨⟨rfl, rfl⟩, Or.inl (Nat.le_of_ble_eq_true rfl), rfl, rfl⟩
set_option maxRecDepth 100000 in
theorem lkM_11_364 : lkMok 11 364 14 := ⟨⟨rfl, rfl⟩, Or.inl (Nat.le_of_ble_eq_true rfl), rfl, rfl⟩
set_option maxRecDepth 100000 in
theorem lkM_11_367 : lkMok 11 367 129 := ⟨⟨rfl, rfl⟩, Or.inl (Nat.le_of_ble_eq_true rfl), rfl, rfl⟩
set_option maxRecDepth 100000 in
theorem lkM_11_369 : lkMok 11 369 130 := ⟨⟨rfl, rfl⟩, Or.inl (Nat.le_of_ble_eq_true rfl), rfl, rfl⟩
set_option maxRecDepth 100000 in
theorem lkM_11_371 : lkMok 11 371 128 := ⟨⟨rfl, rfl⟩, Or.inl (Nat.le_of_ble_eq_true rfl), rfl, rfl⟩
set_option maxRecDepth 100000 in
theorem lkM_11_376 : lkMok 11 376 138 := ⟨⟨rfl, rfl⟩, Or.inl (Nat.le_of_ble_eq_true rfl), rfl, rfl⟩
set_option maxRecDepth 100000 in
theorem lkM_11_382 : lkMok 11 382 913 := ⟨⟨rfl, rfl⟩, Or.inr (Nat.le_of_ble_eq_true rfl), rfl, rfl⟩
theorem lkM_11 (i : Nat) (f : Nat) : zcpM_11 i = some f → lkMok 11 i f := (tr_n (tr_n (tr_n (tr_n (tr_n (tr_n (tr_l (P := fun i f => lkMok 11 i f) lkM_11_3) (tr_l (P := fun i f => lkMok 11 i f) lkM_11_18)) (tr_n (tr_l (P := fun i f => lkMok 11 i f) lkM_11_27) (tr_n (tr_l (P := fun i f => lkMok 11 i f) lkM_11_36) (tr_l (P := fun i f => lkMok 11 i f) lkM_11_45)))) (tr_n (tr_n (tr_l (P := fun i f => lkMok 11 i f) lkM_11_52) (tr_l (P := fun i f => lkMok 11 i f) lkM_11_59)) (tr_n (tr_l (P := fun i f => lkMok 11 i f) lkM_11_66) (tr_n (tr_l (P := fun i f => lkMok 11 i f) lkM_11_75) (tr_l (P := fun i f => lkMok 11 i f) lkM_11_84))))) (tr_n (tr_n (tr_n (tr_l (P := fun i f => lkMok 11 i f) lkM_11_91) (tr_l (P := fun i f => lkMok 11 i f) lkM_11_101)) (tr_n (tr_l (P := fun i f => lkMok 11 i f) lkM_11_105) (tr_n (tr_l (P := fun i f => lkMok 11 i f) lkM_11_112) (tr_l (P := fun i f => lkMok 11 i f) lkM_11_117)))) (tr_n (tr_n (tr_l (P := fun i f => lkMok 11 i f) lkM_11_118) (tr_n (tr_l (P := fun i f => lkMok 11 i f) lkM_11_121) (tr_l (P := fun i f => lkMok 11 i f) lkM_11_124))) (tr_n (tr_l (P := fun i f => lkMok 11 i f) lkM_11_127) (tr_n (tr_l (P := fun i f => lkMok 11 i f) lkM_11_142) (tr_l (P := fun i f => lkMok 11 i f) lkM_11_146)))))) (tr_n (tr_n (tr_n (tr_n (tr_l (P := fun i f => lkMok 11 i f) lkM_11_149) (tr_l (P := fun i f => lkMok 11 i f) lkM_11_155)) (tr_n (tr_l (P := fun i f => lkMok 11 i f) lkM_11_156) (tr_n (tr_l (P := fun i f => lkMok 11 i f) lkM_11_159) (tr_l (P := fun i f => lkMok 11 i f) lkM_11_162)))) (tr_n (tr_n (tr_l (P := fun i f => lkMok 11 i f) lkM_11_165) (tr_l (P := fun i f => lkMok 11 i f) lkM_11_168)) (tr_n (tr_l (P := fun i f => lkMok 11 i f) lkM_11_171) (tr_n (tr_l (P := fun i f => lkMok 11 i f) lkM_11_174) (tr_l (P := fun i f => lkMok 11 i f) lkM_11_177))))) (tr_n (tr_n (tr_n (tr_l (P := fun i f => lkMok 11 i f) lkM_11_180) (tr_l (P := fun i f => lkMok 11 i f) lkM_11_183)) (tr_n (tr_l (P := fun i f => lkMok 11 i f) lkM_11_193) (tr_n (tr_l (P := fun i f => lkMok 11 i f) lkM_11_196) (tr_l (P := fun i f => lkMok 11 i f) lkM_11_199)))) (tr_n (tr_n (tr_l (P := fun i f => lkMok 11 i f) lkM_11_203) (tr_n (tr_l (P := fun i f => lkMok 11 i f) lkM_11_206) (tr_l (P := fun i f => lkMok 11 i f) lkM_11_209))) (tr_n (tr_l (P := fun i f => lkMok 11 i f) lkM_11_213) (tr_n (tr_l (P := fun i f => lkMok 11 i f) lkM_11_216) (tr_l (P := fun i f => lkMok 11 i f) lkM_11_219))))))) (tr_n (tr_n (tr_n (tr_n (tr_n (tr_l (P := fun i f => lkMok 11 i f) lkM_11_222) (tr_l (P := fun i f => lkMok 11 i f) lkM_11_225)) (tr_n (tr_l (P := fun i f => lkMok 11 i f) lkM_11_231) (tr_n (tr_l (P := fun i f => lkMok 11 i f) lkM_11_234) (tr_l (P := fun i f => lkMok 11 i f) lkM_11_237)))) (tr_n (tr_n (tr_l (P := fun i f => lkMok 11 i f) lkM_11_240) (tr_l (P := fun i f => lkMok 11 i f) lkM_11_244)) (tr_n (tr_l (P := fun i f => lkMok 11 i f) lkM_11_248) (tr_n (tr_l (P := fun i f => lkMok 11 i f) lkM_11_254) (tr_l (P := fun i f => lkMok 11 i f) lkM_11_258))))) (tr_n (tr_n (tr_n (tr_l (P := fun i f => lkMok 11 i f) lkM_11_261) (tr_l (P := fun i f => lkMok 11 i f) lkM_11_265)) (tr_n (tr_l (P := fun i f => lkMok 11 i f) lkM_11_269) (tr_n (tr_l (P := fun i f => lkMok 11 i f) lkM_11_272) (tr_l (P := fun i f => lkMok 11 i f) lkM_11_276)))) (tr_n (tr_n (tr_l (P := fun i f => lkMok 11 i f) lkM_11_281) (tr_n (tr_l (P := fun i f => lkMok 11 i f) lkM_11_284) (tr_l (P := fun i f => lkMok 11 i f) lkM_11_287))) (tr_n (tr_l (P := fun i f => lkMok 11 i f) lkM_11_291) (tr_n (tr_l (P := fun i f => lkMok 11 i f) lkM_11_300) (tr_l (P := fun i f => lkMok 11 i f) lkM_11_303)))))) (tr_n (tr_n (tr_n (tr_n (tr_l (P := fun i f => lkMok 11 i f) lkM_11_306) (tr_l (P := fun i f => lkMok 11 i f) lkM_11_310)) (tr_n (tr_l (P := fun i f => lkMok 11 i f) lkM_11_318) (tr_n (tr_l (P := fun i f => lkMok 11 i f) lkM_11_322) (tr_l (P := fun i f => lkMok 11 i f) lkM_11_325)))) (tr_n (tr_n (tr_l (P := fun i f => lkMok 11 i f) lkM_11_328) (tr_l (P := fun i f => lkMok 11 i f) lkM_11_332)) (tr_n (tr_l (P := fun i f => lkMok 11 i f) lkM_11_335) (tr_n (tr_l (P := fun i f => lkMok 11 i f) lkM_11_338) (tr_l (P := fun i f => lkMok 11 i f) lkM_11_342))))) (tr_n (tr_n (tr_n (tr_l (P := fun i f => lkMok 11 i f) lkM_11_346) (tr_l (P := fun i f => lkMok 11 i f) lkM_11_349)) (tr_n (tr_l (P := fun i f => lkMok 11 i f) lkM_11_352) (tr_n (tr_l (P := fun i f => lkMok 11 i f) lkM_11_355) (tr_l (P := fun i f => lkMok 11 i f) lkM_11_360)))) (tr_n (tr_n (tr_l (P := fun i f => lkMok 11 i f) lkM_11_364) (tr_n (tr_l (P := fun i f => lkMok 11 i f) lkM_11_367) (tr_l (P := fun i f => lkMok 11 i f) lkM_11_369))) (tr_n (tr_l (P := fun i f => lkMok 11 i f) lkM_11_371) (tr_n (tr_l (P := fun i f => lkMok 11 i f) lkM_11_376) (tr_l (P := fun i f => lkMok 11 i f) lkM_11_382))))))))
set_option maxRecDepth 100000 in
theorem lkM_1_1 : lkMok 1 1 901 := ⟨⟨rfl, rfl⟩, Or.inr (Nat.le_of_ble_eq_true rfl), rfl, rfl⟩
set_option maxRecDepth 100000 in
theorem lkM_1_7 : lkMok 1 7 223 := ⟨⟨rfl, rfl⟩, Or.inl (Nat.le_of_ble_eq_true rfl), rfl, rfl⟩
set_option maxRecDepth 100000 in
theorem lkM_1_13 : lkMok 1 13 906 := ⟨⟨rfl, rfl⟩, Or.inr (Nat.le_of_ble_eq_true rfl), rfl, rfl⟩
theorem lkM_1 (i : Nat) (f : Nat) : zcpM_1 i = some f → lkMok 1 i f := (tr_n (tr_l (P := fun i f => lkMok 1 i f) lkM_1_1) (tr_n (tr_l (P := fun i f => lkMok 1 i f) lkM_1_7) (tr_l (P := fun i f => lkMok 1 i f) lkM_1_13)))
set_option maxRecDepth 100000 in
theorem lkM_16_150 : lkMok 16 150 930 := ⟨⟨rfl, rfl⟩, Or.inr (Nat.le_of_ble_eq_true rfl), rfl, rfl⟩
set_option maxRecDepth 100000 in
theorem lkM_16_304 : lkMok 16 304 224 := ⟨⟨rfl, rfl⟩, Or.inl (Nat.le_of_ble_eq_true rfl), rfl, rfl⟩
set_option maxRecDepth 100000 in
theorem lkM_16_310 : lkMok 16 310 931 := ⟨⟨rfl, rfl⟩, Or.inr (Nat.le_of_ble_eq_true rfl), rfl, rfl⟩
set_option maxRecDepth 100000 in
theorem lkM_16_339 : lkMok 16 339 230 := ⟨⟨rfl, rfl⟩, Or.inl (Nat.le_of_ble_eq_true rfl), rfl, rfl⟩
set_option maxRecDepth 100000 in
theorem lkM_16_343 : lkMok 16 343 231 := ⟨⟨rfl, rfl⟩, Or.inl (Nat.le_of_ble_eq_true rfl), rfl, rfl⟩
theorem lkM_16 (i : Nat) (f : Nat) : zcpM_16 i = some f → lkMok 16 i f := (tr_n (tr_n (tr_l (P := fun i f => lkMok 16 i f) lkM_16_150) (tr_l (P := fun i f => lkMok 16 i f) lkM_16_304)) (tr_n (tr_l (P := fun i f => lkMok 16 i f) lkM_16_310) (tr_n (tr_l (P := fun i f => lkMok 16 i f) lkM_16_339) (tr_l (P := fun i f => lkMok 16 i f) lkM_16_343))))
set_option maxRecDepth 100000 in
theorem lkM_3_3 : lkMok 3 3 901 := ⟨⟨rfl, rfl⟩, Or.inr (Nat.le_of_ble_eq_true rfl), rfl, rfl⟩
set_option maxRecDepth 100000 in
theorem lkM_3_17 : lkMok 3 17 81 := ⟨⟨rfl, rfl⟩, Or.inl (Nat.le_of_ble_eq_true rfl), rfl, rfl⟩
set_option maxRecDepth 100000 in
theorem lkM_3_31 : lkMok 3 31 82 := ⟨⟨rfl, rfl⟩, Or.inl (Nat.le_of_ble_eq_true rfl), rfl, rfl⟩
set_option maxRecDepth 100000 in
theorem lkM_3_35 : lkMok 3 35 28 := ⟨⟨rfl, rfl⟩, Or.inl (Nat.le_of_ble_eq_true rfl), rfl, rfl⟩
set_option maxRecDepth 100000 in
theorem lkM_3_42 : lkMok 3 42 27 := ⟨⟨rfl, rfl⟩, Or.inl (Nat.le_of_ble_eq_true rfl), rfl, rfl⟩
set_option maxRecDepth 100000 in
theorem lkM_3_62 : lkMok 3 62 26 := ⟨⟨rfl, rfl⟩, Or.inl (Nat.le_of_ble_eq_true rfl), rfl, rfl⟩
set_option maxRecDepth 100000 in
theorem lkM_3_74 : lkMok 3 74 30 := ⟨⟨rfl, rfl⟩, Or.inl (Nat.le_of_ble_eq_true rfl), rfl, rfl⟩
set_option maxRecDepth 100000 in
theorem lkM_3_77 : lkMok 3 77 49 := ⟨⟨rfl, rfl⟩, Or.inl (Nat.le_of_ble_eq_true rfl), rfl, rfl⟩
set_option maxRecDepth 100000 in
theorem lkM_3_85 : lkMok 3 85 91 := ⟨⟨rfl, rfl⟩, Or.inl (Nat.le_of_ble_eq_true rfl), rfl, rfl⟩
set_option maxRecDepth 100000 in
theorem lkM_3_88 : lkMok 3 88 36 := ⟨⟨rfl, rfl⟩, Or.inl (Nat.le_of_ble_eq_true rfl), rfl, rfl⟩
set_option maxRecDepth 100000 in
theorem lkM_3_92 : lkMok 3 92 144 := ⟨⟨rfl, rfl⟩, Or.inl (Nat.le_of_ble_eq_true rfl), rfl, rfl⟩
set_option maxRecDepth 100000 in
theorem lkM_3_96 : lkMok 3 96 31 := ⟨⟨rfl, rfl⟩, Or.inl (Nat.le_of_ble_eq_true rfl), rfl, rfl⟩
set_option maxRecDepth 100000 in
theorem lkM_3_99 : lkMok 3 99 33 := ⟨⟨rfl, rfl⟩, Or.inl (Nat.le_of_ble_eq_true rfl), rfl, rfl⟩
set_option maxRecDepth 100000 in
theorem lkM_3_102 : lkMok 3 102 47 := ⟨⟨rfl, rfl⟩, Or.inl (Nat.le_of_ble_eq_true rfl), rfl, rfl⟩
set_option maxRecDepth 100000 in
theorem lkM_3_105 : lkMok 3 105 40 := ⟨⟨rfl, rfl⟩, Or.inl (Nat.le_of_ble_eq_true rfl), rfl, rfl⟩
set_option maxRecDepth 100000 in
theorem lkM_3_108 : lkMok 3 108 48 := ⟨⟨rfl, rfl⟩, Or.inl (Nat.le_of_ble_eq_true rfl), rfl, rfl⟩
set_option maxRecDepth 100000 in
theorem lkM_3_114 : lkMok 3 114 38 := ⟨⟨rfl, rfl⟩, Or.inl (Nat.le_of_ble_eq_true rfl), rfl, rfl⟩
set_option maxRecDepth 100000 in
theorem lkM_3_118 : lkMok 3 118 32 := ⟨⟨rfl, rfl⟩, Or.inl (Nat.le_of_ble_eq_true rfl), rfl, rfl⟩
set_option maxRecDepth 100000 in
theorem lkM_3_121 : lkMok 3 121 45 := ⟨⟨rfl, rfl⟩, Or.inl (Nat.le_of_ble_eq_true rfl), rfl, rfl⟩
set_option maxRecDepth 100000 in
theorem lkM_3_125 : lkMok 3 125 46 := ⟨⟨rfl, rfl⟩, Or.inl (Nat.le_of_ble_eq_true rfl), rfl, rfl⟩
set_option maxRecDepth 100000 in
theorem lkM_3_128 : lkMok 3 128 125 := ⟨⟨rfl, rfl⟩, Or.inl (Nat.le_of_ble_eq_true rfl), rfl, rfl⟩
set_option maxRecDepth 100000 in
theorem lkM_3_131 : lkMok 3 131 127 := ⟨⟨rfl, rfl⟩, Or.inl (Nat.le_of_ble_eq_true rfl), rfl, rfl⟩
set_option maxRecDepth 100000 in
theorem lkM_3_134 : lkMok 3 134 145 := ⟨⟨rfl, rfl⟩, Or.inl (Nat.le_of_ble_eq_true rfl), rfl, rfl⟩
set_option maxRecDepth 100000 in
theorem lkM_3_137 : lkMok 3 137 44 := ⟨⟨rfl, rfl⟩, Or.inl (Nat.le_of_ble_eq_true rfl), rfl, rfl⟩
set_option maxRecDepth 100000 in
theorem lkM_3_141 : lkMok 3 141 29 := ⟨⟨rfl, rfl⟩, Or.inl (Nat.le_of_ble_eq_true rfl), rfl, rfl⟩
set_option maxRecDepth 100000 in
theorem lkM_3_145 : lkMok 3 145 142 := ⟨⟨rfl, rfl⟩, Or.inl (Nat.le_of_ble_eq_true rfl), rfl, rfl⟩
set_option maxRecDepth 100000 in
theorem lkM_3_148 : lkMok 3 148 143 := ⟨⟨rfl, rfl⟩, Or.inl (Nat.le_of_ble_eq_true rfl), rfl, rfl⟩
set_option maxRecDepth 100000 in
theorem lkM_3_153 : lkMok 3 153 13 := ⟨⟨rfl, rfl⟩, Or.inl (Nat.le_of_ble_eq_true rfl), rfl, rfl⟩
set_option maxRecDepth 100000 in
theorem lkM_3_156 : lkMok 3 156 140 := ⟨⟨rfl, rfl⟩, Or.inl (Nat.le_of_ble_eq_true rfl), rfl, rfl⟩
set_option maxRecDepth 100000 in
theorem lkM_3_159 : lkMok 3 159 141 := ⟨⟨rfl, rfl⟩, Or.inl (Nat.le_of_ble_eq_true rfl), rfl, rfl⟩
theorem lkM_3 (i : Nat) (f : Nat) : zcpM_3 i = some f → lkMok 3 i f := (tr_n (tr_n (tr_n (tr_n (tr_l (P := fun i f => lkMok 3 i f) lkM_3_3) (tr_n (tr_l (P := fun i f => lkMok 3 i f) lkM_3_17) (tr_l (P := fun i f => lkMok 3 i f) lkM_3_31))) (tr_n (tr_n (tr_l (P := fun i f => lkMok 3 i f) lkM_3_35) (tr_l (P := fun i f => lkMok 3 i f) lkM_3_42)) (tr_n (tr_l (P := fun i f => lkMok 3 i f) lkM_3_62) (tr_l (P := fun i f => lkMok 3 i f) lkM_3_74)))) (tr_n (tr_n (tr_n (tr_l (P := fun i f => lkMok 3 i f) lkM_3_77) (tr_l (P := fun i f => lkMok 3 i f) lkM_3_85)) (tr_n (tr_l (P := fun i f => lkMok 3 i f) lkM_3_88) (tr_l (P := fun i f => lkMok 3 i f) lkM_3_92))) (tr_n (tr_n (tr_l (P := fun i f => lkMok 3 i f) lkM_3_96) (tr_l (P := fun i f => lkMok 3 i f) lkM_3_99)) (tr_n (tr_l (P := fun i f => lkMok 3 i f) lkM_3_102) (tr_l (P := fun i f => lkMok 3 i f) lkM_3_105))))) (tr_n (tr_n (tr_n (tr_l (P := fun i f => lkMok 3 i f) lkM_3_108) (tr_n (tr_l (P := fun i f => lkMok 3 i f) lkM_3_114) (tr_l (P := fun i f => lkMok 3 i f) lkM_3_118))) (tr_n (tr_n (tr_l (P := fun i f => lkMok 3 i f) lkM_3_121) (tr_l (P := fun i f => lkMok 3 i f) lkM_3_125)) (tr_n (tr_l (P := fun i f => lkMok 3 i f) lkM_3_128) (tr_l (P := fun i f => lkMok 3 i f) lkM_3_131)))) (tr_n (tr_n (tr_n (tr_l (P := fun i f => lkMok 3 i f) lkM_3_134) (tr_l (P := fun i f => lkMok 3 i f) lkM_3_137)) (tr_n (tr_l (P := fun i f => lkMok 3 i f) lkM_3_141) (tr_l (P := fun i f => lkMok 3 i f) lkM_3_145))) (tr_n (tr_n (tr_l (P := fun i f => lkMok 3 i f) lkM_3_148) (tr_l (P := fun i f => lkMok 3 i f) lkM_3_153)) (tr_n (tr_l (P := fun i f => lkMok 3 i f) lkM_3_156) (tr_l (P := fun i f => lkMok 3 i f) lkM_3_159))))))
set_option maxRecDepth 100000 in
theorem lkM_6_3 : lkMok 6 3 901 := ⟨⟨rfl, rfl⟩, Or.inr (Nat.le_of_ble_eq_true rfl), rfl, rfl⟩
set_option maxRecDepth 100000 in
theorem lkM_6_22 : lkMok 6 22 224 := ⟨⟨rfl, rfl⟩, Or.inl (Nat.le_of_ble_eq_true rfl), rfl, rfl⟩
set_option maxRecDepth 100000 in
theorem lkM_6_41 : lkMok 6 41 83 := ⟨⟨rfl, rfl⟩, Or.inl (Nat.le_of_ble_eq_true rfl), rfl, rfl⟩
set_option maxRecDepth 100000 in
theorem lkM_6_50 : lkMok 6 50 91 := ⟨⟨rfl, rfl⟩, Or.inl (Nat.le_of_ble_eq_true rfl), rfl, rfl⟩
set_option maxRecDepth 100000 in
theorem lkM_6_53 : lkMok 6 53 84 := ⟨⟨rfl, rfl⟩, Or.inl (Nat.le_of_ble_eq_true rfl), rfl, rfl⟩
set_option maxRecDepth 100000 in
theorem lkM_6_57 : lkMok 6 57 85 := ⟨⟨rfl, rfl⟩, Or.inl (Nat.le_of_ble_eq_true rfl), rfl, rfl⟩
set_option maxRecDepth 100000 in
theorem lkM_6_60 : lkMok 6 60 86 := ⟨⟨rfl, rfl⟩, Or.inl (Nat.le_of_ble_eq_true rfl), rfl, rfl⟩
set_option maxRecDepth 100000 in
theorem lkM_6_64 : lkMok 6 64 87 := ⟨⟨rfl, rfl⟩, Or.inl (Nat.le_of_ble_eq_true rfl), rfl, rfl⟩
set_option maxRecDepth 100000 in
theorem lkM_6_67 : lkMok 6 67 137 := ⟨⟨rfl, rfl⟩, Or.inl (Nat.le_of_ble_eq_true rfl), rfl, rfl⟩
set_option maxRecDepth 100000 in
theorem lkM_6_73 : lkMok 6 73 88 := ⟨⟨rfl, rfl⟩, Or.inl (Nat.le_of_ble_eq_true rfl), rfl, rfl⟩
set_option maxRecDepth 100000 in
theorem lkM_6_76 : lkMok 6 76 89 := ⟨⟨rfl, rfl⟩, Or.inl (Nat.le_of_ble_eq_true rfl), rfl, rfl⟩
set_option maxRecDepth 100000 in
theorem lkM_6_79 : lkMok 6 79 90 := ⟨⟨rfl, rfl⟩, Or.inl (Nat.le_of_ble_eq_true rfl), rfl, rfl⟩
theorem lkM_6 (i : Nat) (f : Nat) : zcpM_6 i = some f → lkMok 6 i f := (tr_n (tr_n (tr_n (tr_l (P := fun i f => lkMok 6 i f) lkM_6_3) (tr_n (tr_l (P := fun i f => lkMok 6 i f) lkM_6_22) (tr_l (P := fun i f => lkMok 6 i f) lkM_6_41))) (tr_n (tr_l (P := fun i f => lkMok 6 i f) lkM_6_50) (tr_n (tr_l (P := fun i f => lkMok 6 i f) lkM_6_53) (tr_l (P := fun i f => lkMok 6 i f) lkM_6_57)))) (tr_n (tr_n (tr_l (P := fun i f => lkMok 6 i f) lkM_6_60) (tr_n (tr_l (P := fun i f => lkMok 6 i f) lkM_6_64) (tr_l (P := fun i f => lkMok 6 i f) lkM_6_67))) (tr_n (tr_l (P := fun i f => lkMok 6 i f) lkM_6_73) (tr_n (tr_l (P := fun i f => lkMok 6 i f) lkM_6_76) (tr_l (P := fun i f => lkMok 6 i f) lkM_6_79)))))
set_option maxRecDepth 100000 in
theorem lkM_2_3 : lkMok 2 3 901 := ⟨⟨rfl, rfl⟩, Or.inr (Nat.le_of_ble_eq_true rfl), rfl, rfl⟩
set_option maxRecDepth 100000 in
theorem lkM_2_24 : lkMok 2 24 124 := ⟨⟨rfl, rfl⟩, Or.inl (Nat.le_of_ble_eq_true rfl), rfl, rfl⟩
set_option maxRecDepth 100000 in
theorem lkM_2_34 : lkMok 2 34 225 := ⟨⟨rfl, rfl⟩, Or.inl (Nat.le_of_ble_eq_true rfl), rfl, rfl⟩
set_option maxRecDepth 100000 in
theorem lkM_2_40 : lkMok 2 40 134 := ⟨⟨rfl, rfl⟩, Or.inl (Nat.le_of_ble_eq_true rfl), rfl, rfl⟩
set_option maxRecDepth 100000 in
theorem lkM_2_44 : lkMok 2 44 224 := ⟨⟨rfl, rfl⟩, Or.inl (Nat.le_of_ble_eq_true rfl), rfl, rfl⟩
set_option maxRecDepth 100000 in
theorem lkM_2_47 : lkMok 2 47 18 := ⟨⟨rfl, rfl⟩, Or.inl (Nat.le_of_ble_eq_true rfl), rfl, rfl⟩
theorem lkM_2 (i : Nat) (f : Nat) : zcpM_2 i = some f → lkMok 2 i f := (tr_n (tr_n (tr_l (P := fun i f => lkMok 2 i f) lkM_2_3) (tr_n (tr_l (P := fun i f => lkMok 2 i f) lkM_2_24) (tr_l (P := fun i f => lkMok 2 i f) lkM_2_34))) (tr_n (tr_l (P := fun i f => lkMok 2 i f) lkM_2_40) (tr_n (tr_l (P := fun i f => lkMok 2 i f) lkM_2_44) (tr_l (P := fun i f => lkMok 2 i f) lkM_2_47))))
set_option maxRecDepth 100000 in
theorem lkM_9_3 : lkMok 9 3 901 := ⟨⟨rfl, rfl⟩, Or.inr (Nat.le_of_ble_eq_true rfl), rfl, rfl⟩
set_option maxRecDepth 100000 in
theorem lkM_9_37 : lkMok 9 37 126 := ⟨⟨rfl, rfl⟩, Or.inl (Nat.le_of_ble_eq_true rfl), rfl, rfl⟩
theorem lkM_9 (i : Nat) (f : Nat) : zcpM_9 i = some f → lkMok 9 i f := (tr_n (tr_l (P := fun i f => lkMok 9 i f) lkM_9_3) (tr_l (P := fun i f => lkMok 9 i f) lkM_9_37))
set_option maxRecDepth 100000 in
theorem lkM_4_3 : lkMok 4 3 901 := ⟨⟨rfl, rfl⟩, Or.inr (Nat.le_of_ble_eq_true rfl), rfl, rfl⟩
set_option maxRecDepth 100000 in
theorem lkM_4_53 : lkMok 4 53 37 := ⟨⟨rfl, rfl⟩, Or.inl (Nat.le_of_ble_eq_true rfl), rfl, rfl⟩
set_option maxRecDepth 100000 in
theorem lkM_4_60 : lkMok 4 60 47 := ⟨⟨rfl, rfl⟩, Or.inl (Nat.le_of_ble_eq_true rfl), rfl, rfl⟩
set_option maxRecDepth 100000 in
theorem lkM_4_64 : lkMok 4 64 48 := ⟨⟨rfl, rfl⟩, Or.inl (Nat.le_of_ble_eq_true rfl), rfl, rfl⟩
set_option maxRecDepth 100000 in
theorem lkM_4_67 : lkMok 4 67 36 := ⟨⟨rfl, rfl⟩, Or.inl (Nat.le_of_ble_eq_true rfl), rfl, rfl⟩
set_option maxRecDepth 100000 in
theorem lkM_4_70 : lkMok 4 70 50 := ⟨⟨rfl, rfl⟩, Or.inl (Nat.le_of_ble_eq_true rfl), rfl, rfl⟩
set_option maxRecDepth 100000 in
theorem lkM_4_73 : lkMok 4 73 41 := ⟨⟨rfl, rfl⟩, Or.inl (Nat.le_of_ble_eq_true rfl), rfl, rfl⟩
set_option maxRecDepth 100000 in
theorem lkM_4_76 : lkMok 4 76 40 := ⟨⟨rfl, rfl⟩, Or.inl (Nat.le_of_ble_eq_true rfl), rfl, rfl⟩
set_option maxRecDepth 100000 in
theorem lkM_4_79 : lkMok 4 79 39 := ⟨⟨rfl, rfl⟩, Or.inl (Nat.le_of_ble_eq_true rfl), rfl, rfl⟩
set_option maxRecDepth 100000 in
theorem lkM_4_83 : lkMok 4 83 42 := ⟨⟨rfl, rfl⟩, Or.inl (Nat.le_of_ble_eq_true rfl), rfl, rfl⟩
set_option maxRecDepth 100000 in
theorem lkM_4_86 : lkMok 4 86 43 := ⟨⟨rfl, rfl⟩, Or.inl (Nat.le_of_ble_eq_true rfl), rfl, rfl⟩
theorem lkM_4 (i : Nat) (f : Nat) : zcpM_4 i = some f → lkMok 4 i f := (tr_n (tr_n (tr_n (tr_l (P := fun i f => lkMok 4 i f) lkM_4_3) (tr_l (P := fun i f => lkMok 4 i f) lkM_4_53)) (tr_n (tr_l (P := fun i f => lkMok 4 i f) lkM_4_60) (tr_n (tr_l (P := fun i f => lkMok 4 i f) lkM_4_64) (tr_l (P := fun i f => lkMok 4 i f) lkM_4_67)))) (tr_n (tr_n (tr_l (P := fun i f => lkMok 4 i f) lkM_4_70) (tr_n (tr_l (P := fun i f => lkMok 4 i f) lkM_4_73) (tr_l (P := fun i f => lkMok 4 i f) lkM_4_76))) (tr_n (tr_l (P := fun i f => lkMok 4 i f) lkM_4_79) (tr_n (tr_l (P := fun i f => lkMok 4 i f) lkM_4_83) (tr_l (P := fun i f => lkMok 4 i f) lkM_4_86)))))
set_option maxRecDepth 100000 in
theorem lkM_7_3 : lkMok 7 3 901 := ⟨⟨rfl, rfl⟩, Or.inr (Nat.le_of_ble_eq_true rfl), rfl, rfl⟩
set_option maxRecDepth 100000 in
theorem lkM_7_50 : lkMok 7 50 93 := ⟨⟨rfl, rfl⟩, Or.inl (Nat.le_of_ble_eq_true rfl), rfl, rfl⟩
set_option maxRecDepth 100000 in
theorem lkM_7_54 : lkMok 7 54 13 := ⟨⟨rfl, rfl⟩, Or.inl (Nat.le_of_ble_eq_true rfl), rfl, rfl⟩
set_option maxRecDepth 100000 in
theorem lkM_7_76 : lkMok 7 76 14 := ⟨⟨rfl, rfl⟩, Or.inl (Nat.le_of_ble_eq_true rfl), rfl, rfl⟩
set_option maxRecDepth 100000 in
theorem lkM_7_80 : lkMok 7 80 95 := ⟨⟨rfl, rfl⟩, Or.inl (Nat.le_of_ble_eq_true rfl), rfl, rfl⟩
set_option maxRecDepth 100000 in
theorem lkM_7_83 : lkMok 7 83 99 := ⟨⟨rfl, rfl⟩, Or.inl (Nat.le_of_ble_eq_true rfl), rfl, rfl⟩
set_option maxRecDepth 100000 in
theorem lkM_7_101 : lkMok 7 101 100 := ⟨⟨rfl, rfl⟩, Or.inl (Nat.le_of_ble_eq_true rfl), rfl, rfl⟩
set_option maxRecDepth 100000 in
theorem lkM_7_108 : lkMok 7 108 101 := ⟨⟨rfl, rfl⟩, Or.inl (Nat.le_of_ble_eq_true rfl), rfl, rfl⟩
set_option maxRecDepth 100000 in
theorem lkM_7_111 : lkMok 7 111 36 := ⟨⟨rfl, rfl⟩, Or.inl (Nat.le_of_ble_eq_true rfl), rfl, rfl⟩
set_option maxRecDepth 100000 in
theorem lkM_7_115 : lkMok 7 115 46 := ⟨⟨rfl, rfl⟩, Or.inl (Nat.le_of_ble_eq_true rfl), rfl, rfl⟩
set_option maxRecDepth 100000 in
theorem lkM_7_118 : lkMok 7 118 128 := ⟨⟨rfl, rfl⟩, Or.inl (Nat.le_of_ble_eq_true rfl), rfl, rfl⟩
set_option maxRecDepth 100000 in
theorem lkM_7_121 : lkMok 7 121 51 := ⟨⟨rfl, rfl⟩, Or.inl (Nat.le_of_ble_eq_true rfl), rfl, rfl⟩
set_option maxRecDepth 100000 in
theorem lkM_7_124 : lkMok 7 124 52 := ⟨⟨rfl, rfl⟩, Or.inl (Nat.le_of_ble_eq_true rfl), rfl, rfl⟩
set_option maxRecDepth 100000 in
theorem lkM_7_128 : lkMok 7 128 129 := ⟨⟨rfl, rfl⟩, Or.inl (Nat.le_of_ble_eq_true rfl), rfl, rfl⟩
set_option maxRecDepth 100000 in
theorem lkM_7_131 : lkMok 7 131 130 := ⟨⟨rfl, rfl⟩, Or.inl (Nat.le_of_ble_eq_true rfl), rfl, rfl⟩
set_option maxRecDepth 100000 in
theorem lkM_7_134 : lkMok 7 134 106 := ⟨⟨rfl, rfl⟩, Or.inl (Nat.le_of_ble_eq_true rfl), rfl, rfl⟩
set_option maxRecDepth 100000 in
theorem lkM_7_138 : lkMok 7 138 103 := ⟨⟨rfl, rfl⟩, Or.inl (Nat.le_of_ble_eq_true rfl), rfl, rfl⟩
set_option maxRecDepth 100000 in
theorem lkM_7_142 : lkMok 7 142 104 := ⟨⟨rfl, rfl⟩, Or.inl (Nat.le_of_ble_eq_true rfl), rfl, rfl⟩
set_option maxRecDepth 100000 in
theorem lkM_7_146 : lkMok 7 146 107 := ⟨⟨rfl, rfl⟩, Or.inl (Nat.le_of_ble_eq_true rfl), rfl, rfl⟩
set_option maxRecDepth 100000 in
theorem lkM_7_148 : lkMok 7 148 108 := ⟨⟨rfl, rfl⟩, Or.inl (Nat.le_of_ble_eq_true rfl), rfl, rfl⟩
set_option maxRecDepth 100000 in
theorem lkM_7_151 : lkMok 7 151 223 := ⟨⟨rfl, rfl⟩, Or.inl (Nat.le_of_ble_eq_true rfl), rfl, rfl⟩
set_option maxRecDepth 100000 in
theorem lkM_7_156 : lkMok 7 156 226 := ⟨⟨rfl, rfl⟩, Or.inl (Nat.le_of_ble_eq_true rfl), rfl, rfl⟩
set_option maxRecDepth 100000 in
theorem lkM_7_165 : lkMok 7 165 224 := ⟨⟨rfl, rfl⟩, Or.inl (Nat.le_of_ble_eq_true rfl), rfl, rfl⟩
set_option maxRecDepth 100000 in
theorem lkM_7_168 : lkMok 7 168 96 := ⟨⟨rfl, rfl⟩, Or.inl (Nat.le_of_ble_eq_true rfl), rfl, rfl⟩
set_option maxRecDepth 100000 in
theorem lkM_7_180 : lkMok 7 180 97 := ⟨⟨rfl, rfl⟩, Or.inl (Nat.le_of_ble_eq_true rfl), rfl, rfl⟩
set_option maxRecDepth 100000 in
theorem lkM_7_183 : lkMok 7 183 98 := ⟨⟨rfl, rfl⟩, Or.inl (Nat.le_of_ble_eq_true rfl), rfl, rfl⟩
theorem lkM_7 (i : Nat) (f : Nat) : zcpM_7 i = some f → lkMok 7 i f := (tr_n (tr_n (tr_n (tr_n (tr_l (P := fun i f => lkMok 7 i f) lkM_7_3) (tr_n (tr_l (P := fun i f => lkMok 7 i f) lkM_7_50) (tr_l (P := fun i f => lkMok 7 i f) lkM_7_54))) (tr_n (tr_l (P := fun i f => lkMok 7 i f) lkM_7_76) (tr_n (tr_l (P := fun i f => lkMok 7 i f) lkM_7_80) (tr_l (P := fun i f => lkMok 7 i f) lkM_7_83)))) (tr_n (tr_n (tr_l (P := fun i f => lkMok 7 i f) lkM_7_101) (tr_n (tr_l (P := fun i f => lkMok 7 i f) lkM_7_108) (tr_l (P := fun i f => lkMok 7 i f) lkM_7_111))) (tr_n (tr_n (tr_l (P := fun i f => lkMok 7 i f) lkM_7_115) (tr_l (P := fun i f => lkMok 7 i f) lkM_7_118)) (tr_n (tr_l (P := fun i f => lkMok 7 i f) lkM_7_121) (tr_l (P := fun i f => lkMok 7 i f) lkM_7_124))))) (tr_n (tr_n (tr_n (tr_l (P := fun i f => lkMok 7 i f) lkM_7_128) (tr_n (tr_l (P := fun i f => lkMok 7 i f) lkM_7_131) (tr_l (P := fun i f => lkMok 7 i f) lkM_7_134))) (tr_n (tr_l (P := fun i f => lkMok 7 i f) lkM_7_138) (tr_n (tr_l (P := fun i f => lkMok 7 i f) lkM_7_142) (tr_l (P := fun i f => lkMok 7 i f) lkM_7_146)))) (tr_n (tr_n (tr_l (P := fun i f => lkMok 7 i f) lkM_7_148) (tr_n (tr_l (P := fun i f => lkMok 7 i f) lkM_7_151) (tr_l (P := fun i f => lkMok 7 i f) lkM_7_156))) (tr_n (tr_n (tr_l (P := fun i f => lkMok 7 i f) lkM_7_165) (tr_l (P := fun i f => lkMok 7 i f) lkM_7_168)) (tr_n (tr_l (P := fun i f => lkMok 7 i f) lkM_7_180) (tr_l (P := fun i f => lkMok 7 i f) lkM_7_183))))))
set_option maxRecDepth 100000 in
theorem lkM_5_3 : lkMok 5 3 901 := ⟨⟨rfl, rfl⟩, Or.inr (Nat.le_of_ble_eq_true rfl), rfl, rfl⟩
set_option maxRecDepth 100000 in
theorem lkM_5_40 : lkMok 5 40 224 := ⟨⟨rfl, rfl⟩, Or.inl (Nat.le_of_ble_eq_true rfl), rfl, rfl⟩
set_option maxRecDepth 100000 in
theorem lkM_5_46 : lkMok 5 46 36 := ⟨⟨rfl, rfl⟩, Or.inl (Nat.le_of_ble_eq_true rfl), rfl, rfl⟩
set_option maxRecDepth 100000 in
theorem lkM_5_50 : lkMok 5 50 59 := ⟨⟨rfl, rfl⟩, Or.inl (Nat.le_of_ble_eq_true rfl), rfl, rfl⟩
set_option maxRecDepth 100000 in
theorem lkM_5_54 : lkMok 5 54 62 := ⟨⟨rfl, rfl⟩, Or.inl (Nat.le_of_ble_eq_true rfl), rfl, rfl⟩
set_option maxRecDepth 100000 in
theorem lkM_5_57 : lkMok 5 57 105 := ⟨⟨rfl, rfl⟩, Or.inl (Nat.le_of_ble_eq_true rfl), rfl, rfl⟩
set_option maxRecDepth 100000 in
theorem lkM_5_62 : lkMok 5 62 61 := ⟨⟨rfl, rfl⟩, Or.inl (Nat.le_of_ble_eq_true rfl), rfl, rfl⟩
set_option maxRecDepth 100000 in
theorem lkM_5_66 : lkMok 5 66 102 := ⟨⟨rfl, rfl⟩, Or.inl (Nat.le_of_ble_eq_true rfl), rfl, rfl⟩
set_option maxRecDepth 100000 in
theorem lkM_5_70 : lkMok 5 70 41 := ⟨⟨rfl, rfl⟩, Or.inl (Nat.le_of_ble_eq_true rfl), rfl, rfl⟩
set_option maxRecDepth 100000 in
theorem lkM_5_73 : lkMok 5 73 60 := ⟨⟨rfl, rfl⟩, Or.inl (Nat.le_of_ble_eq_true rfl), rfl, rfl⟩
set_option maxRecDepth 100000 in
theorem lkM_5_76 : lkMok 5 76 40 := ⟨⟨rfl, rfl⟩, Or.inl (Nat.le_of_ble_eq_true rfl), rfl, rfl⟩
set_option maxRecDepth 100000 in
theorem lkM_5_79 : lkMok 5 79 37 := ⟨⟨rfl, rfl⟩, Or.inl (Nat.le_of_ble_eq_true rfl), rfl, rfl⟩
set_option maxRecDepth 100000 in
theorem lkM_5_86 : lkMok 5 86 39 := ⟨⟨rfl, rfl⟩, Or.inl (Nat.le_of_ble_eq_true rfl), rfl, rfl⟩
set_option maxRecDepth 100000 in
theorem lkM_5_94 : lkMok 5 94 104 := ⟨⟨rfl, rfl⟩, Or.inl (Nat.le_of_ble_eq_true rfl), rfl, rfl⟩
set_option maxRecDepth 100000 in
theorem lkM_5_97 : lkMok 5 97 65 := ⟨⟨rfl, rfl⟩, Or.inl (Nat.le_of_ble_eq_true rfl), rfl, rfl⟩
set_option maxRecDepth 100000 in
theorem lkM_5_100 : lkMok 5 100 71 := ⟨⟨rfl, rfl⟩, Or.inl (Nat.le_of_ble_eq_true rfl), rfl, rfl⟩
set_option maxRecDepth 100000 in
theorem lkM_5_103 : lkMok 5 103 54 := ⟨⟨rfl, rfl⟩, Or.inl (Nat.le_of_ble_eq_true rfl), rfl, rfl⟩
set_option maxRecDepth 100000 in
theorem lkM_5_107 : lkMok 5 107 50 := ⟨⟨rfl, rfl⟩, Or.inl (Nat.le_of_ble_eq_true rfl), rfl, rfl⟩
set_option maxRecDepth 100000 in
theorem lkM_5_110 : lkMok 5 110 63 := ⟨⟨rfl, rfl⟩, Or.inl (Nat.le_of_ble_eq_true rfl), rfl, rfl⟩
set_option maxRecDepth 100000 in
theorem lkM_5_126 : lkMok 5 126 131 := ⟨⟨rfl, rfl⟩, Or.inl (Nat.le_of_ble_eq_true rfl), rfl, rfl⟩
set_option maxRecDepth 100000 in
theorem lkM_5_132 : lkMok 5 132 69 := ⟨⟨rfl, rfl⟩, Or.inl (Nat.le_of_ble_eq_true rfl), rfl, rfl⟩
set_option maxRecDepth 100000 in
theorem lkM_5_136 : lkMok 5 136 70 := ⟨⟨rfl, rfl⟩, Or.inl (Nat.le_of_ble_eq_true rfl), rfl, rfl⟩
set_option maxRecDepth 100000 in
theorem lkM_5_139 : lkMok 5 139 72 := ⟨⟨rfl, rfl⟩, Or.inl (Nat.le_of_ble_eq_true rfl), rfl, rfl⟩
set_option maxRecDepth 100000 in
theorem lkM_5_142 : lkMok 5 142 223 := ⟨⟨rfl, rfl⟩, Or.inl (Nat.le_of_ble_eq_true rfl), rfl, rfl⟩
set_option maxRecDepth 100000 in
theorem lkM_5_145 : lkMok 5 145 68 := ⟨⟨rfl, rfl⟩, Or.inl (Nat.le_of_ble_eq_true rfl), rfl, rfl⟩
set_option maxRecDepth 100000 in
theorem lkM_5_150 : lkMok 5 150 67 := ⟨⟨rfl, rfl⟩, Or.inl (Nat.le_of_ble_eq_true rfl), rfl, rfl⟩
set_option maxRecDepth 100000 in
theorem lkM_5_153 : lkMok 5 153 228 := ⟨⟨rfl, rfl⟩, Or.inl (Nat.le_of_ble_eq_true rfl), rfl, rfl⟩
set_option maxRecDepth 100000 in
theorem lkM_5_159 : lkMok 5 159 79 := ⟨⟨rfl, rfl⟩, Or.inl (Nat.le_of_ble_eq_true rfl), rfl, rfl⟩
theorem lkM_5 (i : Nat) (f : Nat) : zcpM_5 i = some f → lkMok 5 i f := (tr_n (tr_n (tr_n (tr_n (tr_l (P := fun i f => lkMok 5 i f) lkM_5_3) (tr_n (tr_l (P := fun i f => lkMok 5 i f) lkM_5_40) (tr_l (P := fun i f => lkMok 5 i f) lkM_5_46))) (tr_n (tr_n (tr_l (P := fun i f => lkMok 5 i f) lkM_5_50) (tr_l (P := fun i f => lkMok 5 i f) lkM_5_54)) (tr_n (tr_l (P := fun i f => lkMok 5 i f) lkM_5_57) (tr_l (P := fun i f => lkMok 5 i f) lkM_5_62)))) (tr_n (tr_n (tr_l (P := fun i f => lkMok 5 i f) lkM_5_66) (tr_n (tr_l (P := fun i f => lkMok 5 i f) lkM_5_70) (tr_l (P := fun i f => lkMok 5 i f) lkM_5_73))) (tr_n (tr_n (tr_l (P := fun i f => lkMok 5 i f) lkM_5_76) (tr_l (P := fun i f => lkMok 5 i f) lkM_5_79)) (tr_n (tr_l (P := fun i f => lkMok 5 i f) lkM_5_86) (tr_l (P := fun i f => lkMok 5 i f) lkM_5_94))))) (tr_n (tr_n (tr_n (tr_l (P := fun i f => lkMok 5 i f) lkM_5_97) (tr_n (tr_l (P := fun i f => lkMok 5 i f) lkM_5_100) (tr_l (P := fun i f => lkMok 5 i f) lkM_5_103))) (tr_n (tr_n (tr_l (P := fun i f => lkMok 5 i f) lkM_5_107) (tr_l (P := fun i f => lkMok 5 i f) lkM_5_110)) (tr_n (tr_l (P := fun i f => lkMok 5 i f) lkM_5_126) (tr_l (P := fun i f => lkMok 5 i f) lkM_5_132)))) (tr_n (tr_n (tr_l (P := fun i f => lkMok 5 i f) lkM_5_136) (tr_n (tr_l (P := fun i f => lkMok 5 i f) lkM_5_139) (tr_l (P := fun i f => lkMok 5 i f) lkM_5_142))) (tr_n (tr_n (tr_l (P := fun i f => lkMok 5 i f) lkM_5_145) (tr_l (P := fun i f => lkMok 5 i f) lkM_5_150)) (tr_n (tr_l (P := fun i f => lkMok 5 i f) lkM_5_153) (tr_l (P := fun i f => lkMok 5 i f) lkM_5_159))))))
set_option maxRecDepth 100000 in
theorem lkM_0_3 : lkMok 0 3 901 := ⟨⟨rfl, rfl⟩, Or.inr (Nat.le_of_ble_eq_true rfl), rfl, rfl⟩
set_option maxRecDepth 100000 in
theorem lkM_0_30 : lkMok 0 30 94 := ⟨⟨rfl, rfl⟩, Or.inl (Nat.le_of_ble_eq_true rfl), rfl, rfl⟩
set_option maxRecDepth 100000 in
theorem lkM_0_36 : lkMok 0 36 58 := ⟨⟨rfl, rfl⟩, Or.inl (Nat.le_of_ble_eq_true rfl), rfl, rfl⟩
set_option maxRecDepth 100000 in
theorem lkM_0_39 : lkMok 0 39 2 := ⟨⟨rfl, rfl⟩, Or.inl (Nat.le_of_ble_eq_true rfl), rfl, rfl⟩
set_option maxRecDepth 100000 in
theorem lkM_0_42 : lkMok 0 42 228 := ⟨⟨rfl, rfl⟩, Or.inl (Nat.le_of_ble_eq_true rfl), rfl, rfl⟩
set_option maxRecDepth 100000 in
theorem lkM_0_52 : lkMok 0 52 39 := ⟨⟨rfl, rfl⟩, Or.inl (Nat.le_of_ble_eq_true rfl), rfl, rfl⟩
set_option maxRecDepth 100000 in
theorem lkM_0_58 : lkMok 0 58 4 := ⟨⟨rfl, rfl⟩, Or.inl (Nat.le_of_ble_eq_true rfl), rfl, rfl⟩
set_option maxRecDepth 100000 in
theorem lkM_0_68 : lkMok 0 68 53 := ⟨⟨rfl, rfl⟩, Or.inl (Nat.le_of_ble_eq_true rfl), rfl, rfl⟩
set_option maxRecDepth 100000 in
theorem lkM_0_72 : lkMok 0 72 7 := ⟨⟨rfl, rfl⟩, Or.inl (Nat.le_of_ble_eq_true rfl), rfl, rfl⟩
set_option maxRecDepth 100000 in
theorem lkM_0_76 : lkMok 0 76 107 := ⟨⟨rfl, rfl⟩, Or.inl (Nat.le_of_ble_eq_true rfl), rfl, rfl⟩
set_option maxRecDepth 100000 in
theorem lkM_0_79 : lkMok 0 79 3 := ⟨⟨rfl, rfl⟩, Or.inl (Nat.le_of_ble_eq_true rfl), rfl, rfl⟩
set_option maxRecDepth 100000 in
theorem lkM_0_86 : lkMok 0 86 36 := ⟨⟨rfl, rfl⟩, Or.inl (Nat.le_of_ble_eq_true rfl), rfl, rfl⟩
set_option maxRecDepth 100000 in
theorem lkM_0_89 : lkMok 0 89 103 := ⟨⟨rfl, rfl⟩, Or.inl (Nat.le_of_ble_eq_true rfl), rfl, rfl⟩
set_option maxRecDepth 100000 in
theorem lkM_0_92 : lkMok 0 92 54 := ⟨⟨rfl, rfl⟩, Or.inl (Nat.le_of_ble_eq_true rfl), rfl, rfl⟩
set_option maxRecDepth 100000 in
theorem lkM_0_96 : lkMok 0 96 5 := ⟨⟨rfl, rfl⟩, Or.inl (Nat.le_of_ble_eq_true rfl), rfl, rfl⟩
set_option maxRecDepth 100000 in
theorem lkM_0_99 : lkMok 0 99 6 := ⟨⟨rfl, rfl⟩, Or.inl (Nat.le_of_ble_eq_true rfl), rfl, rfl⟩
set_option maxRecDepth 100000 in
theorem lkM_0_103 : lkMok 0 103 41 := ⟨⟨rfl, rfl⟩, Or.inl (Nat.le_of_ble_eq_true rfl), rfl, rfl⟩
set_option maxRecDepth 100000 in
theorem lkM_0_106 : lkMok 0 106 8 := ⟨⟨rfl, rfl⟩, Or.inl (Nat.le_of_ble_eq_true rfl), rfl, rfl⟩
set_option maxRecDepth 100000 in
theorem lkM_0_110 : lkMok 0 110 60 := ⟨⟨rfl, rfl⟩, Or.inl (Nat.le_of_ble_eq_true rfl), rfl, rfl⟩
set_option maxRecDepth 100000 in
theorem lkM_0_114 : lkMok 0 114 108 := ⟨⟨rfl, rfl⟩, Or.inl (Nat.le_of_ble_eq_true rfl), rfl, rfl⟩
set_option maxRecDepth 100000 in
theorem lkM_0_120 : lkMok 0 120 50 := ⟨⟨rfl, rfl⟩, Or.inl (Nat.le_of_ble_eq_true rfl), rfl, rfl⟩
set_option maxRecDepth 100000 in
theorem lkM_0_123 : lkMok 0 123 63 := ⟨⟨rfl, rfl⟩, Or.inl (Nat.le_of_ble_eq_true rfl), rfl, rfl⟩
set_option maxRecDepth 100000 in
theorem lkM_0_126 : lkMok 0 126 104 := ⟨⟨rfl, rfl⟩, Or.inl (Nat.le_of_ble_eq_true rfl), rfl, rfl⟩
theorem lkM_0 (i : Nat) (f : Nat) : zcpM_0 i = some f → lkMok 0 i f := (tr_n (tr_n (tr_n (tr_n (tr_l (P := fun i f => lkMok 0 i f) lkM_0_3) (tr_l (P := fun i f => lkMok 0 i f) lkM_0_30)) (tr_n (tr_l (P := fun i f => lkMok 0 i f) lkM_0_36) (tr_n (tr_l (P := fun i f => lkMok 0 i f) lkM_0_39) (tr_l (P := fun i f => lkMok 0 i f) lkM_0_42)))) (tr_n (tr_n (tr_l (P := fun i f => lkMok 0 i f) lkM_0_52) (tr_n (tr_l (P := fun i f => lkMok 0 i f) lkM_0_58) (tr_l (P := fun i f => lkMok 0 i f) lkM_0_68))) (tr_n (tr_l (P := fun i f => lkMok 0 i f) lkM_0_72) (tr_n (tr_l (P := fun i f => lkMok 0 i f) lkM_0_76) (tr_l (P := fun i f => lkMok 0 i f) lkM_0_79))))) (tr_n (tr_n (tr_n (tr_l (P := fun i f => lkMok 0 i f) lkM_0_86) (tr_n (tr_l (P := fun i f => lkMok 0 i f) lkM_0_89) (tr_l (P := fun i f => lkMok 0 i f) lkM_0_92))) (tr_n (tr_l (P := fun i f => lkMok 0 i f) lkM_0_96) (tr_n (tr_l (P := fun i f => lkMok 0 i f) lkM_0_99) (tr_l (P := fun i f => lkMok 0 i f) lkM_0_103)))) (tr_n (tr_n (tr_l (P := fun i f => lkMok 0 i f) lkM_0_106) (tr_n (tr_l (P := fun i f => lkMok 0 i f) lkM_0_110) (tr_l (P := fun i f => lkMok 0 i f) lkM_0_114))) (tr_n (tr_l (P := fun i f => lkMok 0 i f) lkM_0_120) (tr_n (tr_l (P := fun i f => lkMok 0 i f) lkM_0_123) (tr_l (P := fun i f => lkMok 0 i f) lkM_0_126))))))
set_option maxRecDepth 100000 in
theorem lkM_8_3 : lkMok 8 3 901 := ⟨⟨rfl, rfl⟩, Or.inr (Nat.le_of_ble_eq_true rfl), rfl, rfl⟩
set_option maxRecDepth 100000 in
theorem lkM_8_28 : lkMok 8 28 232 := ⟨⟨rfl, rfl⟩, Or.inl (Nat.le_of_ble_eq_true rfl), rfl, rfl⟩
set_option maxRecDepth 100000 in
theorem lkM_8_40 : lkMok 8 40 115 := ⟨⟨rfl, rfl⟩, Or.inl (Nat.le_of_ble_eq_true rfl), rfl, rfl⟩
set_option maxRecDepth 100000 in
theorem lkM_8_50 : lkMok 8 50 53 := ⟨⟨rfl, rfl⟩, Or.inl (Nat.le_of_ble_eq_true rfl), rfl, rfl⟩
set_option maxRecDepth 100000 in
theorem lkM_8_54 : lkMok 8 54 129 := ⟨⟨rfl, rfl⟩, Or.inl (Nat.le_of_ble_eq_true rfl), rfl, rfl⟩
set_option maxRecDepth 100000 in
theorem lkM_8_61 : lkMok 8 61 36 := ⟨⟨rfl, rfl⟩, Or.inl (Nat.le_of_ble_eq_true rfl), rfl, rfl⟩
set_option maxRecDepth 100000 in
theorem lkM_8_64 : lkMok 8 64 119 := ⟨⟨rfl, rfl⟩, Or.inl (Nat.le_of_ble_eq_true rfl), rfl, rfl⟩
set_option maxRecDepth 100000 in
theorem lkM_8_68 : lkMok 8 68 50 := ⟨⟨rfl, rfl⟩, Or.inl (Nat.le_of_ble_eq_true rfl), rfl, rfl⟩
set_option maxRecDepth 100000 in
theorem lkM_8_71 : lkMok 8 71 120 := ⟨⟨rfl, rfl⟩, Or.inl (Nat.le_of_ble_eq_true rfl), rfl, rfl⟩
set_option maxRecDepth 100000 in
theorem lkM_8_74 : lkMok 8 74 123 := ⟨⟨rfl, rfl⟩, Or.inl (Nat.le_of_ble_eq_true rfl), rfl, rfl⟩
set_option maxRecDepth 100000 in
theorem lkM_8_78 : lkMok 8 78 52 := ⟨⟨rfl, rfl⟩, Or.inl (Nat.le_of_ble_eq_true rfl), rfl, rfl⟩
set_option maxRecDepth 100000 in
theorem lkM_8_83 : lkMok 8 83 116 := ⟨⟨rfl, rfl⟩, Or.inl (Nat.le_of_ble_eq_true rfl), rfl, rfl⟩
set_option maxRecDepth 100000 in
theorem lkM_8_86 : lkMok 8 86 54 := ⟨⟨rfl, rfl⟩, Or.inl (Nat.le_of_ble_eq_true rfl), rfl, rfl⟩
set_option maxRecDepth 100000 in
theorem lkM_8_90 : lkMok 8 90 121 := ⟨⟨rfl, rfl⟩, Or.inl (Nat.le_of_ble_eq_true rfl), rfl, rfl⟩
set_option maxRecDepth 100000 in
theorem lkM_8_93 : lkMok 8 93 109 := ⟨⟨rfl, rfl⟩, Or.inl (Nat.le_of_ble_eq_true rfl), rfl, rfl⟩
set_option maxRecDepth 100000 in
theorem lkM_8_98 : lkMok 8 98 117 := ⟨⟨rfl, rfl⟩, Or.inl (Nat.le_of_ble_eq_true rfl), rfl, rfl⟩
set_option maxRecDepth 100000 in
theorem lkM_8_101 : lkMok 8 101 122 := ⟨⟨rfl, rfl⟩, Or.inl (Nat.le_of_ble_eq_true rfl), rfl, rfl⟩
set_option maxRecDepth 100000 in
theorem lkM_8_105 : lkMok 8 105 111 := ⟨⟨rfl, rfl⟩, Or.inl (Nat.le_of_ble_eq_true rfl), rfl, rfl⟩
set_option maxRecDepth 100000 in
theorem lkM_8_108 : lkMok 8 108 118 := ⟨⟨rfl, rfl⟩, Or.inl (Nat.le_of_ble_eq_true rfl), rfl, rfl⟩
theorem lkM_8 (i : Nat) (f : Nat) : zcpM_8 i = some f → lkMok 8 i f := (tr_n (tr_n (tr_n (tr_n (tr_l (P := fun i f => lkMok 8 i f) lkM_8_3) (tr_l (P := fun i f => lkMok 8 i f) lkM_8_28)) (tr_n (tr_l (P := fun i f => lkMok 8 i f) lkM_8_40) (tr_l (P := fun i f => lkMok 8 i f) lkM_8_50))) (tr_n (tr_n (tr_l (P := fun i f => lkMok 8 i f) lkM_8_54) (tr_l (P := fun i f => lkMok 8 i f) lkM_8_61)) (tr_n (tr_l (P := fun i f => lkMok 8 i f) lkM_8_64) (tr_n (tr_l (P := fun i f => lkMok 8 i f) lkM_8_68) (tr_l (P := fun i f => lkMok 8 i f) lkM_8_71))))) (tr_n (tr_n (tr_n (tr_l (P := fun i f => lkMok 8 i f) lkM_8_74) (tr_l (P := fun i f => lkMok 8 i f) lkM_8_78)) (tr_n (tr_l (P := fun i f => lkMok 8 i f) lkM_8_83) (tr_n (tr_l (P := fun i f => lkMok 8 i f) lkM_8_86) (tr_l (P := fun i f => lkMok 8 i f) lkM_8_90)))) (tr_n (tr_n (tr_l (P := fun i f => lkMok 8 i f) lkM_8_93) (tr_l (P := fun i f => lkMok 8 i f) lkM_8_98)) (tr_n (tr_l (P := fun i f => lkMok 8 i f) lkM_8_101) (tr_n (tr_l (P := fun i f => lkMok 8 i f) lkM_8_105) (tr_l (P := fun i f => lkMok 8 i f) lkM_8_108))))))
set_option maxRecDepth 100000 in
theorem lkM_10_63 : lkMok 10 63 138 := ⟨⟨rfl, rfl⟩, Or.inl (Nat.le_of_ble_eq_true rfl), rfl, rfl⟩
set_option maxRecDepth 100000 in
theorem lkM_10_67 : lkMok 10 67 139 := ⟨⟨rfl, rfl⟩, Or.inl (Nat.le_of_ble_eq_true rfl), rfl, rfl⟩
set_option maxRecDepth 100000 in
theorem lkM_10_71 : lkMok 10 71 904 := ⟨⟨rfl, rfl⟩, Or.inr (Nat.le_of_ble_eq_true rfl), rfl, rfl⟩
set_option maxRecDepth 100000 in
theorem lkM_10_77 : lkMok 10 77 905 := ⟨⟨rfl, rfl⟩, Or.inr (Nat.le_of_ble_eq_true rfl), rfl, rfl⟩
set_option maxRecDepth 100000 in
theorem lkM_10_81 : lkMok 10 81 223 := ⟨⟨rfl, rfl⟩, Or.inl (Nat.le_of_ble_eq_true rfl), rfl, rfl⟩
theorem lkM_10 (i : Nat) (f : Nat) : zcpM_10 i = some f → lkMok 10 i f := (tr_n (tr_n (tr_l (P := fun i f => lkMok 10 i f) lkM_10_63) (tr_l (P := fun i f => lkMok 10 i f) lkM_10_67)) (tr_n (tr_l (P := fun i f => lkMok 10 i f) lkM_10_71) (tr_n (tr_l (P := fun i f => lkMok 10 i f) lkM_10_77) (tr_l (P := fun i f => lkMok 10 i f) lkM_10_81))))
set_option maxRecDepth 100000 in
theorem lkM_20_1 : lkMok 20 1 901 := ⟨⟨rfl, rfl⟩, Or.inr (Nat.le_of_ble_eq_true rfl), rfl, rfl⟩
set_option maxRecDepth 100000 in
theorem lkM_20_54 : lkMok 20 54 229 := ⟨⟨rfl, rfl⟩, Or.inl (Nat.le_of_ble_eq_true rfl), rfl, rfl⟩
set_option maxRecDepth 100000 in
theorem lkM_20_212 : lkMok 20 212 930 := ⟨⟨rfl, rfl⟩, Or.inr (Nat.le_of_ble_eq_true rfl), rfl, rfl⟩
set_option maxRecDepth 100000 in
theorem lkM_20_335 : lkMok 20 335 250 := ⟨⟨rfl, rfl⟩, Or.inl (Nat.le_of_ble_eq_true rfl), rfl, rfl⟩
set_option maxRecDepth 100000 in
theorem lkM_20_489 : lkMok 20 489 254 := ⟨⟨rfl, rfl⟩, Or.inl (Nat.le_of_ble_eq_true rfl), rfl, rfl⟩
set_option maxRecDepth 100000 in
theorem lkM_20_492 : lkMok 20 492 252 := ⟨⟨rfl, rfl⟩, Or.inl (Nat.le_of_ble_eq_true rfl), rfl, rfl⟩
set_option maxRecDepth 100000 in
theorem lkM_20_495 : lkMok 20 495 259 := ⟨⟨rfl, rfl⟩, Or.inl (Nat.le_of_ble_eq_true rfl), rfl, rfl⟩
set_option maxRecDepth 100000 in
theorem lkM_20_549 : lkMok 20 549 205 := ⟨⟨rfl, rfl⟩, Or.inl (Nat.le_of_ble_eq_true rfl), rfl, rfl⟩
set_option maxRecDepth 100000 in
theorem lkM_20_552 : lkMok 20 552 246 := ⟨⟨rfl, rfl⟩, Or.inl (Nat.le_of_ble_eq_true rfl), rfl, rfl⟩
set_option maxRecDepth 100000 in
theorem lkM_20_1047 : lkMok 20 1047 241 := ⟨⟨rfl, rfl⟩, Or.inl (Nat.le_of_ble_eq_true rfl), rfl, rfl⟩
theorem lkM_20 (i : Nat) (f : Nat) : zcpM_20 i = some f → lkMok 20 i f := (tr_n (tr_n (tr_n (tr_l (P := fun i f => lkMok 20 i f) lkM_20_1) (tr_l (P := fun i f => lkMok 20 i f) lkM_20_54)) (tr_n (tr_l (P := fun i f => lkMok 20 i f) lkM_20_212) (tr_n (tr_l (P := fun i f => lkMok 20 i f) lkM_20_335) (tr_l (P := fun i f => lkMok 20 i f) lkM_20_489)))) (tr_n (tr_n (tr_l (P := fun i f => lkMok 20 i f) lkM_20_492) (tr_l (P := fun i f => lkMok 20 i f) lkM_20_495)) (tr_n (tr_l (P := fun i f => lkMok 20 i f) lkM_20_549) (tr_n (tr_l (P := fun i f => lkMok 20 i f) lkM_20_552) (tr_l (P := fun i f => lkMok 20 i f) lkM_20_1047)))))
set_option maxRecDepth 100000 in
theorem lkM_23_9 : lkMok 23 9 932 := ⟨⟨rfl, rfl⟩, Or.inr (Nat.le_of_ble_eq_true rfl), rfl, rfl⟩
theorem lkM_23 (i : Nat) (f : Nat) : zcpM_23 i = some f → lkMok 23 i f := (tr_l (P := fun i f => lkMok 23 i f) lkM_23_9)
set_option maxRecDepth 100000 in
theorem lkM_12_1 : lkMok 12 1 248 := ⟨⟨rfl, rfl⟩, Or.inl (Nat.le_of_ble_eq_true rfl), rfl, rfl⟩
set_option maxRecDepth 100000 in
theorem lkM_12_7 : lkMok 12 7 237 := ⟨⟨rfl, rfl⟩, Or.inl (Nat.le_of_ble_eq_true rfl), rfl, rfl⟩
set_option maxRecDepth 100000 in
theorem lkM_12_23 : lkMok 12 23 180 := ⟨⟨rfl, rfl⟩, Or.inl (Nat.le_of_ble_eq_true rfl), rfl, rfl⟩
set_option maxRecDepth 100000 in
theorem lkM_12_29 : lkMok 12 29 238 := ⟨⟨rfl, rfl⟩, Or.inl (Nat.le_of_ble_eq_true rfl), rfl, rfl⟩
set_option maxRecDepth 100000 in
theorem lkM_12_50 : lkMok 12 50 244 := ⟨⟨rfl, rfl⟩, Or.inl (Nat.le_of_ble_eq_true rfl), rfl, rfl⟩
set_option maxRecDepth 100000 in
theorem lkM_12_53 : lkMok 12 53 245 := ⟨⟨rfl, rfl⟩, Or.inl (Nat.le_of_ble_eq_true rfl), rfl, rfl⟩
set_option maxRecDepth 100000 in
theorem lkM_12_137 : lkMok 12 137 253 := ⟨⟨rfl, rfl⟩, Or.inl (Nat.le_of_ble_eq_true rfl), rfl, rfl⟩
set_option maxRecDepth 100000 in
theorem lkM_12_343 : lkMok 12 343 247 := ⟨⟨rfl, rfl⟩, Or.inl (Nat.le_of_ble_eq_true rfl), rfl, rfl⟩
theorem lkM_12 (i : Nat) (f : Nat) : zcpM_12 i = some f → lkMok 12 i f := (tr_n (tr_n (tr_n (tr_l (P := fun i f => lkMok 12 i f) lkM_12_1) (tr_l (P := fun i f => lkMok 12 i f) lkM_12_7)) (tr_n (tr_l (P := fun i f => lkMok 12 i f) lkM_12_23) (tr_l (P := fun i f => lkMok 12 i f) lkM_12_29))) (tr_n (tr_n (tr_l (P := fun i f => lkMok 12 i f) lkM_12_50) (tr_l (P := fun i f => lkMok 12 i f) lkM_12_53)) (tr_n (tr_l (P := fun i f => lkMok 12 i f) lkM_12_137) (tr_l (P := fun i f => lkMok 12 i f) lkM_12_343))))
set_option maxRecDepth 100000 in
theorem lkM_19_3 : lkMok 19 3 901 := ⟨⟨rfl, rfl⟩, Or.inr (Nat.le_of_ble_eq_true rfl), rfl, rfl⟩
set_option maxRecDepth 100000 in
theorem lkM_19_32 : lkMok 19 32 904 := ⟨⟨rfl, rfl⟩, Or.inr (Nat.le_of_ble_eq_true rfl), rfl, rfl⟩
set_option maxRecDepth 100000 in
theorem lkM_19_40 : lkMok 19 40 909 := ⟨⟨rfl, rfl⟩, Or.inr (Nat.le_of_ble_eq_true rfl), rfl, rfl⟩
set_option maxRecDepth 100000 in
theorem lkM_19_43 : lkMok 19 43 148 := ⟨⟨rfl, rfl⟩, Or.inl (Nat.le_of_ble_eq_true rfl), rfl, rfl⟩
set_option maxRecDepth 100000 in
theorem lkM_19_83 : lkMok 19 83 241 := ⟨⟨rfl, rfl⟩, Or.inl (Nat.le_of_ble_eq_true rfl), rfl, rfl⟩
set_option maxRecDepth 100000 in
theorem lkM_19_100 : lkMok 19 100 239 := ⟨⟨rfl, rfl⟩, Or.inl (Nat.le_of_ble_eq_true rfl), rfl, rfl⟩
set_option maxRecDepth 100000 in
theorem lkM_19_104 : lkMok 19 104 240 := ⟨⟨rfl, rfl⟩, Or.inl (Nat.le_of_ble_eq_true rfl), rfl, rfl⟩
set_option maxRecDepth 100000 in
theorem lkM_19_108 : lkMok 19 108 906 := ⟨⟨rfl, rfl⟩, Or.inr (Nat.le_of_ble_eq_true rfl), rfl, rfl⟩
set_option maxRecDepth 100000 in
theorem lkM_19_114 : lkMok 19 114 258 := ⟨⟨rfl, rfl⟩, Or.inl (Nat.le_of_ble_eq_true rfl), rfl, rfl⟩
set_option maxRecDepth 100000 in
theorem lkM_19_191 : lkMok 19 191 260 := ⟨⟨rfl, rfl⟩, Or.inl (Nat.le_of_ble_eq_true rfl), rfl, rfl⟩
set_option maxRecDepth 100000 in
theorem lkM_19_208 : lkMok 19 208 242 := ⟨⟨rfl, rfl⟩, Or.inl (Nat.le_of_ble_eq_true rfl), rfl, rfl⟩
set_option maxRecDepth 100000 in
theorem lkM_19_245 : lkMok 19 245 255 := ⟨⟨rfl, rfl⟩, Or.inl (Nat.le_of_ble_eq_true rfl), rfl, rfl⟩
set_option maxRecDepth 100000 in
theorem lkM_19_248 : lkMok 19 248 256 := ⟨⟨rfl, rfl⟩, Or.inl (Nat.le_of_ble_eq_true rfl), rfl, rfl⟩
set_option maxRecDepth 100000 in
theorem lkM_19_397 : lkMok 19 397 243 := ⟨⟨rfl, rfl⟩, Or.inl (Nat.le_of_ble_eq_true rfl), rfl, rfl⟩
set_option maxRecDepth 100000 in
theorem lkM_19_399 : lkMok 19 399 908 := ⟨⟨rfl, rfl⟩, Or.inr (Nat.le_of_ble_eq_true rfl), rfl, rfl⟩
theorem lkM_19 (i : Nat) (f : Nat) : zcpM_19 i = some f → lkMok 19 i f := (tr_n (tr_n (tr_n (tr_l (P := fun i f => lkMok 19 i f) lkM_19_3) (tr_n (tr_l (P := fun i f => lkMok 19 i f) lkM_19_32) (tr_l (P := fun i f => lkMok 19 i f) lkM_19_40))) (tr_n (tr_n (tr_l (P := fun i f => lkMok 19 i f) lkM_19_43) (tr_l (P := fun i f => lkMok 19 i f) lkM_19_83)) (tr_n (tr_l (P := fun i f => lkMok 19 i f) lkM_19_100) (tr_l (P := fun i f => lkMok 19 i f) lkM_19_104)))) (tr_n (tr_n (tr_n (tr_l (P := fun i f => lkMok 19 i f) lkM_19_108) (tr_l (P := fun i f => lkMok 19 i f) lkM_19_114)) (tr_n (tr_l (P := fun i f => lkMok 19 i f) lkM_19_191) (tr_l (P := fun i f => lkMok 19 i f) lkM_19_208))) (tr_n (tr_n (tr_l (P := fun i f => lkMok 19 i f) lkM_19_245) (tr_l (P := fun i f => lkMok 19 i f) lkM_19_248)) (tr_n (tr_l (P := fun i f => lkMok 19 i f) lkM_19_397) (tr_l (P := fun i f => lkMok 19 i f) lkM_19_399)))))
set_option maxRecDepth 100000 in
theorem lkM_22_194 : lkMok 22 194 223 := ⟨⟨rfl, rfl⟩, Or.inl (Nat.le_of_ble_eq_true rfl), rfl, rfl⟩
theorem lkM_22 (i : Nat) (f : Nat) : zcpM_22 i = some f → lkMok 22 i f := (tr_l (P := fun i f => lkMok 22 i f) lkM_22_194)
set_option maxRecDepth 100000 in
theorem lkM_15_311 : lkMok 15 311 257 := ⟨⟨rfl, rfl⟩, Or.inl (Nat.le_of_ble_eq_true rfl), rfl, rfl⟩
theorem lkM_15 (i : Nat) (f : Nat) : zcpM_15 i = some f → lkMok 15 i f := (tr_l (P := fun i f => lkMok 15 i f) lkM_15_311)
set_option maxRecDepth 100000 in
theorem lkM_17_59 : lkMok 17 59 234 := ⟨⟨rfl, rfl⟩, Or.inl (Nat.le_of_ble_eq_true rfl), rfl, rfl⟩
set_option maxRecDepth 100000 in
theorem lkM_17_74 : lkMok 17 74 902 := ⟨⟨rfl, rfl⟩, Or.inr (Nat.le_of_ble_eq_true rfl), rfl, rfl⟩
theorem lkM_17 (i : Nat) (f : Nat) : zcpM_17 i = some f → lkMok 17 i f := (tr_n (tr_l (P := fun i f => lkMok 17 i f) lkM_17_59) (tr_l (P := fun i f => lkMok 17 i f) lkM_17_74))
set_option maxRecDepth 100000 in
theorem lkM_18_122 : lkMok 18 122 236 := ⟨⟨rfl, rfl⟩, Or.inl (Nat.le_of_ble_eq_true rfl), rfl, rfl⟩
set_option maxRecDepth 100000 in
theorem lkM_18_134 : lkMok 18 134 903 := ⟨⟨rfl, rfl⟩, Or.inr (Nat.le_of_ble_eq_true rfl), rfl, rfl⟩
theorem lkM_18 (i : Nat) (f : Nat) : zcpM_18 i = some f → lkMok 18 i f := (tr_n (tr_l (P := fun i f => lkMok 18 i f) lkM_18_122) (tr_l (P := fun i f => lkMok 18 i f) lkM_18_134))
theorem lkM (o i : Nat) (f : Nat) : zcpM o i = some f → lkMok o i f := (tr_n (tr_n (tr_n (tr_n (tr_k (P := fun o => lkMok o i f) (lkM_0 i f)) (tr_k (P := fun o => lkMok o i f) (lkM_1 i f))) (tr_n (tr_k (P := fun o => lkMok o i f) (lkM_2 i f)) (tr_n (tr_k (P := fun o => lkMok o i f) (lkM_3 i f)) (tr_k (P := fun o => lkMok o i f) (lkM_4 i f))))) (tr_n (tr_n (tr_k (P := fun o => lkMok o i f) (lkM_5 i f)) (tr_n (tr_k (P := fun o => lkMok o i f) (lkM_6 i f)) (tr_k (P := fun o => lkMok o i f) (lkM_7 i f)))) (tr_n (tr_k (P := fun o => lkMok o i f) (lkM_8 i f)) (tr_n (tr_k (P := fun o => lkMok o i f) (lkM_9 i f)) (tr_k (P := fun o => lkMok o i f) (lkM_10 i f)))))) (tr_n (tr_n (tr_n (tr_k (P := fun o => lkMok o i f) (lkM_11 i f)) (tr_k (P := fun o => lkMok o i f) (lkM_12 i f))) (tr_n (tr_k (P := fun o => lkMok o i f) (lkM_13 i f)) (tr_n (tr_k (P := fun o => lkMok o i f) (lkM_15 i f)) (tr_k (P := fun o => lkMok o i f) (lkM_16 i f))))) (tr_n (tr_n (tr_k (P := fun o => lkMok o i f) (lkM_17 i f)) (tr_n (tr_k (P := fun o => lkMok o i f) (lkM_18 i f)) (tr_k (P := fun o => lkMok o i f) (lkM_19 i f)))) (tr_n (tr_k (P := fun o => lkMok o i f) (lkM_20 i f)) (tr_n (tr_k (P := fun o => lkMok o i f) (lkM_22 i f)) (tr_k (P := fun o => lkMok o i f) (lkM_23 i f)))))))
noncomputable def zen (E : Nat) : String :=
 (bif Nat.blt E 2 then (bif Nat.blt E 1 then (bif Nat.beq E 0 then "java/lang/IllegalArgumentException" else "") else
  (bif Nat.beq E 1 then "java/lang/IllegalStateException" else "")) else
 (bif Nat.blt E 3 then (bif Nat.beq E 2 then "java/lang/IndexOutOfBoundsException" else "") else
  (bif Nat.beq E 3 then "java/util/NoSuchElementException" else "")))
noncomputable abbrev lkCok (o i c : Nat) : Prop := zinP (.classLink (zcn o) i (bif Nat.blt c 100 then zvn c else zen (c - 100))) (zplC o i) ∧ (c < 13 ∨ 100 ≤ c ∧ c < 104 ∧ c ≠ 102)
set_option maxRecDepth 100000 in
theorem lkC_13_19 : lkCok 13 19 10 := ⟨⟨rfl, rfl⟩, Or.inl (Nat.le_of_ble_eq_true rfl)⟩
set_option maxRecDepth 100000 in
theorem lkC_13_34 : lkCok 13 34 100 := ⟨⟨rfl, rfl⟩, Or.inr ⟨Nat.le_of_ble_eq_true rfl, Nat.le_of_ble_eq_true rfl, by decide⟩⟩
set_option maxRecDepth 100000 in
theorem lkC_13_36 : lkCok 13 36 101 := ⟨⟨rfl, rfl⟩, Or.inr ⟨Nat.le_of_ble_eq_true rfl, Nat.le_of_ble_eq_true rfl, by decide⟩⟩
set_option maxRecDepth 100000 in
theorem lkC_13_45 : lkCok 13 45 103 := ⟨⟨rfl, rfl⟩, Or.inr ⟨Nat.le_of_ble_eq_true rfl, Nat.le_of_ble_eq_true rfl, by decide⟩⟩
set_option maxRecDepth 100000 in
theorem lkC_13_73 : lkCok 13 73 11 := ⟨⟨rfl, rfl⟩, Or.inl (Nat.le_of_ble_eq_true rfl)⟩
theorem lkC_13 (i : Nat) (f : Nat) : zcpC_13 i = some f → lkCok 13 i f := (tr_n (tr_n (tr_l (P := fun i f => lkCok 13 i f) lkC_13_19) (tr_l (P := fun i f => lkCok 13 i f) lkC_13_34)) (tr_n (tr_l (P := fun i f => lkCok 13 i f) lkC_13_36) (tr_n (tr_l (P := fun i f => lkCok 13 i f) lkC_13_45) (tr_l (P := fun i f => lkCok 13 i f) lkC_13_73))))
set_option maxRecDepth 100000 in
theorem lkC_11_16 : lkCok 11 16 1 := ⟨⟨rfl, rfl⟩, Or.inl (Nat.le_of_ble_eq_true rfl)⟩
set_option maxRecDepth 100000 in
theorem lkC_11_25 : lkCok 11 25 3 := ⟨⟨rfl, rfl⟩, Or.inl (Nat.le_of_ble_eq_true rfl)⟩
set_option maxRecDepth 100000 in
theorem lkC_11_34 : lkCok 11 34 2 := ⟨⟨rfl, rfl⟩, Or.inl (Nat.le_of_ble_eq_true rfl)⟩
set_option maxRecDepth 100000 in
theorem lkC_11_43 : lkCok 11 43 4 := ⟨⟨rfl, rfl⟩, Or.inl (Nat.le_of_ble_eq_true rfl)⟩
set_option maxRecDepth 100000 in
theorem lkC_11_50 : lkCok 11 50 9 := ⟨⟨rfl, rfl⟩, Or.inl (Nat.le_of_ble_eq_true rfl)⟩
set_option maxRecDepth 100000 in
theorem lkC_11_57 : lkCok 11 57 7 := ⟨⟨rfl, rfl⟩, Or.inl (Nat.le_of_ble_eq_true rfl)⟩
set_option maxRecDepth 100000 in
theorem lkC_11_64 : lkCok 11 64 5 := ⟨⟨rfl, rfl⟩, Or.inl (Nat.le_of_ble_eq_true rfl)⟩
set_option maxRecDepth 100000 in
theorem lkC_11_73 : lkCok 11 73 0 := ⟨⟨rfl, rfl⟩, Or.inl (Nat.le_of_ble_eq_true rfl)⟩
set_option maxRecDepth 100000 in
theorem lkC_11_82 : lkCok 11 82 8 := ⟨⟨rfl, rfl⟩, Or.inl (Nat.le_of_ble_eq_true rfl)⟩
set_option maxRecDepth 100000 in
theorem lkC_11_115 : lkCok 11 115 101 := ⟨⟨rfl, rfl⟩, Or.inr ⟨Nat.le_of_ble_eq_true rfl, Nat.le_of_ble_eq_true rfl, by decide⟩⟩
set_option maxRecDepth 100000 in
theorem lkC_11_153 : lkCok 11 153 100 := ⟨⟨rfl, rfl⟩, Or.inr ⟨Nat.le_of_ble_eq_true rfl, Nat.le_of_ble_eq_true rfl, by decide⟩⟩
set_option maxRecDepth 100000 in
theorem lkC_11_380 : lkCok 11 380 103 := ⟨⟨rfl, rfl⟩, Or.inr ⟨Nat.le_of_ble_eq_true rfl, Nat.le_of_ble_eq_true rfl, by decide⟩⟩
theorem lkC_11 (i : Nat) (f : Nat) : zcpC_11 i = some f → lkCok 11 i f := (tr_n (tr_n (tr_n (tr_l (P := fun i f => lkCok 11 i f) lkC_11_16) (tr_n (tr_l (P := fun i f => lkCok 11 i f) lkC_11_25) (tr_l (P := fun i f => lkCok 11 i f) lkC_11_34))) (tr_n (tr_l (P := fun i f => lkCok 11 i f) lkC_11_43) (tr_n (tr_l (P := fun i f => lkCok 11 i f) lkC_11_50) (tr_l (P := fun i f => lkCok 11 i f) lkC_11_57)))) (tr_n (tr_n (tr_l (P := fun i f => lkCok 11 i f) lkC_11_64) (tr_n (tr_l (P := fun i f => lkCok 11 i f) lkC_11_73) (tr_l (P := fun i f => lkCok 11 i f) lkC_11_82))) (tr_n (tr_l (P := fun i f => lkCok 11 i f) lkC_11_115) (tr_n (tr_l (P := fun i f => lkCok 11 i f) lkC_11_153) (tr_l (P := fun i f => lkCok 11 i f) lkC_11_380)))))
set_option maxRecDepth 100000 in
theorem lkC_3_15 : lkCok 3 15 6 := ⟨⟨rfl, rfl⟩, Or.inl (Nat.le_of_ble_eq_true rfl)⟩
set_option maxRecDepth 100000 in
theorem lkC_3_151 : lkCok 3 151 1 := ⟨⟨rfl, rfl⟩, Or.inl (Nat.le_of_ble_eq_true rfl)⟩
theorem lkC_3 (i : Nat) (f : Nat) : zcpC_3 i = some f → lkCok 3 i f := (tr_n (tr_l (P := fun i f => lkCok 3 i f) lkC_3_15) (tr_l (P := fun i f => lkCok 3 i f) lkC_3_151))
set_option maxRecDepth 100000 in
theorem lkC_2_9 : lkCok 2 9 9 := ⟨⟨rfl, rfl⟩, Or.inl (Nat.le_of_ble_eq_true rfl)⟩
theorem lkC_2 (i : Nat) (f : Nat) : zcpC_2 i = some f → lkCok 2 i f := (tr_l (P := fun i f => lkCok 2 i f) lkC_2_9)
set_option maxRecDepth 100000 in
theorem lkC_9_9 : lkCok 9 9 1 := ⟨⟨rfl, rfl⟩, Or.inl (Nat.le_of_ble_eq_true rfl)⟩
theorem lkC_9 (i : Nat) (f : Nat) : zcpC_9 i = some f → lkCok 9 i f := (tr_l (P := fun i f => lkCok 9 i f) lkC_9_9)
set_option maxRecDepth 100000 in
theorem lkC_4_39 : lkCok 4 39 1 := ⟨⟨rfl, rfl⟩, Or.inl (Nat.le_of_ble_eq_true rfl)⟩
theorem lkC_4 (i : Nat) (f : Nat) : zcpC_4 i = some f → lkCok 4 i f := (tr_l (P := fun i f => lkCok 4 i f) lkC_4_39)
set_option maxRecDepth 100000 in
theorem lkC_7_31 : lkCok 7 31 1 := ⟨⟨rfl, rfl⟩, Or.inl (Nat.le_of_ble_eq_true rfl)⟩
theorem lkC_7 (i : Nat) (f : Nat) : zcpC_7 i = some f → lkCok 7 i f := (tr_l (P := fun i f => lkCok 7 i f) lkC_7_31)
set_option maxRecDepth 100000 in
theorem lkC_12_18 : lkCok 12 18 12 := ⟨⟨rfl, rfl⟩, Or.inl (Nat.le_of_ble_eq_true rfl)⟩
theorem lkC_12 (i : Nat) (f : Nat) : zcpC_12 i = some f → lkCok 12 i f := (tr_l (P := fun i f => lkCok 12 i f) lkC_12_18)
set_option maxRecDepth 100000 in
theorem lkC_16_43 : lkCok 16 43 100 := ⟨⟨rfl, rfl⟩, Or.inr ⟨Nat.le_of_ble_eq_true rfl, Nat.le_of_ble_eq_true rfl, by decide⟩⟩
set_option maxRecDepth 100000 in
theorem lkC_16_45 : lkCok 16 45 11 := ⟨⟨rfl, rfl⟩, Or.inl (Nat.le_of_ble_eq_true rfl)⟩
theorem lkC_16 (i : Nat) (f : Nat) : zcpC_16 i = some f → lkCok 16 i f := (tr_n (tr_l (P := fun i f => lkCok 16 i f) lkC_16_43) (tr_l (P := fun i f => lkCok 16 i f) lkC_16_45))
theorem lkC (o i : Nat) (f : Nat) : zcpC o i = some f → lkCok o i f := (tr_n (tr_n (tr_n (tr_k (P := fun o => lkCok o i f) (lkC_2 i f)) (tr_k (P := fun o => lkCok o i f) (lkC_3 i f))) (tr_n (tr_k (P := fun o => lkCok o i f) (lkC_4 i f)) (tr_k (P := fun o => lkCok o i f) (lkC_7 i f)))) (tr_n (tr_n (tr_k (P := fun o => lkCok o i f) (lkC_9 i f)) (tr_k (P := fun o => lkCok o i f) (lkC_11 i f))) (tr_n (tr_k (P := fun o => lkCok o i f) (lkC_12 i f)) (tr_n (tr_k (P := fun o => lkCok o i f) (lkC_13 i f)) (tr_k (P := fun o => lkCok o i f) (lkC_16 i f))))))
theorem zV_all : ∀ c, c < 13 → zinP (.instantiable (zvn c) (znf c)) (zpT c) := lt_s (lt_s (lt_s (lt_s (lt_s (lt_s (lt_s (lt_s (lt_s (lt_s (lt_s (lt_s (lt_s (lt_0) ⟨rfl, rfl⟩) ⟨rfl, rfl⟩) ⟨rfl, rfl⟩) ⟨rfl, rfl⟩) ⟨rfl, rfl⟩) ⟨rfl, rfl⟩) ⟨rfl, rfl⟩) ⟨rfl, rfl⟩) ⟨rfl, rfl⟩) ⟨rfl, rfl⟩) ⟨rfl, rfl⟩) ⟨rfl, rfl⟩) ⟨rfl, rfl⟩
noncomputable def zplU (c k : Nat) : Nat :=
 (bif Nat.blt c 6 then (bif Nat.blt c 3 then (bif Nat.blt c 1 then (bif Nat.beq c 0 then (bif Nat.blt k 2 then (bif Nat.blt k 1 then (bif Nat.beq k 0 then 2145 else 0) else
  (bif Nat.beq k 1 then 2147 else 0)) else
 (bif Nat.blt k 3 then (bif Nat.beq k 2 then 2149 else 0) else
  (bif Nat.blt k 4 then (bif Nat.beq k 3 then 2151 else 0) else
   (bif Nat.beq k 4 then 2153 else 0)))) else 0) else
   (bif Nat.blt c 2 then (bif Nat.beq c 1 then (bif Nat.beq k 0 then 1070 else 0) else 0) else
    (bif Nat.beq c 2 then (bif Nat.blt k 2 then (bif Nat.blt k 1 then (bif Nat.beq k 0 then 1195 else 0) else
  (bif Nat.beq k 1 then 1197 else 0)) else
 (bif Nat.blt k 3 then (bif Nat.beq k 2 then 1199 else 0) else
  (bif Nat.blt k 4 then (bif Nat.beq k 3 then 1201 else 0) else
   (bif Nat.beq k 4 then 1203 else 0)))) else 0))) else
  (bif Nat.blt c 4 then (bif Nat.beq c 3 then (bif Nat.blt k 4 then (bif Nat.blt k 2 then (bif Nat.blt k 1 then (bif Nat.beq k 0 then 1127 else 0) else
   (bif Nat.beq k 1 then 1129 else 0)) else
  (bif Nat.blt k 3 then (bif Nat.beq k 2 then 1131 else 0) else
   (bif Nat.beq k 3 then 1133 else 0))) else
 (bif Nat.blt k 6 then (bif Nat.blt k 5 then (bif Nat.beq k 4 then 1135 else 0) else
   (bif Nat.beq k 5 then 1137 else 0)) else
  (bif Nat.blt k 7 then (bif Nat.beq k 6 then 1139 else 0) else
   (bif Nat.beq k 7 then 1141 else 0)))) else 0) else
   (bif Nat.blt c 5 then (bif Nat.beq c 4 then (bif Nat.blt k 7 then (bif Nat.blt k 3 then (bif Nat.blt k 1 then (bif Nat.beq k 0 then 1239 else 0) else
   (bif Nat.blt k 2 then (bif Nat.beq k 1 then 2001 else 0) else
    (bif Nat.beq k 2 then 2003 else 0))) else
  (bif Nat.blt k 5 then (bif Nat.blt k 4 then (bif Nat.beq k 3 then 2005 else 0) else
    (bif Nat.beq k 4 then 2007 else 0)) else
   (bif Nat.blt k 6 then (bif Nat.beq k 5 then 2009 else 0) else
    (bif Nat.beq k 6 then 2011 else 0)))) else
 (bif Nat.blt k 10 then (bif Nat.blt k 8 then (bif Nat.beq k 7 then 2013 else 0) else
   (bif Nat.blt k 9 then (bif Nat.beq k 8 then 2015 else 0) else
    (bif Nat.beq k 9 then 2017 else 0))) else
  (bif Nat.blt k 12 then (bif Nat.blt k 11 then (bif Nat.beq k 10 then 2019 else 0) else
    (bif Nat.beq k 11 then 2021 else 0)) else
   (bif Nat.blt k 13 then (bif Nat.beq k 12 then 2023 else 0) else
    (bif Nat.beq k 13 then 2025 else 0))))) else 0) else
    (bif Nat.beq c 5 then (bif Nat.blt k 5 then (bif Nat.blt k 2 then (bif Nat.blt k 1 then (bif Nat.beq k 0 then 2113 else 0) else
   (bif Nat.beq k 1 then 2115 else 0)) else
  (bif Nat.blt k 3 then (bif Nat.beq k 2 then 2117 else 0) else
   (bif Nat.blt k 4 then (bif Nat.beq k 3 then 2119 else 0) else
    (bif Nat.beq k 4 then 2121 else 0)))) else
 (bif Nat.blt k 7 then (bif Nat.blt k 6 then (bif Nat.beq k 5 then 2123 else 0) else
   (bif Nat.beq k 6 then 2125 else 0)) else
  (bif Nat.blt k 8 then (bif Nat.beq k 7 then 2127 else 0) else
   (bif Nat.blt k 9 then (bif Nat.beq k 8 then 2129 else 0) else
    (bif Nat.beq k 9 then 2131 else 0))))) else 0)))) else
 (bif Nat.blt c 9 then (bif Nat.blt c 7 then (bif Nat.beq c 6 then (bif Nat.blt k 4 then (bif Nat.blt k 2 then (bif Nat.blt k 1 then (bif Nat.beq k 0 then 1097 else 0) else
   (bif Nat.beq k 1 then 1099 else 0)) else
  (bif Nat.blt k 3 then (bif Nat.beq k 2 then 1101 else 0) else
   (bif Nat.beq k 3 then 1103 else 0))) else
 (bif Nat.blt k 6 then (bif Nat.blt k 5 then (bif Nat.beq k 4 then 1105 else 0) else
   (bif Nat.beq k 5 then 1107 else 0)) else
  (bif Nat.blt k 7 then (bif Nat.beq k 6 then 1109 else 0) else
   (bif Nat.blt k 8 then (bif Nat.beq k 7 then 1111 else 0) else
    (bif Nat.beq k 8 then 1113 else 0))))) else 0) else
   (bif Nat.blt c 8 then (bif Nat.beq c 7 then (bif Nat.blt k 8 then (bif Nat.blt k 4 then (bif Nat.blt k 2 then (bif Nat.blt k 1 then (bif Nat.beq k 0 then 2063 else 0) else
    (bif Nat.beq k 1 then 2065 else 0)) else
   (bif Nat.blt k 3 then (bif Nat.beq k 2 then 2067 else 0) else
    (bif Nat.beq k 3 then 2069 else 0))) else
  (bif Nat.blt k 6 then (bif Nat.blt k 5 then (bif Nat.beq k 4 then 2071 else 0) else
    (bif Nat.beq k 5 then 2073 else 0)) else
   (bif Nat.blt k 7 then (bif Nat.beq k 6 then 2075 else 0) else
    (bif Nat.beq k 7 then 2077 else 0)))) else
 (bif Nat.blt k 12 then (bif Nat.blt k 10 then (bif Nat.blt k 9 then (bif Nat.beq k 8 then 2079 else 0) else
    (bif Nat.beq k 9 then 2081 else 0)) else
   (bif Nat.blt k 11 then (bif Nat.beq k 10 then 2083 else 0) else
    (bif Nat.beq k 11 then 2085 else 0))) else
  (bif Nat.blt k 14 then (bif Nat.blt k 13 then (bif Nat.beq k 12 then 2087 else 0) else
    (bif Nat.beq k 13 then 2089 else 0)) else
   (bif Nat.blt k 15 then (bif Nat.beq k 14 then 2091 else 0) else
    (bif Nat.beq k 15 then 2093 else 0))))) else 0) else
    (bif Nat.beq c 8 then (bif Nat.blt k 2 then (bif Nat.blt k 1 then (bif Nat.beq k 0 then 2168 else 0) else
  (bif Nat.beq k 1 then 2170 else 0)) else
 (bif Nat.blt k 3 then (bif Nat.beq k 2 then 2172 else 0) else
  (bif Nat.beq k 3 then 2174 else 0))) else 0))) else
  (bif Nat.blt c 11 then (bif Nat.blt c 10 then (bif Nat.beq c 9 then (bif Nat.blt k 3 then (bif Nat.blt k 1 then (bif Nat.beq k 0 then 1173 else 0) else
  (bif Nat.blt k 2 then (bif Nat.beq k 1 then 1175 else 0) else
   (bif Nat.beq k 2 then 1177 else 0))) else
 (bif Nat.blt k 5 then (bif Nat.blt k 4 then (bif Nat.beq k 3 then 1179 else 0) else
   (bif Nat.beq k 4 then 1181 else 0)) else
  (bif Nat.blt k 6 then (bif Nat.beq k 5 then 1183 else 0) else
   (bif Nat.beq k 6 then 1185 else 0)))) else 0) else
    (bif Nat.beq c 10 then (bif Nat.blt k 7 then (bif Nat.blt k 3 then (bif Nat.blt k 1 then (bif Nat.beq k 0 then 4145 else 0) else
   (bif Nat.blt k 2 then (bif Nat.beq k 1 then 4147 else 0) else
    (bif Nat.beq k 2 then 4149 else 0))) else
  (bif Nat.blt k 5 then (bif Nat.blt k 4 then (bif Nat.beq k 3 then 4151 else 0) else
    (bif Nat.beq k 4 then 4153 else 0)) else
   (bif Nat.blt k 6 then (bif Nat.beq k 5 then 4155 else 0) else
    (bif Nat.beq k 6 then 4157 else 0)))) else
 (bif Nat.blt k 11 then (bif Nat.blt k 9 then (bif Nat.blt k 8 then (bif Nat.beq k 7 then 4159 else 0) else
    (bif Nat.beq k 8 then 4161 else 0)) else
   (bif Nat.blt k 10 then (bif Nat.beq k 9 then 4163 else 0) else
    (bif Nat.beq k 10 then 4165 else 0))) else
  (bif Nat.blt k 13 then (bif Nat.blt k 12 then (bif Nat.beq k 11 then 4167 else 0) else
    (bif Nat.beq k 12 then 4169 else 0)) else
   (bif Nat.blt k 14 then (bif Nat.beq k 13 then 4171 else 0) else
    (bif Nat.beq k 14 then 4173 else 0))))) else 0)) else
   (bif Nat.blt c 12 then (bif Nat.beq c 11 then (bif Nat.blt k 2 then (bif Nat.blt k 1 then (bif Nat.beq k 0 then 6075 else 0) else
  (bif Nat.beq k 1 then 6077 else 0)) else
 (bif Nat.blt k 3 then (bif Nat.beq k 2 then 6079 else 0) else
  (bif Nat.beq k 3 then 6081 else 0))) else 0) else
    (bif Nat.beq c 12 then (bif Nat.blt k 2 then (bif Nat.blt k 1 then (bif Nat.beq k 0 then 6218 else 0) else
  (bif Nat.beq k 1 then 6220 else 0)) else
 (bif Nat.blt k 3 then (bif Nat.beq k 2 then 6222 else 0) else
  (bif Nat.beq k 3 then 6224 else 0))) else 0)))))
def zftm (k : Nat) (t : FieldType) : Prop := match k with
  | 0 => t = .int
  | 1 => t = .boolean
  | 2 => t = .long
  | 3 => t = .float
  | 4 => t = .double
  | 6 => t = .byte
  | _ => (∃ C, t = .object C) ∨ ∃ t2, t = .array t2
/-- the class that declares a kind of object's fields -/
noncomputable def zdn (c : Nat) : String := bif Nat.beq c 11 then "java/lang/AbstractStringBuilder" else zvn c
noncomputable abbrev zUok (c k : Nat) : Prop := zinP (u_lay (zvn c) (zT c) k) (zplU c k) ∧ (zT c k).1 = zdn c ∧ zfin c k = (zT c k).2.2.2 ∧ parseFieldDescriptor (zT c k).2.2.1 = some (zFT c k) ∧ zftm (zfty c k) (zFT c k)
set_option maxRecDepth 100000 in
theorem zU_0_0 : zUok 0 0 := ⟨⟨rfl, rfl⟩, rfl, rfl, by decide +kernel, Or.inl ⟨_, rfl⟩⟩
set_option maxRecDepth 100000 in
theorem zU_0_1 : zUok 0 1 := ⟨⟨rfl, rfl⟩, rfl, rfl, by decide +kernel, Or.inl ⟨_, rfl⟩⟩
set_option maxRecDepth 100000 in
theorem zU_0_2 : zUok 0 2 := ⟨⟨rfl, rfl⟩, rfl, rfl, by decide +kernel, Or.inl ⟨_, rfl⟩⟩
set_option maxRecDepth 100000 in
theorem zU_0_3 : zUok 0 3 := ⟨⟨rfl, rfl⟩, rfl, rfl, by decide +kernel, Or.inr ⟨_, rfl⟩⟩
set_option maxRecDepth 100000 in
theorem zU_0_4 : zUok 0 4 := ⟨⟨rfl, rfl⟩, rfl, rfl, by decide +kernel, Or.inr ⟨_, rfl⟩⟩
theorem zU_0 : ∀ k, k < 5 → zUok 0 k := lt_s (lt_s (lt_s (lt_s (lt_s (lt_0) zU_0_0) zU_0_1) zU_0_2) zU_0_3) zU_0_4
set_option maxRecDepth 100000 in
theorem zUn_0 : ∀ a, a < znf 0 → ∀ b, b < znf 0 → a ≠ b → (zT 0 a).2.1 ≠ (zT 0 b).2.1 := by decide +kernel
set_option maxRecDepth 100000 in
theorem zU_1_0 : zUok 1 0 := ⟨⟨rfl, rfl⟩, rfl, rfl, by decide +kernel, Or.inr ⟨_, rfl⟩⟩
theorem zU_1 : ∀ k, k < 1 → zUok 1 k := lt_s (lt_0) zU_1_0
set_option maxRecDepth 100000 in
theorem zUn_1 : ∀ a, a < znf 1 → ∀ b, b < znf 1 → a ≠ b → (zT 1 a).2.1 ≠ (zT 1 b).2.1 := by decide +kernel
set_option maxRecDepth 100000 in
theorem zU_2_0 : zUok 2 0 := ⟨⟨rfl, rfl⟩, rfl, rfl, by decide +kernel, rfl⟩
set_option maxRecDepth 100000 in
theorem zU_2_1 : zUok 2 1 := ⟨⟨rfl, rfl⟩, rfl, rfl, by decide +kernel, rfl⟩
set_option maxRecDepth 100000 in
theorem zU_2_2 : zUok 2 2 := ⟨⟨rfl, rfl⟩, rfl, rfl, by decide +kernel, Or.inr ⟨_, rfl⟩⟩
set_option maxRecDepth 100000 in
theorem zU_2_3 : zUok 2 3 := ⟨⟨rfl, rfl⟩, rfl, rfl, by decide +kernel, Or.inr ⟨_, rfl⟩⟩
set_option maxRecDepth 100000 in
theorem zU_2_4 : zUok 2 4 := ⟨⟨rfl, rfl⟩, rfl, rfl, by decide +kernel, Or.inr ⟨_, rfl⟩⟩
theorem zU_2 : ∀ k, k < 5 → zUok 2 k := lt_s (lt_s (lt_s (lt_s (lt_s (lt_0) zU_2_0) zU_2_1) zU_2_2) zU_2_3) zU_2_4
set_option maxRecDepth 100000 in
theorem zUn_2 : ∀ a, a < znf 2 → ∀ b, b < znf 2 → a ≠ b → (zT 2 a).2.1 ≠ (zT 2 b).2.1 := by decide +kernel
set_option maxRecDepth 100000 in
theorem zU_3_0 : zUok 3 0 := ⟨⟨rfl, rfl⟩, rfl, rfl, by decide +kernel, rfl⟩
set_option maxRecDepth 100000 in
theorem zU_3_1 : zUok 3 1 := ⟨⟨rfl, rfl⟩, rfl, rfl, by decide +kernel, rfl⟩
set_option maxRecDepth 100000 in
theorem zU_3_2 : zUok 3 2 := ⟨⟨rfl, rfl⟩, rfl, rfl, by decide +kernel, Or.inl ⟨_, rfl⟩⟩
set_option maxRecDepth 100000 in
theorem zU_3_3 : zUok 3 3 := ⟨⟨rfl, rfl⟩, rfl, rfl, by decide +kernel, Or.inr ⟨_, rfl⟩⟩
set_option maxRecDepth 100000 in
theorem zU_3_4 : zUok 3 4 := ⟨⟨rfl, rfl⟩, rfl, rfl, by decide +kernel, Or.inl ⟨_, rfl⟩⟩
set_option maxRecDepth 100000 in
theorem zU_3_5 : zUok 3 5 := ⟨⟨rfl, rfl⟩, rfl, rfl, by decide +kernel, Or.inl ⟨_, rfl⟩⟩
set_option maxRecDepth 100000 in
theorem zU_3_6 : zUok 3 6 := ⟨⟨rfl, rfl⟩, rfl, rfl, by decide +kernel, rfl⟩
set_option maxRecDepth 100000 in
theorem zU_3_7 : zUok 3 7 := ⟨⟨rfl, rfl⟩, rfl, rfl, by decide +kernel, rfl⟩
theorem zU_3 : ∀ k, k < 8 → zUok 3 k := lt_s (lt_s (lt_s (lt_s (lt_s (lt_s (lt_s (lt_s (lt_0) zU_3_0) zU_3_1) zU_3_2) zU_3_3) zU_3_4) zU_3_5) zU_3_6) zU_3_7
set_option maxRecDepth 100000 in
theorem zUn_3 : ∀ a, a < znf 3 → ∀ b, b < znf 3 → a ≠ b → (zT 3 a).2.1 ≠ (zT 3 b).2.1 := by decide +kernel
set_option maxRecDepth 100000 in
theorem zU_4_0 : zUok 4 0 := ⟨⟨rfl, rfl⟩, rfl, rfl, by decide +kernel, rfl⟩
set_option maxRecDepth 100000 in
theorem zU_4_1 : zUok 4 1 := ⟨⟨rfl, rfl⟩, rfl, rfl, by decide +kernel, rfl⟩
set_option maxRecDepth 100000 in
theorem zU_4_2 : zUok 4 2 := ⟨⟨rfl, rfl⟩, rfl, rfl, by decide +kernel, rfl⟩
set_option maxRecDepth 100000 in
theorem zU_4_3 : zUok 4 3 := ⟨⟨rfl, rfl⟩, rfl, rfl, by decide +kernel, Or.inr ⟨_, rfl⟩⟩
set_option maxRecDepth 100000 in
theorem zU_4_4 : zUok 4 4 := ⟨⟨rfl, rfl⟩, rfl, rfl, by decide +kernel, Or.inr ⟨_, rfl⟩⟩
set_option maxRecDepth 100000 in
theorem zU_4_5 : zUok 4 5 := ⟨⟨rfl, rfl⟩, rfl, rfl, by decide +kernel, Or.inr ⟨_, rfl⟩⟩
set_option maxRecDepth 100000 in
theorem zU_4_6 : zUok 4 6 := ⟨⟨rfl, rfl⟩, rfl, rfl, by decide +kernel, Or.inr ⟨_, rfl⟩⟩
set_option maxRecDepth 100000 in
theorem zU_4_7 : zUok 4 7 := ⟨⟨rfl, rfl⟩, rfl, rfl, by decide +kernel, Or.inr ⟨_, rfl⟩⟩
set_option maxRecDepth 100000 in
theorem zU_4_8 : zUok 4 8 := ⟨⟨rfl, rfl⟩, rfl, rfl, by decide +kernel, Or.inr ⟨_, rfl⟩⟩
set_option maxRecDepth 100000 in
theorem zU_4_9 : zUok 4 9 := ⟨⟨rfl, rfl⟩, rfl, rfl, by decide +kernel, Or.inr ⟨_, rfl⟩⟩
set_option maxRecDepth 100000 in
theorem zU_4_10 : zUok 4 10 := ⟨⟨rfl, rfl⟩, rfl, rfl, by decide +kernel, Or.inr ⟨_, rfl⟩⟩
set_option maxRecDepth 100000 in
theorem zU_4_11 : zUok 4 11 := ⟨⟨rfl, rfl⟩, rfl, rfl, by decide +kernel, Or.inr ⟨_, rfl⟩⟩
set_option maxRecDepth 100000 in
theorem zU_4_12 : zUok 4 12 := ⟨⟨rfl, rfl⟩, rfl, rfl, by decide +kernel, Or.inr ⟨_, rfl⟩⟩
set_option maxRecDepth 100000 in
theorem zU_4_13 : zUok 4 13 := ⟨⟨rfl, rfl⟩, rfl, rfl, by decide +kernel, Or.inl ⟨_, rfl⟩⟩
theorem zU_4 : ∀ k, k < 14 → zUok 4 k := lt_s (lt_s (lt_s (lt_s (lt_s (lt_s (lt_s (lt_s (lt_s (lt_s (lt_s (lt_s (lt_s (lt_s (lt_0) zU_4_0) zU_4_1) zU_4_2) zU_4_3) zU_4_4) zU_4_5) zU_4_6) zU_4_7) zU_4_8) zU_4_9) zU_4_10) zU_4_11) zU_4_12) zU_4_13
set_option maxRecDepth 100000 in
theorem zUn_4 : ∀ a, a < znf 4 → ∀ b, b < znf 4 → a ≠ b → (zT 4 a).2.1 ≠ (zT 4 b).2.1 := by decide +kernel
set_option maxRecDepth 100000 in
theorem zU_5_0 : zUok 5 0 := ⟨⟨rfl, rfl⟩, rfl, rfl, by decide +kernel, Or.inl ⟨_, rfl⟩⟩
set_option maxRecDepth 100000 in
theorem zU_5_1 : zUok 5 1 := ⟨⟨rfl, rfl⟩, rfl, rfl, by decide +kernel, Or.inl ⟨_, rfl⟩⟩
set_option maxRecDepth 100000 in
theorem zU_5_2 : zUok 5 2 := ⟨⟨rfl, rfl⟩, rfl, rfl, by decide +kernel, Or.inl ⟨_, rfl⟩⟩
set_option maxRecDepth 100000 in
theorem zU_5_3 : zUok 5 3 := ⟨⟨rfl, rfl⟩, rfl, rfl, by decide +kernel, Or.inr ⟨_, rfl⟩⟩
set_option maxRecDepth 100000 in
theorem zU_5_4 : zUok 5 4 := ⟨⟨rfl, rfl⟩, rfl, rfl, by decide +kernel, Or.inr ⟨_, rfl⟩⟩
set_option maxRecDepth 100000 in
theorem zU_5_5 : zUok 5 5 := ⟨⟨rfl, rfl⟩, rfl, rfl, by decide +kernel, Or.inr ⟨_, rfl⟩⟩
set_option maxRecDepth 100000 in
theorem zU_5_6 : zUok 5 6 := ⟨⟨rfl, rfl⟩, rfl, rfl, by decide +kernel, rfl⟩
set_option maxRecDepth 100000 in
theorem zU_5_7 : zUok 5 7 := ⟨⟨rfl, rfl⟩, rfl, rfl, by decide +kernel, rfl⟩
set_option maxRecDepth 100000 in
theorem zU_5_8 : zUok 5 8 := ⟨⟨rfl, rfl⟩, rfl, rfl, by decide +kernel, rfl⟩
set_option maxRecDepth 100000 in
theorem zU_5_9 : zUok 5 9 := ⟨⟨rfl, rfl⟩, rfl, rfl, by decide +kernel, rfl⟩
theorem zU_5 : ∀ k, k < 10 → zUok 5 k := lt_s (lt_s (lt_s (lt_s (lt_s (lt_s (lt_s (lt_s (lt_s (lt_s (lt_0) zU_5_0) zU_5_1) zU_5_2) zU_5_3) zU_5_4) zU_5_5) zU_5_6) zU_5_7) zU_5_8) zU_5_9
set_option maxRecDepth 100000 in
theorem zUn_5 : ∀ a, a < znf 5 → ∀ b, b < znf 5 → a ≠ b → (zT 5 a).2.1 ≠ (zT 5 b).2.1 := by decide +kernel
set_option maxRecDepth 100000 in
theorem zU_6_0 : zUok 6 0 := ⟨⟨rfl, rfl⟩, rfl, rfl, by decide +kernel, rfl⟩
set_option maxRecDepth 100000 in
theorem zU_6_1 : zUok 6 1 := ⟨⟨rfl, rfl⟩, rfl, rfl, by decide +kernel, rfl⟩
set_option maxRecDepth 100000 in
theorem zU_6_2 : zUok 6 2 := ⟨⟨rfl, rfl⟩, rfl, rfl, by decide +kernel, Or.inr ⟨_, rfl⟩⟩
set_option maxRecDepth 100000 in
theorem zU_6_3 : zUok 6 3 := ⟨⟨rfl, rfl⟩, rfl, rfl, by decide +kernel, rfl⟩
set_option maxRecDepth 100000 in
theorem zU_6_4 : zUok 6 4 := ⟨⟨rfl, rfl⟩, rfl, rfl, by decide +kernel, rfl⟩
set_option maxRecDepth 100000 in
theorem zU_6_5 : zUok 6 5 := ⟨⟨rfl, rfl⟩, rfl, rfl, by decide +kernel, Or.inr ⟨_, rfl⟩⟩
set_option maxRecDepth 100000 in
theorem zU_6_6 : zUok 6 6 := ⟨⟨rfl, rfl⟩, rfl, rfl, by decide +kernel, Or.inr ⟨_, rfl⟩⟩
set_option maxRecDepth 100000 in
theorem zU_6_7 : zUok 6 7 := ⟨⟨rfl, rfl⟩, rfl, rfl, by decide +kernel, rfl⟩
set_option maxRecDepth 100000 in
theorem zU_6_8 : zUok 6 8 := ⟨⟨rfl, rfl⟩, rfl, rfl, by decide +kernel, rfl⟩
theorem zU_6 : ∀ k, k < 9 → zUok 6 k := lt_s (lt_s (lt_s (lt_s (lt_s (lt_s (lt_s (lt_s (lt_s (lt_0) zU_6_0) zU_6_1) zU_6_2) zU_6_3) zU_6_4) zU_6_5) zU_6_6) zU_6_7) zU_6_8
set_option maxRecDepth 100000 in
theorem zUn_6 : ∀ a, a < znf 6 → ∀ b, b < znf 6 → a ≠ b → (zT 6 a).2.1 ≠ (zT 6 b).2.1 := by decide +kernel
set_option maxRecDepth 100000 in
theorem zU_7_0 : zUok 7 0 := ⟨⟨rfl, rfl⟩, rfl, rfl, by decide +kernel, rfl⟩
set_option maxRecDepth 100000 in
theorem zU_7_1 : zUok 7 1 := ⟨⟨rfl, rfl⟩, rfl, rfl, by decide +kernel, rfl⟩
set_option maxRecDepth 100000 in
theorem zU_7_2 : zUok 7 2 := ⟨⟨rfl, rfl⟩, rfl, rfl, by decide +kernel, Or.inr ⟨_, rfl⟩⟩
set_option maxRecDepth 100000 in
theorem zU_7_3 : zUok 7 3 := ⟨⟨rfl, rfl⟩, rfl, rfl, by decide +kernel, Or.inr ⟨_, rfl⟩⟩
set_option maxRecDepth 100000 in
theorem zU_7_4 : zUok 7 4 := ⟨⟨rfl, rfl⟩, rfl, rfl, by decide +kernel, Or.inr ⟨_, rfl⟩⟩
set_option maxRecDepth 100000 in
theorem zU_7_5 : zUok 7 5 := ⟨⟨rfl, rfl⟩, rfl, rfl, by decide +kernel, Or.inr ⟨_, rfl⟩⟩
set_option maxRecDepth 100000 in
theorem zU_7_6 : zUok 7 6 := ⟨⟨rfl, rfl⟩, rfl, rfl, by decide +kernel, Or.inr ⟨_, rfl⟩⟩
set_option maxRecDepth 100000 in
theorem zU_7_7 : zUok 7 7 := ⟨⟨rfl, rfl⟩, rfl, rfl, by decide +kernel, Or.inr ⟨_, rfl⟩⟩
set_option maxRecDepth 100000 in
theorem zU_7_8 : zUok 7 8 := ⟨⟨rfl, rfl⟩, rfl, rfl, by decide +kernel, Or.inr ⟨_, rfl⟩⟩
set_option maxRecDepth 100000 in
theorem zU_7_9 : zUok 7 9 := ⟨⟨rfl, rfl⟩, rfl, rfl, by decide +kernel, Or.inl ⟨_, rfl⟩⟩
set_option maxRecDepth 100000 in
theorem zU_7_10 : zUok 7 10 := ⟨⟨rfl, rfl⟩, rfl, rfl, by decide +kernel, Or.inr ⟨_, rfl⟩⟩
set_option maxRecDepth 100000 in
theorem zU_7_11 : zUok 7 11 := ⟨⟨rfl, rfl⟩, rfl, rfl, by decide +kernel, Or.inr ⟨_, rfl⟩⟩
set_option maxRecDepth 100000 in
theorem zU_7_12 : zUok 7 12 := ⟨⟨rfl, rfl⟩, rfl, rfl, by decide +kernel, Or.inr ⟨_, rfl⟩⟩
set_option maxRecDepth 100000 in
theorem zU_7_13 : zUok 7 13 := ⟨⟨rfl, rfl⟩, rfl, rfl, by decide +kernel, rfl⟩
set_option maxRecDepth 100000 in
theorem zU_7_14 : zUok 7 14 := ⟨⟨rfl, rfl⟩, rfl, rfl, by decide +kernel, Or.inl ⟨_, rfl⟩⟩
set_option maxRecDepth 100000 in
theorem zU_7_15 : zUok 7 15 := ⟨⟨rfl, rfl⟩, rfl, rfl, by decide +kernel, Or.inl ⟨_, rfl⟩⟩
theorem zU_7 : ∀ k, k < 16 → zUok 7 k := lt_s (lt_s (lt_s (lt_s (lt_s (lt_s (lt_s (lt_s (lt_s (lt_s (lt_s (lt_s (lt_s (lt_s (lt_s (lt_s (lt_0) zU_7_0) zU_7_1) zU_7_2) zU_7_3) zU_7_4) zU_7_5) zU_7_6) zU_7_7) zU_7_8) zU_7_9) zU_7_10) zU_7_11) zU_7_12) zU_7_13) zU_7_14) zU_7_15
set_option maxRecDepth 100000 in
theorem zUn_7 : ∀ a, a < znf 7 → ∀ b, b < znf 7 → a ≠ b → (zT 7 a).2.1 ≠ (zT 7 b).2.1 := by decide +kernel
set_option maxRecDepth 100000 in
theorem zU_8_0 : zUok 8 0 := ⟨⟨rfl, rfl⟩, rfl, rfl, by decide +kernel, Or.inl ⟨_, rfl⟩⟩
set_option maxRecDepth 100000 in
theorem zU_8_1 : zUok 8 1 := ⟨⟨rfl, rfl⟩, rfl, rfl, by decide +kernel, Or.inl ⟨_, rfl⟩⟩
set_option maxRecDepth 100000 in
theorem zU_8_2 : zUok 8 2 := ⟨⟨rfl, rfl⟩, rfl, rfl, by decide +kernel, Or.inr ⟨_, rfl⟩⟩
set_option maxRecDepth 100000 in
theorem zU_8_3 : zUok 8 3 := ⟨⟨rfl, rfl⟩, rfl, rfl, by decide +kernel, Or.inr ⟨_, rfl⟩⟩
theorem zU_8 : ∀ k, k < 4 → zUok 8 k := lt_s (lt_s (lt_s (lt_s (lt_0) zU_8_0) zU_8_1) zU_8_2) zU_8_3
set_option maxRecDepth 100000 in
theorem zUn_8 : ∀ a, a < znf 8 → ∀ b, b < znf 8 → a ≠ b → (zT 8 a).2.1 ≠ (zT 8 b).2.1 := by decide +kernel
set_option maxRecDepth 100000 in
theorem zU_9_0 : zUok 9 0 := ⟨⟨rfl, rfl⟩, rfl, rfl, by decide +kernel, Or.inl ⟨_, rfl⟩⟩
set_option maxRecDepth 100000 in
theorem zU_9_1 : zUok 9 1 := ⟨⟨rfl, rfl⟩, rfl, rfl, by decide +kernel, Or.inl ⟨_, rfl⟩⟩
set_option maxRecDepth 100000 in
theorem zU_9_2 : zUok 9 2 := ⟨⟨rfl, rfl⟩, rfl, rfl, by decide +kernel, Or.inl ⟨_, rfl⟩⟩
set_option maxRecDepth 100000 in
theorem zU_9_3 : zUok 9 3 := ⟨⟨rfl, rfl⟩, rfl, rfl, by decide +kernel, Or.inr ⟨_, rfl⟩⟩
set_option maxRecDepth 100000 in
theorem zU_9_4 : zUok 9 4 := ⟨⟨rfl, rfl⟩, rfl, rfl, by decide +kernel, Or.inr ⟨_, rfl⟩⟩
set_option maxRecDepth 100000 in
theorem zU_9_5 : zUok 9 5 := ⟨⟨rfl, rfl⟩, rfl, rfl, by decide +kernel, Or.inr ⟨_, rfl⟩⟩
set_option maxRecDepth 100000 in
theorem zU_9_6 : zUok 9 6 := ⟨⟨rfl, rfl⟩, rfl, rfl, by decide +kernel, Or.inr ⟨_, rfl⟩⟩
theorem zU_9 : ∀ k, k < 7 → zUok 9 k := lt_s (lt_s (lt_s (lt_s (lt_s (lt_s (lt_s (lt_0) zU_9_0) zU_9_1) zU_9_2) zU_9_3) zU_9_4) zU_9_5) zU_9_6
set_option maxRecDepth 100000 in
theorem zUn_9 : ∀ a, a < znf 9 → ∀ b, b < znf 9 → a ≠ b → (zT 9 a).2.1 ≠ (zT 9 b).2.1 := by decide +kernel
set_option maxRecDepth 100000 in
theorem zU_10_0 : zUok 10 0 := ⟨⟨rfl, rfl⟩, rfl, rfl, by decide +kernel, Or.inr ⟨_, rfl⟩⟩
set_option maxRecDepth 100000 in
theorem zU_10_1 : zUok 10 1 := ⟨⟨rfl, rfl⟩, rfl, rfl, by decide +kernel, rfl⟩
set_option maxRecDepth 100000 in
theorem zU_10_2 : zUok 10 2 := ⟨⟨rfl, rfl⟩, rfl, rfl, by decide +kernel, Or.inr ⟨_, rfl⟩⟩
set_option maxRecDepth 100000 in
theorem zU_10_3 : zUok 10 3 := ⟨⟨rfl, rfl⟩, rfl, rfl, by decide +kernel, rfl⟩
set_option maxRecDepth 100000 in
theorem zU_10_4 : zUok 10 4 := ⟨⟨rfl, rfl⟩, rfl, rfl, by decide +kernel, rfl⟩
set_option maxRecDepth 100000 in
theorem zU_10_5 : zUok 10 5 := ⟨⟨rfl, rfl⟩, rfl, rfl, by decide +kernel, rfl⟩
set_option maxRecDepth 100000 in
theorem zU_10_6 : zUok 10 6 := ⟨⟨rfl, rfl⟩, rfl, rfl, by decide +kernel, Or.inl ⟨_, rfl⟩⟩
set_option maxRecDepth 100000 in
theorem zU_10_7 : zUok 10 7 := ⟨⟨rfl, rfl⟩, rfl, rfl, by decide +kernel, Or.inl ⟨_, rfl⟩⟩
set_option maxRecDepth 100000 in
theorem zU_10_8 : zUok 10 8 := ⟨⟨rfl, rfl⟩, rfl, rfl, by decide +kernel, Or.inl ⟨_, rfl⟩⟩
set_option maxRecDepth 100000 in
theorem zU_10_9 : zUok 10 9 := ⟨⟨rfl, rfl⟩, rfl, rfl, by decide +kernel, Or.inl ⟨_, rfl⟩⟩
set_option maxRecDepth 100000 in
theorem zU_10_10 : zUok 10 10 := ⟨⟨rfl, rfl⟩, rfl, rfl, by decide +kernel, Or.inl ⟨_, rfl⟩⟩
set_option maxRecDepth 100000 in
theorem zU_10_11 : zUok 10 11 := ⟨⟨rfl, rfl⟩, rfl, rfl, by decide +kernel, Or.inl ⟨_, rfl⟩⟩
set_option maxRecDepth 100000 in
theorem zU_10_12 : zUok 10 12 := ⟨⟨rfl, rfl⟩, rfl, rfl, by decide +kernel, Or.inl ⟨_, rfl⟩⟩
set_option maxRecDepth 100000 in
theorem zU_10_13 : zUok 10 13 := ⟨⟨rfl, rfl⟩, rfl, rfl, by decide +kernel, Or.inl ⟨_, rfl⟩⟩
set_option maxRecDepth 100000 in
theorem zU_10_14 : zUok 10 14 := ⟨⟨rfl, rfl⟩, rfl, rfl, by decide +kernel, Or.inl ⟨_, rfl⟩⟩
theorem zU_10 : ∀ k, k < 15 → zUok 10 k := lt_s (lt_s (lt_s (lt_s (lt_s (lt_s (lt_s (lt_s (lt_s (lt_s (lt_s (lt_s (lt_s (lt_s (lt_s (lt_0) zU_10_0) zU_10_1) zU_10_2) zU_10_3) zU_10_4) zU_10_5) zU_10_6) zU_10_7) zU_10_8) zU_10_9) zU_10_10) zU_10_11) zU_10_12) zU_10_13) zU_10_14
set_option maxRecDepth 100000 in
theorem zUn_10 : ∀ a, a < znf 10 → ∀ b, b < znf 10 → a ≠ b → (zT 10 a).2.1 ≠ (zT 10 b).2.1 := by decide +kernel
set_option maxRecDepth 100000 in
theorem zU_11_0 : zUok 11 0 := ⟨⟨rfl, rfl⟩, rfl, rfl, by decide +kernel, Or.inr ⟨_, rfl⟩⟩
set_option maxRecDepth 100000 in
theorem zU_11_1 : zUok 11 1 := ⟨⟨rfl, rfl⟩, rfl, rfl, by decide +kernel, rfl⟩
set_option maxRecDepth 100000 in
theorem zU_11_2 : zUok 11 2 := ⟨⟨rfl, rfl⟩, rfl, rfl, by decide +kernel, rfl⟩
set_option maxRecDepth 100000 in
theorem zU_11_3 : zUok 11 3 := ⟨⟨rfl, rfl⟩, rfl, rfl, by decide +kernel, rfl⟩
theorem zU_11 : ∀ k, k < 4 → zUok 11 k := lt_s (lt_s (lt_s (lt_s (lt_0) zU_11_0) zU_11_1) zU_11_2) zU_11_3
set_option maxRecDepth 100000 in
theorem zUn_11 : ∀ a, a < znf 11 → ∀ b, b < znf 11 → a ≠ b → (zT 11 a).2.1 ≠ (zT 11 b).2.1 := by decide +kernel
set_option maxRecDepth 100000 in
theorem zU_12_0 : zUok 12 0 := ⟨⟨rfl, rfl⟩, rfl, rfl, by decide +kernel, Or.inr ⟨_, rfl⟩⟩
set_option maxRecDepth 100000 in
theorem zU_12_1 : zUok 12 1 := ⟨⟨rfl, rfl⟩, rfl, rfl, by decide +kernel, rfl⟩
set_option maxRecDepth 100000 in
theorem zU_12_2 : zUok 12 2 := ⟨⟨rfl, rfl⟩, rfl, rfl, by decide +kernel, rfl⟩
set_option maxRecDepth 100000 in
theorem zU_12_3 : zUok 12 3 := ⟨⟨rfl, rfl⟩, rfl, rfl, by decide +kernel, rfl⟩
theorem zU_12 : ∀ k, k < 4 → zUok 12 k := lt_s (lt_s (lt_s (lt_s (lt_0) zU_12_0) zU_12_1) zU_12_2) zU_12_3
set_option maxRecDepth 100000 in
theorem zUn_12 : ∀ a, a < znf 12 → ∀ b, b < znf 12 → a ≠ b → (zT 12 a).2.1 ≠ (zT 12 b).2.1 := by decide +kernel
set_option maxRecDepth 100000 in
theorem zU_all : ∀ c, c < 13 → (∀ k, k < znf c → zUok c k) ∧ (∀ a, a < znf c → ∀ b, b < znf c → a ≠ b → (zT c a).2.1 ≠ (zT c b).2.1) ∧ zcn (zobo c) = zvn c := lt_s (lt_s (lt_s (lt_s (lt_s (lt_s (lt_s (lt_s (lt_s (lt_s (lt_s (lt_s (lt_s ((lt_0 : ∀ a, a < 0 → (∀ k, k < znf a → zUok a k) ∧ (∀ x, x < znf a → ∀ y, y < znf a → x ≠ y → (zT a x).2.1 ≠ (zT a y).2.1) ∧ zcn (zobo a) = zvn a)) ⟨zU_0, zUn_0, rfl⟩) ⟨zU_1, zUn_1, rfl⟩) ⟨zU_2, zUn_2, rfl⟩) ⟨zU_3, zUn_3, rfl⟩) ⟨zU_4, zUn_4, rfl⟩) ⟨zU_5, zUn_5, rfl⟩) ⟨zU_6, zUn_6, rfl⟩) ⟨zU_7, zUn_7, rfl⟩) ⟨zU_8, zUn_8, rfl⟩) ⟨zU_9, zUn_9, rfl⟩) ⟨zU_10, zUn_10, rfl⟩) ⟨zU_11, zUn_11, rfl⟩) ⟨zU_12, zUn_12, rfl⟩
noncomputable abbrev lkGok (o i a : Nat) : Prop := (a = zVB + 1 ∧ zinP (.fieldLink (zcn o) i "BackwardProofs$Sets" "VARIABLE_LOW" "[J") (zplF o i)) ∨ (a = zVB + 2 ∧ zinP (.fieldLink (zcn o) i "BackwardProofs$Sets" "VARIABLE_HIGH" "[J") (zplF o i)) ∨ (a = 0 ∧ zinP (.fieldLink (zcn o) i "java/lang/String" "COMPACT_STRINGS" "Z") (zplF o i)) ∨ (a = zVB + 56 ∧ zinP (.fieldLink (zcn o) i "java/lang/Integer" "DigitOnes" "[B") (zplF o i)) ∨ (a = zVB + 57 ∧ zinP (.fieldLink (zcn o) i "java/lang/Integer" "DigitTens" "[B") (zplF o i))
set_option maxRecDepth 100000 in
theorem lkG_20_38 : lkGok 20 38 0 := Or.inr (Or.inr (Or.inl ⟨rfl, rfl, rfl⟩))
theorem lkG_20 (i : Nat) (f : Nat) : zcpG_20 i = some f → lkGok 20 i f := (tr_l (P := fun i f => lkGok 20 i f) lkG_20_38)
set_option maxRecDepth 100000 in
theorem lkG_7_172 : lkGok 7 172 (zVB + 1) := Or.inl ⟨rfl, rfl, rfl⟩
set_option maxRecDepth 100000 in
theorem lkG_7_175 : lkGok 7 175 (zVB + 2) := Or.inr (Or.inl ⟨rfl, rfl, rfl⟩)
theorem lkG_7 (i : Nat) (f : Nat) : zcpG_7 i = some f → lkGok 7 i f := (tr_n (tr_l (P := fun i f => lkGok 7 i f) lkG_7_172) (tr_l (P := fun i f => lkGok 7 i f) lkG_7_175))
set_option maxRecDepth 100000 in
theorem lkG_19_18 : lkGok 19 18 0 := Or.inr (Or.inr (Or.inl ⟨rfl, rfl, rfl⟩))
theorem lkG_19 (i : Nat) (f : Nat) : zcpG_19 i = some f → lkGok 19 i f := (tr_l (P := fun i f => lkGok 19 i f) lkG_19_18)
set_option maxRecDepth 100000 in
theorem lkG_21_83 : lkGok 21 83 (zVB + 56) := Or.inr (Or.inr (Or.inr (Or.inl ⟨rfl, rfl, rfl⟩)))
set_option maxRecDepth 100000 in
theorem lkG_21_87 : lkGok 21 87 (zVB + 57) := Or.inr (Or.inr (Or.inr (Or.inr (⟨rfl, rfl, rfl⟩))))
theorem lkG_21 (i : Nat) (f : Nat) : zcpG_21 i = some f → lkGok 21 i f := (tr_n (tr_l (P := fun i f => lkGok 21 i f) lkG_21_83) (tr_l (P := fun i f => lkGok 21 i f) lkG_21_87))
theorem lkG (o i : Nat) (f : Nat) : zcpG o i = some f → lkGok o i f := (tr_n (tr_n (tr_k (P := fun o => lkGok o i f) (lkG_7 i f)) (tr_k (P := fun o => lkGok o i f) (lkG_19 i f))) (tr_n (tr_k (P := fun o => lkGok o i f) (lkG_20 i f)) (tr_k (P := fun o => lkGok o i f) (lkG_21 i f))))
noncomputable def zanm (t : Nat) : String := bif Nat.beq t 25 then "BackwardProofs$Formula" else bif Nat.beq t 26 then "BackwardProofs$Version" else bif Nat.beq t 27 then "[[B" else "[B"
noncomputable abbrev lkAok (o i t : Nat) : Prop := zinP (.classLink (zcn o) i (zanm t)) (zplC o i) ∧ (t = 25 ∨ t = 26 ∨ t = 27 ∨ t = 21)
set_option maxRecDepth 100000 in
theorem lkA_11_16 : lkAok 11 16 25 := ⟨⟨rfl, rfl⟩, Or.inl rfl⟩
set_option maxRecDepth 100000 in
theorem lkA_11_50 : lkAok 11 50 26 := ⟨⟨rfl, rfl⟩, Or.inr (Or.inl rfl)⟩
theorem lkA_11 (i : Nat) (f : Nat) : zcpA_11 i = some f → lkAok 11 i f := (tr_n (tr_l (P := fun i f => lkAok 11 i f) lkA_11_16) (tr_l (P := fun i f => lkAok 11 i f) lkA_11_50))
set_option maxRecDepth 100000 in
theorem lkA_16_311 : lkAok 16 311 21 := ⟨⟨rfl, rfl⟩, Or.inr (Or.inr (Or.inr rfl))⟩
theorem lkA_16 (i : Nat) (f : Nat) : zcpA_16 i = some f → lkAok 16 i f := (tr_l (P := fun i f => lkAok 16 i f) lkA_16_311)
set_option maxRecDepth 100000 in
theorem lkA_2_9 : lkAok 2 9 26 := ⟨⟨rfl, rfl⟩, Or.inr (Or.inl rfl)⟩
theorem lkA_2 (i : Nat) (f : Nat) : zcpA_2 i = some f → lkAok 2 i f := (tr_l (P := fun i f => lkAok 2 i f) lkA_2_9)
set_option maxRecDepth 100000 in
theorem lkA_9_9 : lkAok 9 9 25 := ⟨⟨rfl, rfl⟩, Or.inl rfl⟩
theorem lkA_9 (i : Nat) (f : Nat) : zcpA_9 i = some f → lkAok 9 i f := (tr_l (P := fun i f => lkAok 9 i f) lkA_9_9)
set_option maxRecDepth 100000 in
theorem lkA_4_39 : lkAok 4 39 25 := ⟨⟨rfl, rfl⟩, Or.inl rfl⟩
theorem lkA_4 (i : Nat) (f : Nat) : zcpA_4 i = some f → lkAok 4 i f := (tr_l (P := fun i f => lkAok 4 i f) lkA_4_39)
set_option maxRecDepth 100000 in
theorem lkA_7_31 : lkAok 7 31 25 := ⟨⟨rfl, rfl⟩, Or.inl rfl⟩
theorem lkA_7 (i : Nat) (f : Nat) : zcpA_7 i = some f → lkAok 7 i f := (tr_l (P := fun i f => lkAok 7 i f) lkA_7_31)
set_option maxRecDepth 100000 in
theorem lkA_8_11 : lkAok 8 11 27 := ⟨⟨rfl, rfl⟩, Or.inr (Or.inr (Or.inl rfl))⟩
theorem lkA_8 (i : Nat) (f : Nat) : zcpA_8 i = some f → lkAok 8 i f := (tr_l (P := fun i f => lkAok 8 i f) lkA_8_11)
set_option maxRecDepth 100000 in
theorem lkA_3_151 : lkAok 3 151 25 := ⟨⟨rfl, rfl⟩, Or.inl rfl⟩
theorem lkA_3 (i : Nat) (f : Nat) : zcpA_3 i = some f → lkAok 3 i f := (tr_l (P := fun i f => lkAok 3 i f) lkA_3_151)
theorem lkA (o i : Nat) (f : Nat) : zcpA o i = some f → lkAok o i f := (tr_n (tr_n (tr_n (tr_k (P := fun o => lkAok o i f) (lkA_2 i f)) (tr_k (P := fun o => lkAok o i f) (lkA_3 i f))) (tr_n (tr_k (P := fun o => lkAok o i f) (lkA_4 i f)) (tr_k (P := fun o => lkAok o i f) (lkA_7 i f)))) (tr_n (tr_n (tr_k (P := fun o => lkAok o i f) (lkA_8 i f)) (tr_k (P := fun o => lkAok o i f) (lkA_9 i f))) (tr_n (tr_k (P := fun o => lkAok o i f) (lkA_11 i f)) (tr_k (P := fun o => lkAok o i f) (lkA_16 i f)))))
theorem zArr_0 : ∀ w ∈ [Cond.arrayClass .boolean, .arrayClass .byte, .arrayClass .int, .arrayClass .long], w ∈ lw_tbl ∧ goodWord w = true := by
  intro w hw
  simp only [List.mem_cons, List.not_mem_nil, or_false] at hw
  rcases hw with rfl | rfl | rfl | rfl
  · exact ⟨zin_ok (p := 1188) ⟨rfl, rfl⟩, rfl⟩
  · exact ⟨zin_ok (p := 1073) ⟨rfl, rfl⟩, rfl⟩
  · exact ⟨zin_ok (p := 1116) ⟨rfl, rfl⟩, rfl⟩
  · exact ⟨zin_ok (p := 2096) ⟨rfl, rfl⟩, rfl⟩

noncomputable def zKw (o i : Nat) (v : zV) : Cond := match v with
  | .inl x => .constant (zcn o) i (Int32.ofInt x)
  | .inr (.inl x) => .constantLong (zcn o) i (Int64.ofBitVec x)
  | .inr (.inr (.inl x)) => .constantFloat (zcn o) i x
  | .inr (.inr (.inr (.inl x))) => .constantDouble (zcn o) i x
  | _ => .constant "" 0 0
noncomputable def zstx (k : Nat) : String × Nat × String :=
 (bif Nat.blt k 26 then (bif Nat.blt k 13 then (bif Nat.blt k 6 then (bif Nat.blt k 3 then (bif Nat.blt k 1 then (bif Nat.beq k 0 then ("BackwardProofs", 89, "proof lt a 3 and eq a 0 eq b 2 set b 2 while lt 0 a keep eq b 2 less a set a minus a 1 end hole") else ("", 0, "")) else
     (bif Nat.blt k 2 then (bif Nat.beq k 1 then ("BackwardProofs$Words", 7, "0") else ("", 0, "")) else
      (bif Nat.beq k 2 then ("BackwardProofs$Words", 9, "1") else ("", 0, "")))) else
    (bif Nat.blt k 4 then (bif Nat.beq k 3 then ("BackwardProofs$Words", 11, "2") else ("", 0, "")) else
     (bif Nat.blt k 5 then (bif Nat.beq k 4 then ("BackwardProofs$Words", 13, "3") else ("", 0, "")) else
      (bif Nat.beq k 5 then ("BackwardProofs$Words", 15, "a") else ("", 0, ""))))) else
   (bif Nat.blt k 9 then (bif Nat.blt k 7 then (bif Nat.beq k 6 then ("BackwardProofs$Words", 17, "b") else ("", 0, "")) else
     (bif Nat.blt k 8 then (bif Nat.beq k 7 then ("BackwardProofs$Words", 19, "c") else ("", 0, "")) else
      (bif Nat.beq k 8 then ("BackwardProofs$Words", 21, "plus") else ("", 0, "")))) else
    (bif Nat.blt k 11 then (bif Nat.blt k 10 then (bif Nat.beq k 9 then ("BackwardProofs$Words", 23, "minus") else ("", 0, "")) else
      (bif Nat.beq k 10 then ("BackwardProofs$Words", 25, "times") else ("", 0, ""))) else
     (bif Nat.blt k 12 then (bif Nat.beq k 11 then ("BackwardProofs$Words", 27, "true") else ("", 0, "")) else
      (bif Nat.beq k 12 then ("BackwardProofs$Words", 29, "false") else ("", 0, "")))))) else
  (bif Nat.blt k 19 then (bif Nat.blt k 16 then (bif Nat.blt k 14 then (bif Nat.beq k 13 then ("BackwardProofs$Words", 31, "eq") else ("", 0, "")) else
     (bif Nat.blt k 15 then (bif Nat.beq k 14 then ("BackwardProofs$Words", 33, "lt") else ("", 0, "")) else
      (bif Nat.beq k 15 then ("BackwardProofs$Words", 35, "not") else ("", 0, "")))) else
    (bif Nat.blt k 17 then (bif Nat.beq k 16 then ("BackwardProofs$Words", 37, "and") else ("", 0, "")) else
     (bif Nat.blt k 18 then (bif Nat.beq k 17 then ("BackwardProofs$Words", 39, "or") else ("", 0, "")) else
      (bif Nat.beq k 18 then ("BackwardProofs$Words", 41, "set") else ("", 0, ""))))) else
   (bif Nat.blt k 22 then (bif Nat.blt k 20 then (bif Nat.beq k 19 then ("BackwardProofs$Words", 43, "if") else ("", 0, "")) else
     (bif Nat.blt k 21 then (bif Nat.beq k 20 then ("BackwardProofs$Words", 45, "while") else ("", 0, "")) else
      (bif Nat.beq k 21 then ("BackwardProofs$Words", 47, "hole") else ("", 0, "")))) else
    (bif Nat.blt k 24 then (bif Nat.blt k 23 then (bif Nat.beq k 22 then ("BackwardProofs$Words", 49, "else") else ("", 0, "")) else
      (bif Nat.beq k 23 then ("BackwardProofs$Words", 51, "end") else ("", 0, ""))) else
     (bif Nat.blt k 25 then (bif Nat.beq k 24 then ("BackwardProofs$Words", 53, "keep") else ("", 0, "")) else
      (bif Nat.beq k 25 then ("BackwardProofs$Words", 55, "less") else ("", 0, ""))))))) else
 (bif Nat.blt k 39 then (bif Nat.blt k 32 then (bif Nat.blt k 29 then (bif Nat.blt k 27 then (bif Nat.beq k 26 then ("BackwardProofs$Words", 57, "proof") else ("", 0, "")) else
     (bif Nat.blt k 28 then (bif Nat.beq k 27 then ("BackwardProofs$Words", 59, "") else ("", 0, "")) else
      (bif Nat.beq k 28 then ("BackwardProofs", 374, " ") else ("", 0, "")))) else
    (bif Nat.blt k 30 then (bif Nat.beq k 29 then ("BackwardProofsLaw", 98, "proof") else ("", 0, "")) else
     (bif Nat.blt k 31 then (bif Nat.beq k 30 then ("BackwardProofsLaw", 66, " plus") else ("", 0, "")) else
      (bif Nat.beq k 31 then ("BackwardProofsLaw", 68, " minus") else ("", 0, ""))))) else
   (bif Nat.blt k 35 then (bif Nat.blt k 33 then (bif Nat.beq k 32 then ("BackwardProofsLaw", 70, " times") else ("", 0, "")) else
     (bif Nat.blt k 34 then (bif Nat.beq k 33 then ("BackwardProofsLaw", 84, " not") else ("", 0, "")) else
      (bif Nat.beq k 34 then ("BackwardProofsLaw", 86, " and") else ("", 0, "")))) else
    (bif Nat.blt k 37 then (bif Nat.blt k 36 then (bif Nat.beq k 35 then ("BackwardProofsLaw", 88, " or") else ("", 0, "")) else
      (bif Nat.beq k 36 then ("BackwardProofsLaw", 90, " true") else ("", 0, ""))) else
     (bif Nat.blt k 38 then (bif Nat.beq k 37 then ("BackwardProofsLaw", 92, " false") else ("", 0, "")) else
      (bif Nat.beq k 38 then ("BackwardProofsLaw", 94, " eq") else ("", 0, "")))))) else
  (bif Nat.blt k 46 then (bif Nat.blt k 42 then (bif Nat.blt k 40 then (bif Nat.beq k 39 then ("BackwardProofsLaw", 96, " lt") else ("", 0, "")) else
     (bif Nat.blt k 41 then (bif Nat.beq k 40 then ("BackwardProofsLaw", 107, " if") else ("", 0, "")) else
      (bif Nat.beq k 41 then ("BackwardProofsLaw", 109, " while lt 0 ") else ("", 0, "")))) else
    (bif Nat.blt k 44 then (bif Nat.blt k 43 then (bif Nat.beq k 42 then ("BackwardProofsLaw", 111, " keep") else ("", 0, "")) else
      (bif Nat.beq k 43 then ("BackwardProofsLaw", 113, " less ") else ("", 0, ""))) else
     (bif Nat.blt k 45 then (bif Nat.beq k 44 then ("BackwardProofsLaw", 115, " set ") else ("", 0, "")) else
      (bif Nat.beq k 45 then ("BackwardProofsLaw", 117, " minus ") else ("", 0, ""))))) else
   (bif Nat.blt k 49 then (bif Nat.blt k 47 then (bif Nat.beq k 46 then ("BackwardProofsLaw", 119, " 1") else ("", 0, "")) else
     (bif Nat.blt k 48 then (bif Nat.beq k 47 then ("BackwardProofsLaw", 121, " hole") else ("", 0, "")) else
      (bif Nat.beq k 48 then ("BackwardProofsLaw", 123, " else") else ("", 0, "")))) else
    (bif Nat.blt k 51 then (bif Nat.blt k 50 then (bif Nat.beq k 49 then ("BackwardProofsLaw", 125, " end") else ("", 0, "")) else
      (bif Nat.beq k 50 then ("BackwardProofsLaw", 127, " else end") else ("", 0, ""))) else
     (bif Nat.blt k 52 then (bif Nat.beq k 51 then ("BackwardProofsLaw", 292, "eq a") else ("", 0, "")) else
      (bif Nat.beq k 52 then ("BackwardProofsLaw", 294, "not a") else ("", 0, ""))))))))
def lkKok (o i : Nat) (v : zV) : Prop := zinP (zKw o i v) (zplK o i) ∧ (match v with | .inl x => inR x | .inr (.inr (.inr (.inr _))) => False | _ => True) ∨ ∃ k, k < 53 ∧ v = zR (some (zVB + 3 + k)) ∧ zcn o = (zstx k).1 ∧ i = (zstx k).2.1
set_option maxRecDepth 100000 in
theorem lkK_7_178 : lkKok 7 178 (zJ (18446744073709551615#64)) := Or.inl ⟨⟨rfl, rfl⟩, trivial⟩
theorem lkK_7 (i : Nat) (f : zV) : zcpK_7 i = some f → lkKok 7 i f := (tr_l (P := fun i f => lkKok 7 i f) lkK_7_178)
set_option maxRecDepth 100000 in
theorem lkK_0_62 : lkKok 0 62 (zJ (18446744073709551615#64)) := Or.inl ⟨⟨rfl, rfl⟩, trivial⟩
theorem lkK_0 (i : Nat) (f : zV) : zcpK_0 i = some f → lkKok 0 i f := (tr_l (P := fun i f => lkKok 0 i f) lkK_0_62)
set_option maxRecDepth 100000 in
theorem lkK_13_7 : lkKok 13 7 (zI (1103515245)) := Or.inl ⟨⟨rfl, rfl⟩, by decide⟩
set_option maxRecDepth 100000 in
theorem lkK_13_66 : lkKok 13 66 (zR (some (zVB + 33))) := Or.inr ⟨30, Nat.le_of_ble_eq_true rfl, rfl, rfl, rfl⟩
set_option maxRecDepth 100000 in
theorem lkK_13_68 : lkKok 13 68 (zR (some (zVB + 34))) := Or.inr ⟨31, Nat.le_of_ble_eq_true rfl, rfl, rfl, rfl⟩
set_option maxRecDepth 100000 in
theorem lkK_13_70 : lkKok 13 70 (zR (some (zVB + 35))) := Or.inr ⟨32, Nat.le_of_ble_eq_true rfl, rfl, rfl, rfl⟩
set_option maxRecDepth 100000 in
theorem lkK_13_84 : lkKok 13 84 (zR (some (zVB + 36))) := Or.inr ⟨33, Nat.le_of_ble_eq_true rfl, rfl, rfl, rfl⟩
set_option maxRecDepth 100000 in
theorem lkK_13_86 : lkKok 13 86 (zR (some (zVB + 37))) := Or.inr ⟨34, Nat.le_of_ble_eq_true rfl, rfl, rfl, rfl⟩
set_option maxRecDepth 100000 in
theorem lkK_13_88 : lkKok 13 88 (zR (some (zVB + 38))) := Or.inr ⟨35, Nat.le_of_ble_eq_true rfl, rfl, rfl, rfl⟩
set_option maxRecDepth 100000 in
theorem lkK_13_90 : lkKok 13 90 (zR (some (zVB + 39))) := Or.inr ⟨36, Nat.le_of_ble_eq_true rfl, rfl, rfl, rfl⟩
set_option maxRecDepth 100000 in
theorem lkK_13_92 : lkKok 13 92 (zR (some (zVB + 40))) := Or.inr ⟨37, Nat.le_of_ble_eq_true rfl, rfl, rfl, rfl⟩
set_option maxRecDepth 100000 in
theorem lkK_13_94 : lkKok 13 94 (zR (some (zVB + 41))) := Or.inr ⟨38, Nat.le_of_ble_eq_true rfl, rfl, rfl, rfl⟩
set_option maxRecDepth 100000 in
theorem lkK_13_96 : lkKok 13 96 (zR (some (zVB + 42))) := Or.inr ⟨39, Nat.le_of_ble_eq_true rfl, rfl, rfl, rfl⟩
set_option maxRecDepth 100000 in
theorem lkK_13_98 : lkKok 13 98 (zR (some (zVB + 32))) := Or.inr ⟨29, Nat.le_of_ble_eq_true rfl, rfl, rfl, rfl⟩
set_option maxRecDepth 100000 in
theorem lkK_13_107 : lkKok 13 107 (zR (some (zVB + 43))) := Or.inr ⟨40, Nat.le_of_ble_eq_true rfl, rfl, rfl, rfl⟩
set_option maxRecDepth 100000 in
theorem lkK_13_109 : lkKok 13 109 (zR (some (zVB + 44))) := Or.inr ⟨41, Nat.le_of_ble_eq_true rfl, rfl, rfl, rfl⟩
set_option maxRecDepth 100000 in
theorem lkK_13_111 : lkKok 13 111 (zR (some (zVB + 45))) := Or.inr ⟨42, Nat.le_of_ble_eq_true rfl, rfl, rfl, rfl⟩
set_option maxRecDepth 100000 in
theorem lkK_13_113 : lkKok 13 113 (zR (some (zVB + 46))) := Or.inr ⟨43, Nat.le_of_ble_eq_true rfl, rfl, rfl, rfl⟩
set_option maxRecDepth 100000 in
theorem lkK_13_115 : lkKok 13 115 (zR (some (zVB + 47))) := Or.inr ⟨44, Nat.le_of_ble_eq_true rfl, rfl, rfl, rfl⟩
set_option maxRecDepth 100000 in
theorem lkK_13_117 : lkKok 13 117 (zR (some (zVB + 48))) := Or.inr ⟨45, Nat.le_of_ble_eq_true rfl, rfl, rfl, rfl⟩
set_option maxRecDepth 100000 in
theorem lkK_13_119 : lkKok 13 119 (zR (some (zVB + 49))) := Or.inr ⟨46, Nat.le_of_ble_eq_true rfl, rfl, rfl, rfl⟩
set_option maxRecDepth 100000 in
theorem lkK_13_121 : lkKok 13 121 (zR (some (zVB + 50))) := Or.inr ⟨47, Nat.le_of_ble_eq_true rfl, rfl, rfl, rfl⟩
set_option maxRecDepth 100000 in
theorem lkK_13_123 : lkKok 13 123 (zR (some (zVB + 51))) := Or.inr ⟨48, Nat.le_of_ble_eq_true rfl, rfl, rfl, rfl⟩
set_option maxRecDepth 100000 in
theorem lkK_13_125 : lkKok 13 125 (zR (some (zVB + 52))) := Or.inr ⟨49, Nat.le_of_ble_eq_true rfl, rfl, rfl, rfl⟩
set_option maxRecDepth 100000 in
theorem lkK_13_127 : lkKok 13 127 (zR (some (zVB + 53))) := Or.inr ⟨50, Nat.le_of_ble_eq_true rfl, rfl, rfl, rfl⟩
set_option maxRecDepth 100000 in
theorem lkK_13_133 : lkKok 13 133 (zJ (31#64)) := Or.inl ⟨⟨rfl, rfl⟩, trivial⟩
set_option maxRecDepth 100000 in
theorem lkK_13_174 : lkKok 13 174 (zJ (18446744073709551615#64)) := Or.inl ⟨⟨rfl, rfl⟩, trivial⟩
set_option maxRecDepth 100000 in
theorem lkK_13_189 : lkKok 13 189 (zF 1115684864) := Or.inl ⟨⟨rfl, rfl⟩, trivial⟩
set_option maxRecDepth 100000 in
theorem lkK_13_292 : lkKok 13 292 (zR (some (zVB + 54))) := Or.inr ⟨51, Nat.le_of_ble_eq_true rfl, rfl, rfl, rfl⟩
set_option maxRecDepth 100000 in
theorem lkK_13_294 : lkKok 13 294 (zR (some (zVB + 55))) := Or.inr ⟨52, Nat.le_of_ble_eq_true rfl, rfl, rfl, rfl⟩
theorem lkK_13 (i : Nat) (f : zV) : zcpK_13 i = some f → lkKok 13 i f := (tr_n (tr_n (tr_n (tr_n (tr_l (P := fun i f => lkKok 13 i f) lkK_13_7) (tr_n (tr_l (P := fun i f => lkKok 13 i f) lkK_13_66) (tr_l (P := fun i f => lkKok 13 i f) lkK_13_68))) (tr_n (tr_n (tr_l (P := fun i f => lkKok 13 i f) lkK_13_70) (tr_l (P := fun i f => lkKok 13 i f) lkK_13_84)) (tr_n (tr_l (P := fun i f => lkKok 13 i f) lkK_13_86) (tr_l (P := fun i f => lkKok 13 i f) lkK_13_88)))) (tr_n (tr_n (tr_l (P := fun i f => lkKok 13 i f) lkK_13_90) (tr_n (tr_l (P := fun i f => lkKok 13 i f) lkK_13_92) (tr_l (P := fun i f => lkKok 13 i f) lkK_13_94))) (tr_n (tr_n (tr_l (P := fun i f => lkKok 13 i f) lkK_13_96) (tr_l (P := fun i f => lkKok 13 i f) lkK_13_98)) (tr_n (tr_l (P := fun i f => lkKok 13 i f) lkK_13_107) (tr_l (P := fun i f => lkKok 13 i f) lkK_13_109))))) (tr_n (tr_n (tr_n (tr_l (P := fun i f => lkKok 13 i f) lkK_13_111) (tr_n (tr_l (P := fun i f => lkKok 13 i f) lkK_13_113) (tr_l (P := fun i f => lkKok 13 i f) lkK_13_115))) (tr_n (tr_n (tr_l (P := fun i f => lkKok 13 i f) lkK_13_117) (tr_l (P := fun i f => lkKok 13 i f) lkK_13_119)) (tr_n (tr_l (P := fun i f => lkKok 13 i f) lkK_13_121) (tr_l (P := fun i f => lkKok 13 i f) lkK_13_123)))) (tr_n (tr_n (tr_l (P := fun i f => lkKok 13 i f) lkK_13_125) (tr_n (tr_l (P := fun i f => lkKok 13 i f) lkK_13_127) (tr_l (P := fun i f => lkKok 13 i f) lkK_13_133))) (tr_n (tr_n (tr_l (P := fun i f => lkKok 13 i f) lkK_13_174) (tr_l (P := fun i f => lkKok 13 i f) lkK_13_189)) (tr_n (tr_l (P := fun i f => lkKok 13 i f) lkK_13_292) (tr_l (P := fun i f => lkKok 13 i f) lkK_13_294))))))
set_option maxRecDepth 100000 in
theorem lkK_15_314 : lkKok 15 314 (zJ (6148914691236517205#64)) := Or.inl ⟨⟨rfl, rfl⟩, trivial⟩
set_option maxRecDepth 100000 in
theorem lkK_15_316 : lkKok 15 316 (zJ (3689348814741910323#64)) := Or.inl ⟨⟨rfl, rfl⟩, trivial⟩
set_option maxRecDepth 100000 in
theorem lkK_15_318 : lkKok 15 318 (zJ (1085102592571150095#64)) := Or.inl ⟨⟨rfl, rfl⟩, trivial⟩
theorem lkK_15 (i : Nat) (f : zV) : zcpK_15 i = some f → lkKok 15 i f := (tr_n (tr_l (P := fun i f => lkKok 15 i f) lkK_15_314) (tr_n (tr_l (P := fun i f => lkKok 15 i f) lkK_15_316) (tr_l (P := fun i f => lkKok 15 i f) lkK_15_318)))
set_option maxRecDepth 100000 in
theorem lkK_19_38 : lkKok 19 38 (zI (2147483631)) := Or.inl ⟨⟨rfl, rfl⟩, by decide⟩
set_option maxRecDepth 100000 in
theorem lkK_19_39 : lkKok 19 39 (zI (2147483647)) := Or.inl ⟨⟨rfl, rfl⟩, by decide⟩
theorem lkK_19 (i : Nat) (f : zV) : zcpK_19 i = some f → lkKok 19 i f := (tr_n (tr_l (P := fun i f => lkKok 19 i f) lkK_19_38) (tr_l (P := fun i f => lkKok 19 i f) lkK_19_39))
set_option maxRecDepth 100000 in
theorem lkK_22_200 : lkKok 22 200 (zI (2147483639)) := Or.inl ⟨⟨rfl, rfl⟩, by decide⟩
theorem lkK_22 (i : Nat) (f : zV) : zcpK_22 i = some f → lkKok 22 i f := (tr_l (P := fun i f => lkKok 22 i f) lkK_22_200)
set_option maxRecDepth 100000 in
theorem lkK_21_264 : lkKok 21 264 (zI (65536)) := Or.inl ⟨⟨rfl, rfl⟩, by decide⟩
theorem lkK_21 (i : Nat) (f : zV) : zcpK_21 i = some f → lkKok 21 i f := (tr_l (P := fun i f => lkKok 21 i f) lkK_21_264)
set_option maxRecDepth 100000 in
theorem lkK_11_89 : lkKok 11 89 (zR (some (zVB + 3))) := Or.inr ⟨0, Nat.le_of_ble_eq_true rfl, rfl, rfl, rfl⟩
set_option maxRecDepth 100000 in
theorem lkK_11_268 : lkKok 11 268 (zF 1115684864) := Or.inl ⟨⟨rfl, rfl⟩, trivial⟩
set_option maxRecDepth 100000 in
theorem lkK_11_279 : lkKok 11 279 (zJ (18446744073709551615#64)) := Or.inl ⟨⟨rfl, rfl⟩, trivial⟩
set_option maxRecDepth 100000 in
theorem lkK_11_374 : lkKok 11 374 (zR (some (zVB + 31))) := Or.inr ⟨28, Nat.le_of_ble_eq_true rfl, rfl, rfl, rfl⟩
theorem lkK_11 (i : Nat) (f : zV) : zcpK_11 i = some f → lkKok 11 i f := (tr_n (tr_n (tr_l (P := fun i f => lkKok 11 i f) lkK_11_89) (tr_l (P := fun i f => lkKok 11 i f) lkK_11_268)) (tr_n (tr_l (P := fun i f => lkKok 11 i f) lkK_11_279) (tr_l (P := fun i f => lkKok 11 i f) lkK_11_374)))
set_option maxRecDepth 100000 in
theorem lkK_5_131 : lkKok 5 131 (zF 1092616192) := Or.inl ⟨⟨rfl, rfl⟩, trivial⟩
set_option maxRecDepth 100000 in
theorem lkK_5_149 : lkKok 5 149 (zF 3212836864) := Or.inl ⟨⟨rfl, rfl⟩, trivial⟩
set_option maxRecDepth 100000 in
theorem lkK_5_165 : lkKok 5 165 (zF 1258291200) := Or.inl ⟨⟨rfl, rfl⟩, trivial⟩
set_option maxRecDepth 100000 in
theorem lkK_5_166 : lkKok 5 166 (zI (-2147483648)) := Or.inl ⟨⟨rfl, rfl⟩, by decide⟩
set_option maxRecDepth 100000 in
theorem lkK_5_167 : lkKok 5 167 (zJ (1023#64)) := Or.inl ⟨⟨rfl, rfl⟩, trivial⟩
set_option maxRecDepth 100000 in
theorem lkK_5_169 : lkKok 5 169 (zD 4611686018427387904) := Or.inl ⟨⟨rfl, rfl⟩, trivial⟩
set_option maxRecDepth 100000 in
theorem lkK_5_171 : lkKok 5 171 (zD 4841369599423283200) := Or.inl ⟨⟨rfl, rfl⟩, trivial⟩
theorem lkK_5 (i : Nat) (f : zV) : zcpK_5 i = some f → lkKok 5 i f := (tr_n (tr_n (tr_l (P := fun i f => lkKok 5 i f) lkK_5_131) (tr_n (tr_l (P := fun i f => lkKok 5 i f) lkK_5_149) (tr_l (P := fun i f => lkKok 5 i f) lkK_5_165))) (tr_n (tr_n (tr_l (P := fun i f => lkKok 5 i f) lkK_5_166) (tr_l (P := fun i f => lkKok 5 i f) lkK_5_167)) (tr_n (tr_l (P := fun i f => lkKok 5 i f) lkK_5_169) (tr_l (P := fun i f => lkKok 5 i f) lkK_5_171))))
set_option maxRecDepth 100000 in
theorem lkK_17_77 : lkKok 17 77 (zI (2143289344)) := Or.inl ⟨⟨rfl, rfl⟩, by decide⟩
theorem lkK_17 (i : Nat) (f : zV) : zcpK_17 i = some f → lkKok 17 i f := (tr_l (P := fun i f => lkKok 17 i f) lkK_17_77)
set_option maxRecDepth 100000 in
theorem lkK_18_137 : lkKok 18 137 (zJ (9221120237041090560#64)) := Or.inl ⟨⟨rfl, rfl⟩, trivial⟩
theorem lkK_18 (i : Nat) (f : zV) : zcpK_18 i = some f → lkKok 18 i f := (tr_l (P := fun i f => lkKok 18 i f) lkK_18_137)
set_option maxRecDepth 100000 in
theorem lkK_10_7 : lkKok 10 7 (zR (some (zVB + 4))) := Or.inr ⟨1, Nat.le_of_ble_eq_true rfl, rfl, rfl, rfl⟩
set_option maxRecDepth 100000 in
theorem lkK_10_9 : lkKok 10 9 (zR (some (zVB + 5))) := Or.inr ⟨2, Nat.le_of_ble_eq_true rfl, rfl, rfl, rfl⟩
set_option maxRecDepth 100000 in
theorem lkK_10_11 : lkKok 10 11 (zR (some (zVB + 6))) := Or.inr ⟨3, Nat.le_of_ble_eq_true rfl, rfl, rfl, rfl⟩
set_option maxRecDepth 100000 in
theorem lkK_10_13 : lkKok 10 13 (zR (some (zVB + 7))) := Or.inr ⟨4, Nat.le_of_ble_eq_true rfl, rfl, rfl, rfl⟩
set_option maxRecDepth 100000 in
theorem lkK_10_15 : lkKok 10 15 (zR (some (zVB + 8))) := Or.inr ⟨5, Nat.le_of_ble_eq_true rfl, rfl, rfl, rfl⟩
set_option maxRecDepth 100000 in
theorem lkK_10_17 : lkKok 10 17 (zR (some (zVB + 9))) := Or.inr ⟨6, Nat.le_of_ble_eq_true rfl, rfl, rfl, rfl⟩
set_option maxRecDepth 100000 in
theorem lkK_10_19 : lkKok 10 19 (zR (some (zVB + 10))) := Or.inr ⟨7, Nat.le_of_ble_eq_true rfl, rfl, rfl, rfl⟩
set_option maxRecDepth 100000 in
theorem lkK_10_21 : lkKok 10 21 (zR (some (zVB + 11))) := Or.inr ⟨8, Nat.le_of_ble_eq_true rfl, rfl, rfl, rfl⟩
set_option maxRecDepth 100000 in
theorem lkK_10_23 : lkKok 10 23 (zR (some (zVB + 12))) := Or.inr ⟨9, Nat.le_of_ble_eq_true rfl, rfl, rfl, rfl⟩
set_option maxRecDepth 100000 in
theorem lkK_10_25 : lkKok 10 25 (zR (some (zVB + 13))) := Or.inr ⟨10, Nat.le_of_ble_eq_true rfl, rfl, rfl, rfl⟩
set_option maxRecDepth 100000 in
theorem lkK_10_27 : lkKok 10 27 (zR (some (zVB + 14))) := Or.inr ⟨11, Nat.le_of_ble_eq_true rfl, rfl, rfl, rfl⟩
set_option maxRecDepth 100000 in
theorem lkK_10_29 : lkKok 10 29 (zR (some (zVB + 15))) := Or.inr ⟨12, Nat.le_of_ble_eq_true rfl, rfl, rfl, rfl⟩
set_option maxRecDepth 100000 in
theorem lkK_10_31 : lkKok 10 31 (zR (some (zVB + 16))) := Or.inr ⟨13, Nat.le_of_ble_eq_true rfl, rfl, rfl, rfl⟩
set_option maxRecDepth 100000 in
theorem lkK_10_33 : lkKok 10 33 (zR (some (zVB + 17))) := Or.inr ⟨14, Nat.le_of_ble_eq_true rfl, rfl, rfl, rfl⟩
set_option maxRecDepth 100000 in
theorem lkK_10_35 : lkKok 10 35 (zR (some (zVB + 18))) := Or.inr ⟨15, Nat.le_of_ble_eq_true rfl, rfl, rfl, rfl⟩
set_option maxRecDepth 100000 in
theorem lkK_10_37 : lkKok 10 37 (zR (some (zVB + 19))) := Or.inr ⟨16, Nat.le_of_ble_eq_true rfl, rfl, rfl, rfl⟩
set_option maxRecDepth 100000 in
theorem lkK_10_39 : lkKok 10 39 (zR (some (zVB + 20))) := Or.inr ⟨17, Nat.le_of_ble_eq_true rfl, rfl, rfl, rfl⟩
set_option maxRecDepth 100000 in
theorem lkK_10_41 : lkKok 10 41 (zR (some (zVB + 21))) := Or.inr ⟨18, Nat.le_of_ble_eq_true rfl, rfl, rfl, rfl⟩
set_option maxRecDepth 100000 in
theorem lkK_10_43 : lkKok 10 43 (zR (some (zVB + 22))) := Or.inr ⟨19, Nat.le_of_ble_eq_true rfl, rfl, rfl, rfl⟩
set_option maxRecDepth 100000 in
theorem lkK_10_45 : lkKok 10 45 (zR (some (zVB + 23))) := Or.inr ⟨20, Nat.le_of_ble_eq_true rfl, rfl, rfl, rfl⟩
set_option maxRecDepth 100000 in
theorem lkK_10_47 : lkKok 10 47 (zR (some (zVB + 24))) := Or.inr ⟨21, Nat.le_of_ble_eq_true rfl, rfl, rfl, rfl⟩
set_option maxRecDepth 100000 in
theorem lkK_10_49 : lkKok 10 49 (zR (some (zVB + 25))) := Or.inr ⟨22, Nat.le_of_ble_eq_true rfl, rfl, rfl, rfl⟩
set_option maxRecDepth 100000 in
theorem lkK_10_51 : lkKok 10 51 (zR (some (zVB + 26))) := Or.inr ⟨23, Nat.le_of_ble_eq_true rfl, rfl, rfl, rfl⟩
set_option maxRecDepth 100000 in
theorem lkK_10_53 : lkKok 10 53 (zR (some (zVB + 27))) := Or.inr ⟨24, Nat.le_of_ble_eq_true rfl, rfl, rfl, rfl⟩
set_option maxRecDepth 100000 in
theorem lkK_10_55 : lkKok 10 55 (zR (some (zVB + 28))) := Or.inr ⟨25, Nat.le_of_ble_eq_true rfl, rfl, rfl, rfl⟩
set_option maxRecDepth 100000 in
theorem lkK_10_57 : lkKok 10 57 (zR (some (zVB + 29))) := Or.inr ⟨26, Nat.le_of_ble_eq_true rfl, rfl, rfl, rfl⟩
set_option maxRecDepth 100000 in
theorem lkK_10_59 : lkKok 10 59 (zR (some (zVB + 30))) := Or.inr ⟨27, Nat.le_of_ble_eq_true rfl, rfl, rfl, rfl⟩
theorem lkK_10 (i : Nat) (f : zV) : zcpK_10 i = some f → lkKok 10 i f := (tr_n (tr_n (tr_n (tr_n (tr_l (P := fun i f => lkKok 10 i f) lkK_10_7) (tr_n (tr_l (P := fun i f => lkKok 10 i f) lkK_10_9) (tr_l (P := fun i f => lkKok 10 i f) lkK_10_11))) (tr_n (tr_l (P := fun i f => lkKok 10 i f) lkK_10_13) (tr_n (tr_l (P := fun i f => lkKok 10 i f) lkK_10_15) (tr_l (P := fun i f => lkKok 10 i f) lkK_10_17)))) (tr_n (tr_n (tr_l (P := fun i f => lkKok 10 i f) lkK_10_19) (tr_n (tr_l (P := fun i f => lkKok 10 i f) lkK_10_21) (tr_l (P := fun i f => lkKok 10 i f) lkK_10_23))) (tr_n (tr_n (tr_l (P := fun i f => lkKok 10 i f) lkK_10_25) (tr_l (P := fun i f => lkKok 10 i f) lkK_10_27)) (tr_n (tr_l (P := fun i f => lkKok 10 i f) lkK_10_29) (tr_l (P := fun i f => lkKok 10 i f) lkK_10_31))))) (tr_n (tr_n (tr_n (tr_l (P := fun i f => lkKok 10 i f) lkK_10_33) (tr_n (tr_l (P := fun i f => lkKok 10 i f) lkK_10_35) (tr_l (P := fun i f => lkKok 10 i f) lkK_10_37))) (tr_n (tr_n (tr_l (P := fun i f => lkKok 10 i f) lkK_10_39) (tr_l (P := fun i f => lkKok 10 i f) lkK_10_41)) (tr_n (tr_l (P := fun i f => lkKok 10 i f) lkK_10_43) (tr_l (P := fun i f => lkKok 10 i f) lkK_10_45)))) (tr_n (tr_n (tr_l (P := fun i f => lkKok 10 i f) lkK_10_47) (tr_n (tr_l (P := fun i f => lkKok 10 i f) lkK_10_49) (tr_l (P := fun i f => lkKok 10 i f) lkK_10_51))) (tr_n (tr_n (tr_l (P := fun i f => lkKok 10 i f) lkK_10_53) (tr_l (P := fun i f => lkKok 10 i f) lkK_10_55)) (tr_n (tr_l (P := fun i f => lkKok 10 i f) lkK_10_57) (tr_l (P := fun i f => lkKok 10 i f) lkK_10_59))))))
theorem lkK (o i : Nat) (f : zV) : zcpK o i = some f → lkKok o i f := (tr_n (tr_n (tr_n (tr_k (P := fun o => lkKok o i f) (lkK_0 i f)) (tr_n (tr_k (P := fun o => lkKok o i f) (lkK_5 i f)) (tr_k (P := fun o => lkKok o i f) (lkK_7 i f)))) (tr_n (tr_k (P := fun o => lkKok o i f) (lkK_10 i f)) (tr_n (tr_k (P := fun o => lkKok o i f) (lkK_11 i f)) (tr_k (P := fun o => lkKok o i f) (lkK_13 i f))))) (tr_n (tr_n (tr_k (P := fun o => lkKok o i f) (lkK_15 i f)) (tr_n (tr_k (P := fun o => lkKok o i f) (lkK_17 i f)) (tr_k (P := fun o => lkKok o i f) (lkK_18 i f)))) (tr_n (tr_k (P := fun o => lkKok o i f) (lkK_19 i f)) (tr_n (tr_k (P := fun o => lkKok o i f) (lkK_21 i f)) (tr_k (P := fun o => lkKok o i f) (lkK_22 i f))))))
