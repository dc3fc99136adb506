/-! The start: the first heap, the classes. -/
def zH0 (L : Nat) (xs : Nat → Int32) : zH := (0, 0, fun a => if a = zVB then 22 else if a = zVB + 1 then 23 else if a = zVB + 2 then 23 else if zVB + 3 ≤ a ∧ a < zVB + 56 then 40 else if zVB + 56 ≤ a ∧ a < zVB + 58 then 21 else 0,
  fun a => if a = zVB then L else if a = zVB + 1 then 3 else if a = zVB + 2 then 3 else if zVB + 56 ≤ a then 100 else zlens.getD (a - (zVB + 3)) 0, fun _ _ => none,
  fun a j => if a = zVB then (xs j).toInt else if zVB + 56 ≤ a ∧ a < zVB + 58 then (Int32.ofInt (zdg (a - (zVB + 56)) j)).toInt else ((zbyts.getD (a - (zVB + 3)) []).getD j 0).toInt, fun a j => if a = zVB + 1 then zlow j else if a = zVB + 2 then zhigh j else 0#64, fun _ _ => 0, fun _ _ => 0)
theorem hT_0 {L : Nat} {xs : Nat → Int32} (a : Nat) : hT (zH0 L xs) a = if a = zVB then 22 else if a = zVB + 1 then 23 else if a = zVB + 2 then 23 else if zVB + 3 ≤ a ∧ a < zVB + 56 then 40 else if zVB + 56 ≤ a ∧ a < zVB + 58 then 21 else 0 := rfl
theorem hL_0 {L : Nat} {xs : Nat → Int32} (a : Nat) : hL (zH0 L xs) a = if a = zVB then L else if a = zVB + 1 then 3 else if a = zVB + 2 then 3 else if zVB + 56 ≤ a then 100 else zlens.getD (a - (zVB + 3)) 0 := rfl
theorem hI_0 {L : Nat} {xs : Nat → Int32} (a j : Nat) : hI (zH0 L xs) a j = if a = zVB then (xs j).toInt else if zVB + 56 ≤ a ∧ a < zVB + 58 then (Int32.ofInt (zdg (a - (zVB + 56)) j)).toInt else ((zbyts.getD (a - (zVB + 3)) []).getD j 0).toInt := rfl
theorem hJ_0 {L : Nat} {xs : Nat → Int32} (a j : Nat) : hJ (zH0 L xs) a j = if a = zVB + 1 then zlow j else if a = zVB + 2 then zhigh j else 0#64 := rfl
theorem zV0_0 (L : Nat) (xs : Nat → Int32) : zV0 L xs (zH0 L xs) := by
  refine ⟨⟨?_, ?_, fun j _ => ?_⟩, ⟨?_, ?_, fun j _ => ?_⟩, ⟨?_, ?_, fun j _ => ?_⟩, fun k hk => ⟨?_, ?_, fun j _ => ?_⟩, fun t ht => ⟨?_, ?_, fun j hj => ?_⟩, fun a ha => ?_⟩
  · rw [hT_0, if_pos rfl]
  · rw [hL_0, if_pos rfl]
  · rw [hI_0, if_pos rfl]
  · rw [hT_0, if_neg (by omega), if_pos rfl]
  · rw [hL_0, if_neg (by omega), if_pos rfl]
  · rw [hJ_0, if_pos rfl]
  · rw [hT_0, if_neg (by omega), if_neg (by omega), if_pos rfl]
  · rw [hL_0, if_neg (by omega), if_neg (by omega), if_pos rfl]
  · rw [hJ_0, if_neg (by omega), if_pos rfl]
  · rw [hT_0, if_neg (by omega), if_neg (by omega), if_neg (by omega), if_pos (by omega)]
  · rw [hL_0, if_neg (by omega), if_neg (by omega), if_neg (by omega), if_neg (by omega), Nat.add_sub_cancel_left]
  · rw [hI_0, if_neg (by omega), if_neg (by omega), Nat.add_sub_cancel_left]
  · rw [hT_0, if_neg (by omega), if_neg (by omega), if_neg (by omega), if_neg (by omega), if_pos (by omega)]
  · rw [hL_0, if_neg (by omega), if_neg (by omega), if_neg (by omega), if_pos (by omega)]
  · rw [hI_0, if_neg (by omega), if_pos (by omega), Nat.add_sub_cancel_left]
    refine zi_to ?_
    unfold zdg inR
    split <;> omega
  · rw [hT_0, if_neg (by omega), if_neg (by omega), if_neg (by omega), if_neg (by omega), if_neg (by omega)]
theorem zRep_0 {adr : Nat → Nat} {dC : Nat → ClassId} {dI : Nat → Nat → Nat} {cA : Nat → ClassId} {L : Nat} {xs : Nat → Int32} {H : Heap} : zRep H.size adr dC dI cA L xs H (zH0 L xs) := by
  refine ⟨rfl, (by decide : (0 : Nat) < zVB), fun a h => absurd h (Nat.not_lt_zero a), fun a k => ?_, fun a _ h => ?_, zV0_0 L xs⟩
  · rw [hI_0]
    split
    · exact zi_r _
    · split <;> exact zi_r _
  · rw [hT_0, if_neg (by omega), if_neg (by omega), if_neg (by omega), if_neg (by omega), if_neg (by omega)]
theorem zAOA_spec {s : State} {args : Array Value} {t : FieldType} (h : (Cond.arrayOver (.array t)).before args s = true) :
    ∃ comp c k, s.vm.findClass (FieldType.array t).toString = some comp ∧ s.vm.classes[c]? = some k ∧ k.kind = .array comp (.array t) ∧ s.vm.findClass ("[" ++ (FieldType.array t).toString) = some c := by
  simp only [Cond.before, Cond.holds, Cond.value, beq_iff_eq] at h
  cases hc : s.vm.findClass (FieldType.array t).toString with
  | none => simp [hc] at h
  | some comp =>
    simp only [hc, Option.bind_some, Option.bind_eq_some_iff, Option.map_eq_some_iff] at h
    obtain ⟨c, hi, k, hk, hb⟩ := h
    obtain ⟨hlt, hp, -⟩ := Array.findIdx?_eq_some_iff_getElem.mp hi
    have hkk : s.vm.classes[c] = k := (Array.getElem?_eq_some_iff.mp hk).2
    rw [hkk] at hp
    cases hkind : k.kind with
    | array component ty =>
      rw [hkind] at hb hp
      simp at hb hp
      exact ⟨comp, c, k, rfl, hk, by rw [hkind, hp, hb.1], hb.2⟩
    | _ => rw [hkind] at hb; simp at hb
section ZStart
variable {args : Array Value} {s : State}
theorem zarr_p {ty : FieldType} (h : (Cond.arrayClass ty).before args s = true) (hr : ∀ cA, va_RA s cA ty = (s.vm.findClass ("[" ++ ty.toString) = some cA)) : ∃ ca, ArrOfT s ca ty ∧ va_RA s ca ty := by
  obtain ⟨cA, kA, comp, h1, h2, h3⟩ := Cond.arrayClass_spec h
  exact ⟨cA, fun N z => ⟨(fun k h => by cases h), kA, h2, comp, h3⟩, by rw [hr]; exact h1⟩
theorem zarr_o {C : String} (h : va_AO C s) : ∃ ca, ArrOfT s ca (.object C) ∧ va_RA s ca (.object C) := by
  obtain ⟨comp, c, k, h1, h2, h3, h4, h5⟩ := Cond.arrayOver_spec (va_AO.use (A := #[]) h)
  exact ⟨c, fun N z => ⟨(fun k h => by cases h), k, h3, comp, h4⟩, k, comp, h3, h4, h1, h5⟩
theorem zarr_a (h : zAOA s) : ∃ ca, ArrOfT s ca (.array .byte) ∧ va_RA s ca (.array .byte) := by
  obtain ⟨comp, c, k, h1, h2, h3, h4⟩ := zAOA_spec h
  exact ⟨c, fun N z => ⟨(fun k h => by cases h), k, h2, comp, h3⟩, h4⟩
theorem zK_of (hts : ∀ w ∈ lw_tbl, w.before args s = true) (hF : va_AO "BackwardProofs$Formula" s) (hV : va_AO "BackwardProofs$Version" s) (hB : zAOA s) : ∃ (dC : Nat → ClassId) (dI : Nat → Nat → Nat) (cA : Nat → ClassId), zK dC dI cA s := by
  have h1 : ∀ c, ∃ q : ClassId × (Nat → Nat), c < 13 → u_Kn s (zvn c) (zT c) (znf c) q.1 q.2 := fun c => by
    by_cases hc : c < 13
    · have hin : ∀ w ∈ u_ws (zvn c) (zT c) (znf c), w ∈ lw_tbl := fun w hw => by
        unfold u_ws at hw
        obtain ⟨k, hk, rfl⟩ := List.mem_map.mp hw
        exact zin_ok ((zU_all c hc).1 k (List.mem_range.mp hk)).1
      obtain ⟨cC, iS, h⟩ := u_known hts hin (hts _ (zin_ok (zV_all c hc)))
      exact ⟨(cC, iS), fun _ => h⟩
    · exact ⟨(0, fun _ => 0), fun h => absurd h hc⟩
  have h2 : ∀ t, ∃ ca : ClassId, 20 ≤ t → t < 28 → ArrOfT s ca (zaty t) ∧ va_RA s ca (zaty t) := fun t => by
    by_cases ht : 20 ≤ t ∧ t < 28
    · have h3 : ∃ ca : ClassId, ArrOfT s ca (zaty t) ∧ va_RA s ca (zaty t) := by
        have h4 : t = 20 ∨ t = 21 ∨ t = 22 ∨ t = 23 ∨ t = 24 ∨ t = 25 ∨ t = 26 ∨ t = 27 := by omega
        rcases h4 with rfl | rfl | rfl | rfl | rfl | rfl | rfl | rfl
        · exact zarr_p (hts _ (zArr_0 (.arrayClass .boolean) (by simp)).1) fun _ => rfl
        · exact zarr_p (hts _ (zArr_0 (.arrayClass .byte) (by simp)).1) fun _ => rfl
        · exact zarr_p (hts _ (zArr_0 (.arrayClass .int) (by simp)).1) fun _ => rfl
        · exact zarr_p (hts _ (zArr_0 (.arrayClass .long) (by simp)).1) fun _ => rfl
        · exact zarr_p (hts _ (zArr_0 (.arrayClass .long) (by simp)).1) fun _ => rfl
        · exact zarr_o hF
        · exact zarr_o hV
        · exact zarr_a hB
      obtain ⟨ca, h5⟩ := h3
      exact ⟨ca, fun _ _ => h5⟩
    · exact ⟨0, fun a b => absurd ⟨a, b⟩ ht⟩
  obtain ⟨f, hf⟩ := Classical.skolem.mp h1
  obtain ⟨g, hg⟩ := Classical.skolem.mp h2
  exact ⟨fun c => (f c).1, fun c => (f c).2, g, hf, hg⟩
end ZStart
