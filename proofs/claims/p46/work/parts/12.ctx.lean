/-! The heap, the class tables and what never changes: how the small machine's stand for the real ones. -/
def zlens : List Nat := [95, 1, 1, 1, 1, 1, 1, 1, 4, 5, 5, 4, 5, 2, 2, 3, 3, 2, 3, 2, 5, 4, 4, 3, 4, 4, 5, 0, 1, 5, 5, 6, 6, 4, 4, 3, 5, 6, 3, 3, 3, 12, 5, 6, 5, 7, 2, 5, 5, 4, 9, 4, 5]
def zbyts : List (List Int32) := [[112, 114, 111, 111, 102, 32, 108, 116, 32, 97, 32, 51, 32, 97, 110, 100, 32, 101, 113, 32, 97, 32, 48, 32, 101, 113, 32, 98, 32, 50, 32, 115, 101, 116, 32, 98, 32, 50, 32, 119, 104, 105, 108, 101, 32, 108, 116, 32, 48, 32, 97, 32, 107, 101, 101, 112, 32, 101, 113, 32, 98, 32, 50, 32, 108, 101, 115, 115, 32, 97, 32, 115, 101, 116, 32, 97, 32, 109, 105, 110, 117, 115, 32, 97, 32, 49, 32, 101, 110, 100, 32, 104, 111, 108, 101], [48], [49], [50], [51], [97], [98], [99], [112, 108, 117, 115], [109, 105, 110, 117, 115], [116, 105, 109, 101, 115], [116, 114, 117, 101], [102, 97, 108, 115, 101], [101, 113], [108, 116], [110, 111, 116], [97, 110, 100], [111, 114], [115, 101, 116], [105, 102], [119, 104, 105, 108, 101], [104, 111, 108, 101], [101, 108, 115, 101], [101, 110, 100], [107, 101, 101, 112], [108, 101, 115, 115], [112, 114, 111, 111, 102], [], [32], [112, 114, 111, 111, 102], [32, 112, 108, 117, 115], [32, 109, 105, 110, 117, 115], [32, 116, 105, 109, 101, 115], [32, 110, 111, 116], [32, 97, 110, 100], [32, 111, 114], [32, 116, 114, 117, 101], [32, 102, 97, 108, 115, 101], [32, 101, 113], [32, 108, 116], [32, 105, 102], [32, 119, 104, 105, 108, 101, 32, 108, 116, 32, 48, 32], [32, 107, 101, 101, 112], [32, 108, 101, 115, 115, 32], [32, 115, 101, 116, 32], [32, 109, 105, 110, 117, 115, 32], [32, 49], [32, 104, 111, 108, 101], [32, 101, 108, 115, 101], [32, 101, 110, 100], [32, 101, 108, 115, 101, 32, 101, 110, 100], [101, 113, 32, 97], [110, 111, 116, 32, 97]]
def zNw1 : List Cond := [.castable "java/lang/IllegalArgumentException" "java/lang/IllegalArgumentException", .castable "java/lang/IllegalStateException" "java/lang/IllegalStateException", .castable "java/util/NoSuchElementException" "java/util/NoSuchElementException", .castable "[B" "java/lang/Cloneable", .declares ⟨"java/lang/RuntimeException", "<init>", "()V"⟩, .declares ⟨"java/lang/RuntimeException", "<init>", "(Ljava/lang/String;)V"⟩, .declares ⟨"java/lang/Exception", "<init>", "()V"⟩, .declares ⟨"java/lang/Exception", "<init>", "(Ljava/lang/String;)V"⟩, .declares ⟨"java/lang/Throwable", "<init>", "()V"⟩, .declares ⟨"java/lang/Throwable", "<init>", "(Ljava/lang/String;)V"⟩, .fieldLinkNest "BackwardProofs$Runs" 83 "BackwardProofs$Program" "next" "[I" "BackwardProofs"]
def zNws : List Cond := zNw1 ++ zPrW
theorem zPrW_good : ∀ w ∈ zPrW, goodWord w = true := by decide +kernel
theorem zNws_warm : ∀ w ∈ zNws, ∀ s U : State, s.WarmedH U.vm → va_Nw w s → va_Nw w U := by
  intro w hw s U hW h
  rcases List.mem_append.mp hw with hw | hw
  · unfold zNw1 at hw
    simp only [List.mem_cons, List.not_mem_nil, or_false] at hw
    rcases hw with rfl | rfl | rfl | rfl | rfl | rfl | rfl | rfl | rfl | rfl | rfl
    · exact va_Nw.warmC hW h
    · exact va_Nw.warmC hW h
    · exact va_Nw.warmC hW h
    · exact va_Nw.warmC hW h
    · exact va_Nw.warmD hW h
    · exact va_Nw.warmD hW h
    · exact va_Nw.warmD hW h
    · exact va_Nw.warmD hW h
    · exact va_Nw.warmD hW h
    · exact va_Nw.warmD hW h
    · exact va_Nw.warmF hW h
  · exact word_at hW (good_of_word (zPrW_good w hw)) h
def zlow (j : Nat) : BitVec 64 := match j with
  | 0 => 0xAAAAAAAAAAAAAAAA#64
  | 1 => 0xF0F0F0F0F0F0F0F0#64
  | _ => 0xFFFF0000FFFF0000#64
def zhigh (j : Nat) : BitVec 64 := match j with
  | 0 => 0xCCCCCCCCCCCCCCCC#64
  | 1 => 0xFF00FF00FF00FF00#64
  | _ => 0xFFFFFFFF00000000#64
/-- the rows of digits that Java's Integer keeps -/
def zdg (t : Nat) (j : Nat) : Int := 48 + (if t = 0 then (j % 10 : Nat) else (j / 10 : Nat) : Int)
def zaty (t : Nat) : FieldType := match t with
  | 20 => .boolean
  | 21 => .byte
  | 22 => .int
  | 23 => .long
  | 24 => .long
  | 25 => .object "BackwardProofs$Formula"
  | 26 => .object "BackwardProofs$Version"
  | _ => .array .byte
def zK (dC : Nat → ClassId) (dI : Nat → Nat → Nat) (cA : Nat → ClassId) (U : State) : Prop := (∀ c, c < 13 → u_Kn U (zvn c) (zT c) (znf c) (dC c) (dI c)) ∧ ∀ t, 20 ≤ t → t < 28 → ArrOfT U (cA t) (zaty t) ∧ va_RA U (cA t) (zaty t)
theorem zK.moved {dC : Nat → ClassId} {dI : Nat → Nat → Nat} {cA : Nat → ClassId} {u U : State} (hvm : u.vm.Alike U.vm) (h : zK dC dI cA u) : zK dC dI cA U := ⟨fun c hc => u_Kn_moved hvm (h.1 c hc), fun t a b => ⟨arrOfT_moved hvm (h.2 t a b).1, (h.2 t a b).2.moved hvm⟩⟩
def zAOA (U : State) : Prop := (Cond.arrayOver (.array .byte)).before #[] U = true
theorem zAOA.moved {u U : State} (hvm : u.vm.Alike U.vm) (h : zAOA u) : zAOA U := by
  have h2 : (Cond.arrayOver (.array .byte)).before #[] (u.setVm U.vm) = true := by
    rw [Cond.arrayOver_setVmC hvm]
    exact h
  exact h2
abbrev zA (base : Nat) : Nat → Prop := fun q => base ≤ q
/-- what stands beside the cells that the runs make: the script, the two rows of longs, the texts, some statics -/
def zSt (base : Nat) (adr adV : Nat → Nat) (L0 : Nat) (xs : Nat → Int32) (U : State) (H : Heap) : Prop :=
  (va_X (adr 0) L0 xs U H ∧ adr 0 < base ∧ base ≤ H.size ∧ L0 < 2147483648) ∧
  (va_Z "BackwardProofs$Sets" "VARIABLE_LOW" "[J" (.ref (adr 1)) (zA base) U H ∧ va_T .long (adr 1) 3 (fun j => .long (Int64.ofBitVec (zlow j))) (zA base) U H) ∧
  (va_Z "BackwardProofs$Sets" "VARIABLE_HIGH" "[J" (.ref (adr 2)) (zA base) U H ∧ va_T .long (adr 2) 3 (fun j => .long (Int64.ofBitVec (zhigh j))) (zA base) U H) ∧
  ((∀ k, k < 53 → vk_S 1 [zlens.getD k 0] [zbyts.getD k []] (fun _ => adr (3 + k)) (fun _ => adV k) (zA base) U H) ∧ ∀ k, k < 53 → vk_R (zstx k).1 (zstx k).2.1 (zstx k).2.2 (adr (3 + k)) U) ∧
  (va_Z "java/lang/String" "COMPACT_STRINGS" "Z" (.int 1) (zA base) U H ∧ va_Zq "jdk/internal/util/Preconditions" "SIOOBE_FORMATTER" "Ljava/util/function/BiFunction;" (zA base) U H) ∧
  (∀ t, t < 2 → va_Z "java/lang/Integer" (if t = 0 then "DigitOnes" else "DigitTens") "[B" (.ref (adr (56 + t))) (zA base) U H ∧ va_T .byte (adr (56 + t)) 100 (fun j => .int (Int32.ofInt (zdg t j))) (zA base) U H) ∧
  (vx_Zq Bundle.tN "UNASSIGNED_STACK" Bundle.steD (zA base) U H ∧ vx_Zq Bundle.tN "SUPPRESSED_SENTINEL" Bundle.listD (zA base) U H) ∧
  (∀ w ∈ zNws, va_Nw w U) ∧ va_AO "BackwardProofs$Formula" U ∧ va_AO "BackwardProofs$Version" U ∧ zAOA U ∧ (∀ i, i < 4 → i ≠ 2 → ∀ j, j < 4 → j ≠ 2 → i ≠ j → va_Nc (zen i) (zen j) U)
theorem zSt.warm {base : Nat} {adr adV : Nat → Nat} {L0 : Nat} {xs : Nat → Int32} {s U : State} {H : Heap} (hW : s.WarmedH U.vm) (h : zSt base adr adV L0 xs s H) : zSt base adr adV L0 xs U H := by
  obtain ⟨⟨a1, a2, a3, a4⟩, ⟨b1, b2⟩, ⟨c1, c2⟩, ⟨d1, d2⟩, ⟨e1, e2⟩, dg, ⟨f1, f2⟩, g, o1, o2, o3, o4⟩ := h
  have hv := hW.alike
  exact ⟨⟨a1.moved hv, a2, a3, a4⟩, ⟨b1.moved hv, b2.moved hv⟩, ⟨c1.moved hv, c2.moved hv⟩, ⟨fun k hk => (d1 k hk).moved hv, fun k hk => vk_R.warm hW (d2 k hk)⟩, ⟨e1.moved hv, va_Zq.moved hv e2⟩, fun t ht => ⟨(dg t ht).1.moved hv, (dg t ht).2.moved hv⟩, ⟨vx_Zq.moved hv f1, vx_Zq.moved hv f2⟩, fun w hw => zNws_warm w hw s U hW (g w hw), o1.moved hv, o2.moved hv, o3.moved hv, fun i hi i2 j hj j2 hn => (o4 i hi i2 j hj j2 hn).moved hv⟩
theorem zSt.kept {base : Nat} {adr adV : Nat → Nat} {L0 : Nat} {xs : Nat → Int32} {U : State} {H H1 : Heap} (hz : H.size ≤ H1.size) (hq : ∀ a : Nat, a < H.size → ¬ zA base a → H1[a]? = H[a]?) (h : zSt base adr adV L0 xs U H) : zSt base adr adV L0 xs U H1 := by
  obtain ⟨⟨a1, a2, a3, a4⟩, ⟨b1, b2⟩, ⟨c1, c2⟩, ⟨d1, d2⟩, ⟨e1, e2⟩, dg, ⟨f1, f2⟩, g, o1, o2, o3, o4⟩ := h
  exact ⟨⟨a1.kept (hq _ (by omega) (Nat.not_le.mpr a2)), a2, by omega, a4⟩, ⟨b1.kept hq, b2.kept hq⟩, ⟨c1.kept hq, c2.kept hq⟩, ⟨fun k hk => (d1 k hk).kept hq, d2⟩, ⟨e1.kept hq, va_Zq.kept e2 hq⟩, fun t ht => ⟨(dg t ht).1.kept hq, (dg t ht).2.kept hq⟩, ⟨f1.kept hq, f2.kept hq⟩, g, o1, o2, o3, o4⟩
noncomputable def zfv (h : zH) (c a k : Nat) : zV := match zfty c k with
  | 0 => zI (hI h a k)
  | 1 => zI (hI h a k)
  | 2 => zJ (hJ h a k)
  | 3 => zF (hF h a k)
  | 4 => zD (hD h a k)
  | 6 => zI (hI h a k)
  | _ => zR (hR h a k)
def zev (h : zH) (t a j : Nat) : zV := match t with
  | 23 => zJ (hJ h a j)
  | 24 => zD (hD h a j)
  | 25 => zR (hR h a j)
  | 26 => zR (hR h a j)
  | 27 => zR (hR h a j)
  | _ => zI (hI h a j)
def zcell (dC : Nat → ClassId) (dI : Nat → Nat → Nat) (cA : Nat → ClassId) (ρ : Nat → Nat) (h : zH) (H : Heap) (a : Nat) : Prop :=
  (1 ≤ hT h a → hT h a < 14 → t_OB (ρ a) (dC (hT h a - 1)) (znf (hT h a - 1)) (dI (hT h a - 1)) H (fun k => zenc ρ (zfv h (hT h a - 1) a k))) ∧
  (20 ≤ hT h a → hT h a < 28 → H[ρ a]? = some (arrV (cA (hT h a)) (hL h a) (fun j => zenc ρ (zev h (hT h a) a j))) ∧ hL h a < 536870912 ∧ (hT h a = 21 → ∀ j, -128 ≤ hI h a j ∧ hI h a j < 128)) ∧ (hT h a < 14 ∨ 20 ≤ hT h a ∧ hT h a < 28)
def zV0 (L0 : Nat) (xs : Nat → Int32) (h : zH) : Prop :=
  (hT h zVB = 22 ∧ hL h zVB = L0 ∧ ∀ j, j < L0 → hI h zVB j = (xs j).toInt) ∧
  (hT h (zVB + 1) = 23 ∧ hL h (zVB + 1) = 3 ∧ ∀ j, j < 3 → hJ h (zVB + 1) j = zlow j) ∧
  (hT h (zVB + 2) = 23 ∧ hL h (zVB + 2) = 3 ∧ ∀ j, j < 3 → hJ h (zVB + 2) j = zhigh j) ∧
  (∀ k, k < 53 → hT h (zVB + 3 + k) = 40 ∧ hL h (zVB + 3 + k) = zlens.getD k 0 ∧ ∀ j, j < zlens.getD k 0 → hI h (zVB + 3 + k) j = ((zbyts.getD k []).getD j 0).toInt) ∧
  (∀ t, t < 2 → hT h (zVB + 56 + t) = 21 ∧ hL h (zVB + 56 + t) = 100 ∧ ∀ j, j < 100 → hI h (zVB + 56 + t) j = zdg t j) ∧
  ∀ a, zVB + 58 ≤ a → hT h a = 0
def zRep (base : Nat) (adr : Nat → Nat) (dC : Nat → ClassId) (dI : Nat → Nat → Nat) (cA : Nat → ClassId) (L0 : Nat) (xs : Nat → Int32) (H : Heap) (h : zH) : Prop :=
  H.size = base + hN h ∧ hN h < zVB ∧ (∀ a, a < hN h → zcell dC dI cA (zrho base adr) h H a) ∧ (∀ a k, inR (hI h a k)) ∧ (∀ a, hN h ≤ a → a < zVB → hT h a = 0) ∧ zV0 L0 xs h
theorem zrho_lt {base : Nat} {adr : Nat → Nat} {a : Nat} (h : a < zVB) : zrho base adr a = base + a := if_pos h
theorem zrho_ge {base : Nat} {adr : Nat → Nat} {k : Nat} : zrho base adr (zVB + k) = adr k := by
  unfold zrho
  rw [if_neg (by omega), Nat.add_sub_cancel_left]
/-- h2 is h with the one value v at (a, k), among the values of one kind -/
def zUpd (h h2 : zH) (a k : Nat) (v : zV) : Prop :=
  (∃ x, v = zI x ∧ h2 = sI h a k x) ∨ (∃ x, v = zJ x ∧ h2 = sJ h a k x) ∨ (∃ x, v = zF x ∧ h2 = sF h a k x) ∨ (∃ x, v = zD x ∧ h2 = sD h a k x) ∨ (∃ x, v = zR x ∧ h2 = sR h a k x)
theorem zUpd.same {h h2 : zH} {a k : Nat} {v : zV} (u : zUpd h h2 a k v) : hN h2 = hN h ∧ hU h2 = hU h ∧ hT h2 = hT h ∧ hL h2 = hL h := by
  rcases u with ⟨x, -, rfl⟩ | ⟨x, -, rfl⟩ | ⟨x, -, rfl⟩ | ⟨x, -, rfl⟩ | ⟨x, -, rfl⟩ <;> exact ⟨rfl, rfl, rfl, rfl⟩
theorem zUpd.fv {h h2 : zH} {a k : Nat} {v : zV} (u : zUpd h h2 a k v) (c b j : Nat) (n : ¬ (b = a ∧ j = k)) : zfv h2 c b j = zfv h c b j := by
  rcases u with ⟨x, -, rfl⟩ | ⟨x, -, rfl⟩ | ⟨x, -, rfl⟩ | ⟨x, -, rfl⟩ | ⟨x, -, rfl⟩ <;> unfold zfv <;> split <;> simp only [hI_sI, hI_sJ, hI_sF, hI_sD, hI_sR, hJ_sI, hJ_sJ, hJ_sF, hJ_sD, hJ_sR, hF_sI, hF_sJ, hF_sF, hF_sD, hF_sR, hD_sI, hD_sJ, hD_sF, hD_sD, hD_sR, hR_sI, hR_sJ, hR_sF, hR_sD, hR_sR, zup_n _ _ _ _ _ _ n]
theorem zUpd.ev {h h2 : zH} {a k : Nat} {v : zV} (u : zUpd h h2 a k v) (t b j : Nat) (n : ¬ (b = a ∧ j = k)) : zev h2 t b j = zev h t b j := by
  rcases u with ⟨x, -, rfl⟩ | ⟨x, -, rfl⟩ | ⟨x, -, rfl⟩ | ⟨x, -, rfl⟩ | ⟨x, -, rfl⟩ <;> unfold zev <;> split <;> simp only [hI_sI, hI_sJ, hI_sF, hI_sD, hI_sR, hJ_sI, hJ_sJ, hJ_sF, hJ_sD, hJ_sR, hF_sI, hF_sJ, hF_sF, hF_sD, hF_sR, hD_sI, hD_sJ, hD_sF, hD_sD, hD_sR, hR_sI, hR_sJ, hR_sF, hR_sD, hR_sR, zup_n _ _ _ _ _ _ n]
theorem zUpd.in {h h2 : zH} {a k : Nat} {v : zV} (u : zUpd h h2 a k v) (hv : zok1 v) (hi : ∀ a k, inR (hI h a k)) : ∀ a k, inR (hI h2 a k) := by
  rcases u with ⟨x, e, rfl⟩ | ⟨x, -, rfl⟩ | ⟨x, -, rfl⟩ | ⟨x, -, rfl⟩ | ⟨x, -, rfl⟩
  · subst e
    intro b j
    rw [hI_sI]
    unfold zup
    split
    · exact hv
    · exact hi b j
  all_goals exact hi
theorem zUpd.v0 {h h2 : zH} {a k : Nat} {v : zV} {L0 : Nat} {xs : Nat → Int32} (u : zUpd h h2 a k v) (ha : a < zVB) (h0 : zV0 L0 xs h) : zV0 L0 xs h2 := by
  have e1 : ∀ b, zVB ≤ b → ∀ j, hI h2 b j = hI h b j ∧ hJ h2 b j = hJ h b j := by
    intro b hb j
    have n : ¬ (b = a ∧ j = k) := by omega
    rcases u with ⟨x, -, rfl⟩ | ⟨x, -, rfl⟩ | ⟨x, -, rfl⟩ | ⟨x, -, rfl⟩ | ⟨x, -, rfl⟩ <;> simp only [hI_sI, hI_sJ, hI_sF, hI_sD, hI_sR, hJ_sI, hJ_sJ, hJ_sF, hJ_sD, hJ_sR, zup_n _ _ _ _ _ _ n, and_self]
  obtain ⟨-, -, eT, eL⟩ := u.same
  obtain ⟨⟨a1, a2, a3⟩, ⟨b1, b2, b3⟩, ⟨c1, c2, c3⟩, d, dg, e⟩ := h0
  unfold zV0
  rw [eT, eL]
  refine ⟨⟨a1, a2, fun j hj => by rw [(e1 _ (by omega) j).1]; exact a3 j hj⟩, ⟨b1, b2, fun j hj => by rw [(e1 _ (by omega) j).2]; exact b3 j hj⟩, ⟨c1, c2, fun j hj => by rw [(e1 _ (by omega) j).2]; exact c3 j hj⟩, fun i hi => ⟨(d i hi).1, (d i hi).2.1, fun j hj => by rw [(e1 _ (by omega) j).1]; exact (d i hi).2.2 j hj⟩, fun i hi => ⟨(dg i hi).1, (dg i hi).2.1, fun j hj => by rw [(e1 _ (by omega) j).1]; exact (dg i hi).2.2 j hj⟩, e⟩
theorem zUpd.hi {h h2 : zH} {a k : Nat} {v : zV} (u : zUpd h h2 a k v) (b j : Nat) (n : ¬ (b = a ∧ j = k)) : hI h2 b j = hI h b j := by
  rcases u with ⟨x, -, rfl⟩ | ⟨x, -, rfl⟩ | ⟨x, -, rfl⟩ | ⟨x, -, rfl⟩ | ⟨x, -, rfl⟩ <;> simp only [hI_sI, hI_sJ, hI_sF, hI_sD, hI_sR, zup_n _ _ _ _ _ _ n]
section REP
variable {base : Nat} {adr : Nat → Nat} {dC : Nat → ClassId} {dI : Nat → Nat → Nat} {cA : Nat → ClassId} {L0 : Nat} {xs : Nat → Int32} {H H2 : Heap} {h h2 : zH}
theorem zRep.field {a c k : Nat} {v : zV} {cell : Cell} (R : zRep base adr dC dI cA L0 xs H h) (ha : a < hN h) (ht : hT h a = 1 + c) (hc : c < 13) (hk : k < znf c) (u : zUpd h h2 a k v) (hv : zok1 v) (hfv : zfv h2 c a k = v)
    (hap : ∀ x y, x < znf c → y < znf c → x ≠ y → dI c x ≠ dI c y) (h0 : H[zrho base adr a]? = some cell) (e1 : H2[zrho base adr a]? = some (cell.setSlot (dI c k) (zenc (zrho base adr) v))) (e2 : H2.size = H.size) (e3 : ∀ q, q ≠ zrho base adr a → H2[q]? = H[q]?) : zRep base adr dC dI cA L0 xs H2 h2 := by
  obtain ⟨r1, r2, r3, r4, r5, r6⟩ := R
  obtain ⟨eN, eU, eT, eL⟩ := u.same
  refine ⟨by rw [e2, eN]; exact r1, by rw [eN]; exact r2, fun b hb => ?_, u.in hv r4, by rw [eN, eT]; exact r5, u.v0 (by omega) r6⟩
  rw [eN] at hb
  obtain ⟨c1, c2, c3⟩ := r3 b hb
  unfold zcell
  rw [eT, eL]
  by_cases hba : b = a
  · subst hba
    rw [ht] at c1 ⊢
    rw [show 1 + c - 1 = c by omega] at c1 ⊢
    refine ⟨fun x y => ?_, fun x => by omega, Or.inl (by omega)⟩
    obtain ⟨cl, q1, q2, q3, q4⟩ := c1 x y
    rw [q1] at h0
    cases h0
    refine t_OB.to (V := updV (fun k => zenc (zrho base adr) (zfv h c b k)) k (zenc (zrho base adr) v)) ⟨_, e1, q2, q3, t_set q4 hap hk _⟩ (fun j hj => ?_)
    unfold updV
    split
    · rename_i e; rw [e, hfv]
    · rename_i e; rw [u.fv c b j (by omega)]
  · have hne : zrho base adr b ≠ zrho base adr a := by rw [zrho_lt (by omega), zrho_lt (by omega)]; omega
    refine ⟨fun x y => t_OB.to ((c1 x y).kept (e3 _ hne)) (fun j _ => by rw [u.fv _ b j (by omega)]), fun x y => ⟨?_, (c2 x y).2.1, fun e j => by rw [u.hi b j (by omega)]; exact (c2 x y).2.2 e j⟩, c3⟩
    rw [e3 _ hne, (c2 x y).1]
    exact congrArg some (congrArg (arrV _ _) (funext fun j => by rw [u.ev _ b j (by omega)]))
theorem zRep.elem {a t i : Nat} {v : zV} (R : zRep base adr dC dI cA L0 xs H h) (ha : a < hN h) (ht : hT h a = t) (h20 : 20 ≤ t) (h28 : t < 28) (u : zUpd h h2 a i v) (hv : zok1 v) (hev : zev h2 t a i = v) (h21 : t = 21 → ∃ x, v = zI x ∧ -128 ≤ x ∧ x < 128)
    (e1 : H2[zrho base adr a]? = some ((arrV (cA t) (hL h a) (fun j => zenc (zrho base adr) (zev h t a j))).setSlot i (zenc (zrho base adr) v))) (e2 : H2.size = H.size) (e3 : ∀ q, q ≠ zrho base adr a → H2[q]? = H[q]?) : zRep base adr dC dI cA L0 xs H2 h2 := by
  obtain ⟨r1, r2, r3, r4, r5, r6⟩ := R
  obtain ⟨eN, eU, eT, eL⟩ := u.same
  refine ⟨by rw [e2, eN]; exact r1, by rw [eN]; exact r2, fun b hb => ?_, u.in hv r4, by rw [eN, eT]; exact r5, u.v0 (by omega) r6⟩
  rw [eN] at hb
  obtain ⟨c1, c2, c3⟩ := r3 b hb
  unfold zcell
  rw [eT, eL]
  by_cases hba : b = a
  · subst hba
    rw [ht] at c2 ⊢
    refine ⟨fun x y => by omega, fun x y => ⟨?_, (c2 x y).2.1, fun e j => ?_⟩, Or.inr ⟨h20, h28⟩⟩
    rotate_left
    · by_cases hj : j = i
      · obtain ⟨w, hw, hw2⟩ := h21 e
        rw [hw, e] at hev
        have : hI h2 b i = w := by
          have q : zI (hI h2 b i) = zI w := hev
          injection q
        rw [hj, this]; exact hw2
      · rw [u.hi b j (by omega)]; exact (c2 x y).2.2 e j
    rw [e1, arrV_store]
    refine congrArg some (congrArg (arrV _ _) (funext fun j => ?_))
    unfold updV
    split
    · rename_i e; rw [e, hev]
    · rename_i e; rw [u.ev t b j (by omega)]
  · have hne : zrho base adr b ≠ zrho base adr a := by rw [zrho_lt (by omega), zrho_lt (by omega)]; omega
    refine ⟨fun x y => t_OB.to ((c1 x y).kept (e3 _ hne)) (fun j _ => by rw [u.fv _ b j (by omega)]), fun x y => ⟨?_, (c2 x y).2.1, fun e j => by rw [u.hi b j (by omega)]; exact (c2 x y).2.2 e j⟩, c3⟩
    rw [e3 _ hne, (c2 x y).1]
    exact congrArg some (congrArg (arrV _ _) (funext fun j => by rw [u.ev _ b j (by omega)]))
end REP
