/-! The class: a text read as a whole. -/
section CDESC2
variable {I : Nat → Int} {len : Int} {h h2 : zH} {p v lo : Nat} {n top row sec last : Int} {R N : Nat → Int}
theorem c_connect (C : CWk h p v lo) (CR : CRo h p v n R) (w : WS n R) (o : okpv p v lo) : ∃ h2, zC 49 [zR (some p)] h = some (.inl none, h2) ∧ (∀ s, 0 ≤ s → s < n → hI h2 (p + 8) s.toNat = thn R s) ∧ Gw (fun a _ => a = p + 8) 0 0 h h2 := by
  have o' := id o
  unfold okpv at o'
  obtain ⟨h2, e2, A, G⟩ := l_connect (p := p) (by omega) 24 0 h none C.1 (by decide) (by decide)
  refine ⟨h2, ?_, ?_, G⟩
  · rw [q_P_connect C.1]; exact e2
  · have th := isTH_t w
    refine A (thn R) n CR.2.2.2.1.1 CR.2.2.1.2 (fun s s0 s1 => ?_) (fun s s0 s1 _ => absurd s1 (by omega))
    have ws := (w.2.1 s s0 s1).2.2.1
    have ts := th s s0 s1
    rw [(CR.2.2.2.2.1 s s0 s1).1.2.2.2.2.1, CRo_parent CR s0 s1]
    by_cases c3 : sv R s 3 = -1
    · rw [c3, CRo_kind_no CR (by omega)]
      refine ⟨fun _ z => absurd z (by decide), fun z _ => Or.inl ⟨rfl, ?_⟩, fun z => ?_⟩
      · rw [ts, if_pos z, if_pos c3]
      · rw [ts, if_neg z]
    · rw [CRo_kind CR (by omega) (by omega)]
      refine ⟨fun z y => ?_, fun z y => Or.inr ⟨by omega, by omega, ?_⟩, fun z => ?_⟩
      · rw [ts, if_pos z, if_neg c3, if_pos y]
      · rw [ts, if_pos z, if_neg c3, if_neg y]
      · rw [ts, if_neg z]
theorem FX_At {a j : Nat} {l : List Int} (S : FX h lo a j l) (pl : p ≤ lo) (mb : ∀ a, p ≤ a → a < hN h → mutB a = false) : FAt h a j l := by
  obtain ⟨f, b, c, x, y⟩ := S
  have := c.1.2.2.2
  refine ⟨f, b, ?_⟩
  rcases x with x | x
  · subst x; exact FO_0 c rfl rfl
  · exact FO_0 c (mb f (by omega) (by omega)) (mb (f + 1) (by omega) (by omega))
theorem FSX_At {a j : Nat} (S : FSX h lo a j) (pl : p ≤ lo) (mb : ∀ a, p ≤ a → a < hN h → mutB a = false) : FSAt h a j := by
  obtain ⟨f, b, c, x⟩ := S
  have := c.2.2.2
  refine ⟨f, b, c, ?_⟩
  rcases x with x | x
  · subst x; rfl
  · exact mb f (by omega) (by omega)
/-- the program and the version stand, as the reference has them -/
theorem desc_done {g : zH} (C : CWk g p v lo) (CR : CRo g p v n R) (Q : QF g p v lo n n R N) (w : WS n R) (u : WU n R) (o : okpv p v lo) (G : Gw (fun a _ => a = p + 8) 0 0 g h) (th : ∀ s, 0 ≤ s → s < n → hI h (p + 8) s.toNat = thn R s) (mb : ∀ a, p ≤ a → a < hN g → mutB a = false) : PO h p n R ∧ PA h p n R N ∧ VO h v n R N := by
  have o' := id o
  unfold okpv at o'
  have hp := C.1.2.1
  have hv := C.2.1.2.1
  have hng : hN h = hN g := by have := G.1; omega
  have mb' : ∀ a, p ≤ a → a < hN h → mutB a = false := fun a a0 a1 => mb a a0 (by omega)
  have op : obj p 10 := fun j hj => mb _ (by omega) (by omega)
  have ov : obj v 4 := fun j hj => mb _ (by omega) (by omega)
  have P2 := PS_g C.1 G (fun k _ z => by omega)
  have V2 := VS_g C.2.1 G (fun k _ z => by omega)
  have Q2 := QF_g Q C.1 C.2.1 G (fun f hf k z => by omega) (fun j z => by omega) (fun i j _ z => by omega)
  obtain ⟨_, _, nb, x, y, z⟩ := CR
  have r : ∀ j, j < 11 → j ≠ 8 → hI h (p + j) = hI g (p + j) := fun j hj h8 => grI G (by omega) (fun k z => by omega)
  obtain ⟨q1, q2, q3, q4, q5⟩ := Q2
  refine ⟨⟨P2, op, nb, ?_, fun s s0 s1 => ?_, fun l l0 l1 => ?_⟩, fun s s0 s1 => FX_At (q1 s s0 s1).1 (by omega) mb', ⟨V2, ov, FX_At q4 (by omega) mb', FX_At q5 (by omega) mb', fun s s0 s1 => ⟨fun k2 => ⟨FX_At ((q1 s s0 s1).2.1 k2).1 (by omega) mb', FX_At ((q1 s s0 s1).2.1 k2).2 (by omega) mb'⟩, fun k3 => ?_, ?_⟩, fun i hi => ⟨FSX_At (q2 i hi).1 (by omega) mb', FSX_At (q2 i hi).2 (by omega) mb'⟩⟩⟩
  · rw [show hI h p = hI g p from r 0 (by decide) (by decide)]; exact x
  · obtain ⟨⟨a1, a2, a3, a4, a5, a6, a7⟩, a8, a9⟩ := y s s0 s1
    rw [r 1 (by decide) (by decide), r 2 (by decide) (by decide), r 3 (by decide) (by decide), r 4 (by decide) (by decide), r 5 (by decide) (by decide), r 6 (by decide) (by decide), r 7 (by decide) (by decide)]
    exact ⟨a1, a2, a3, a4, a5, a6, a7, th s s0 s1, a8⟩
  · rw [r 9 (by decide) (by decide)]
    obtain ⟨b1, b2, b3⟩ := lpAt_ok u nb.1 (Or.inl rfl) l0 l1
    have := (y _ b1.1 b1.2).2.2 b2
    rw [b3] at this
    exact this
  · have us := (u s s0 s1).1 (Or.inr k3)
    have cb := cntK_b R 3 s.toNat
    rw [k3] at us
    rw [grI G (a := v + 3) (by omega) (fun k z => by omega), (z _ (by omega)).1, (q1 s s0 s1).2.2.1]
  · rw [grI G (a := v + 4) (by omega) (fun k z => by omega), (z _ (by omega)).2, (q1 s s0 s1).2.2.2]
end CDESC2

