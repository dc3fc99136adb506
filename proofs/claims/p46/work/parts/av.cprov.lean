/-! The class: what would be, with another filling. -/
section CPROV
variable {h h2 : zH} {p v : Nat} {n top : Int} {R N N2 : Nat → Int} {c c2 : Nat} {Ol Ol2 : Nat → Nat → Int} {s0 s1 s2 s3 : Option (Nat → Int)} {I I2 : Nat → Int} {m m2 : Int} {O O2 : List Int} {ec ep : Int} {W : Nat → Nat → Prop} {d e : Nat} {A : FA}
theorem zfind_in {P : Int → Prop} (i j : DecidablePred P) (k : Nat) (a : Int) : @zfind P i a k = @zfind P j a k := @zfind_congr _ _ i j k a (fun _ _ _ => Iff.rfl)
theorem l_leastC {b l s : Int} {P : Int → Prop} [DecidablePred P] (Q : Prg n top R N) (h0 : 0 ≤ s) (h1 : s < n) (k3 : sv R s 0 = 3) (nu : sv R s 7 = l) (hP : ∀ f, 0 ≤ f → f < 39 → ∀ g, CJ g p v (n, top, R, (upN N (2294 + s).toNat f), c, Ol, s0, s1, I, m, O, ec, ep) → zBack zY 183 50 53 [some (zR (some 0)), some (zI l), some (zI b), some (zI (N (2294 + s).toNat)), some (zI (-1)), some (zI f)] [] (some (.inl none, g)) = zY 183 15 [some (zR (some 0)), some (zI l), some (zI b), some (zI (N (2294 + s).toNat)), some (zI (if P f then f else -1)), some (zI (f + 1))] [] g) : ∀ (k : Nat) (f w : Int) (g : zH), 0 ≤ f → f + k = 39 → -1 ≤ w → w ≤ 38 → hN g ≤ zVB → Jb g p v (n, top, R, (upN N (2294 + s).toNat w), c, Ol, s0, s1, I, m, O, ec, ep) → ∃ (f2 w2 : Int) (g2 : zH), zY 183 15 [some (zR (some 0)), some (zI l), some (zI b), some (zI (N (2294 + s).toNat)), some (zI (-1)), some (zI f)] [] g = zBack zY 183 98 101 [some (zR (some 0)), some (zI l), some (zI b), some (zI (N (2294 + s).toNat)), some (zI (zfind P f k)), some (zI f2)] [] (zC 133 [zR (some v), zI l, zI (N (2294 + s).toNat)] g2) ∧ (-1 ≤ w2 ∧ w2 ≤ 38) ∧ Jb g2 p v (n, top, R, (upN N (2294 + s).toNat w2), c, Ol, s0, s1, I, m, O, ec, ep) ∧ hN g2 = hN g ∧ Gw Wc 0 0 g g2
  | 0, f, w, g, f0, hk, w0, w1, hz, B => by
    refine ⟨f, w, g, ?_, ⟨w0, w1⟩, B, rfl, Gw_r _ _⟩
    rw [q_B_leastFilling_15 B.1.1 B.2.2.1.2 B.1.2.2.2.2.1, if_neg (by omega)]
    rfl
  | k + 1, f, w, g, f0, hk, w0, w1, hz, B => by
    have Qw := Prg_fill Q h0 h1 k3 w0 w1
    obtain ⟨g1, e1, B1, G1⟩ := J_put (f := f) B Qw hz h0 h1 k3
    rw [nu] at e1
    rw [upN_up] at B1
    have Qf := Prg_fill Q h0 h1 k3 (show -1 ≤ f by omega) (show f ≤ 38 by omega)
    obtain ⟨g2, e2, J2, F2⟩ := J_look B1 Qf
    have e3 := hP f f0 (by omega) g2 J2
    have n1 : hN g1 = hN g := by have := G1.1; omega
    have n2 : hN g2 = hN g := by rw [F2.1, n1]
    have Gc1 : Gw Wc 0 0 g g2 := Gc_t (Gw_m G1 (fun a k _ => Wv_c B.1.2.2.2.2.1 B.2.2.2.1 hz a k) (Nat.le_refl _) (Nat.le_refl _)) (Gc_f F2 rfl)
    rw [q_B_leastFilling_15 B.1.1 B.2.2.1.2 B.1.2.2.2.2.1, if_pos (by omega), if_pos rfl, e1, q_B_leastFilling_r38 B1.1.1 B1.2.2.1.1 (PO_S B1.1.2.2.1) B1.2.2.1.2 B1.1.2.2.2.2.1, e2, e3, zfind]
    by_cases cP : P f
    · rw [if_pos cP, if_pos cP]
      refine ⟨f + 1, f, g2, ?_, ⟨by omega, by omega⟩, J_b J2, n2, Gc1⟩
      rw [q_B_leastFilling_15 (J_K J2) (J_rv J2) (J_vs J2)]
      by_cases c39 : f + 1 < 39
      · rw [if_pos c39, if_neg (by omega)]
      · rw [if_neg c39]
    · rw [if_neg cP, if_neg cP]
      obtain ⟨f2, w2, g3, e4, w2b, B3, n3, G3⟩ := l_leastC Q h0 h1 k3 nu hP k (f + 1) f g2 (by omega) (by omega) (by omega) (by omega) (by omega) (J_b J2)
      exact ⟨f2, w2, g3, e4, w2b, B3, by omega, Gc_t Gc1 G3⟩
theorem c_leastC {b l s : Int} {P : Int → Prop} [DecidablePred P] (J : CJ h p v (n, top, R, N, c, Ol, s0, s1, I, m, O, ec, ep)) (Q : Prg n top R N) (hz : hN h < zVB) (h0 : 0 ≤ s) (h1 : s < n) (k3 : sv R s 0 = 3) (nu : sv R s 7 = l) (hP : ∀ f, 0 ≤ f → f < 39 → ∀ g, CJ g p v (n, top, R, (upN N (2294 + s).toNat f), c, Ol, s0, s1, I, m, O, ec, ep) → zBack zY 183 50 53 [some (zR (some 0)), some (zI l), some (zI b), some (zI (N (2294 + s).toNat)), some (zI (-1)), some (zI f)] [] (some (.inl none, g)) = zY 183 15 [some (zR (some 0)), some (zI l), some (zI b), some (zI (N (2294 + s).toNat)), some (zI (if P f then f else -1)), some (zI (f + 1))] [] g) : ∃ h2, zC 183 [zR (some 0), zI l, zI b] h = some (.inl (some (zI (zfind P 0 39))), h2) ∧ CJ h2 p v (n, top, R, N, c, Ol, s0, s1, I, m, O, ec, ep) ∧ Gw Wc 0 0 h h2 := by
  have vn := (Q.2.1.2.2 s h0 h1).2.2.2.1 k3
  have nr := num_r Q h0 h1 (Or.inr k3)
  rw [nu] at nr
  have ef : f_V_fillingOf h v l = N (2294 + s).toNat := by
    unfold f_V_fillingOf
    rw [if_pos (show b_V_fits l from nr), ← nu]
    exact ((J_V J).2.2.2.2.1 s h0 h1).2.1 k3
  have B0 : Jb h p v (n, top, R, (upN N (2294 + s).toNat (N (2294 + s).toNat)), c, Ol, s0, s1, I, m, O, ec, ep) := by rw [upN_self]; exact J_b J
  obtain ⟨f2, w2, g2, e2, w2b, B2, n2, G2⟩ := l_leastC (b := b) Q h0 h1 k3 nu hP 39 0 (N (2294 + s).toNat) h (by omega) (by omega) vn.1 vn.2 (by omega) B0
  have Q2 := Prg_fill Q h0 h1 k3 w2b.1 w2b.2
  obtain ⟨g3, e3, B3, G3⟩ := J_put (f := N (2294 + s).toNat) B2 Q2 (by omega) h0 h1 k3
  rw [nu] at e3
  rw [upN_up, upN_self] at B3
  obtain ⟨g4, e4, J4, F4⟩ := J_look B3 Q
  have Gc3 : Gw Wc 0 0 g2 g3 := Gw_m G3 (fun a k _ => Wv_c B2.1.2.2.2.2.1 B2.2.2.2.1 (by omega) a k) (Nat.le_refl _) (Nat.le_refl _)
  refine ⟨g4, ?_, J4, Gc_t G2 (Gc_t Gc3 (Gc_f F4 rfl))⟩
  rw [q_B_leastFilling (J_K J) (J_rv J) (J_vs J), ef, e2, e3, q_B_leastFilling_r101 B3.1.1 B3.2.2.1.1 (PO_S B3.1.2.2.1) B3.2.2.1.2 B3.1.2.2.2.2.1, e4, q_B_leastFilling_r116 (J_K J4)]

theorem k_proves (J : CJ h p v (n, top, R, N, c, Ol, s0, s1, I, m, O, ec, ep)) (Q : Prg n top R N) (hz : hN h < zVB) (l : Int) : CC h 181 [zI l] (t3 3 0 0) (aProves n top R N l, (n, top, R, N, c, Ol, s0, s1, I, m, O, ec, ep)) := by
  haveI : DecidablePred (pvF n top R N (lpAt n R 3 l)) := fun _ => inferInstanceAs (Decidable (_ = _))
  have hq := q_B_proves (h := h) (x1 := l) (J_K J)
  rw [rq_hole (J_K J) (J_rp J) (J_P J) Q l] at hq
  unfold aProves
  rcases lpAt_c Q (Or.inr rfl) l with ⟨lo, ⟨l0, l1⟩, lk⟩ | ⟨_, ln⟩
  · have ne : lpAt n R 3 l ≠ -1 := by omega
    rw [if_neg ne] at hq ⊢
    have nu := lp_num ne
    have hP : ∀ f, 0 ≤ f → f < 39 → ∀ g, CJ g p v (n, top, R, (upN N (2294 + lpAt n R 3 l).toNat f), c, Ol, s0, s1, I, m, O, ec, ep) → zBack zY 183 50 53 [some (zR (some 0)), some (zI l), some (zI 1), some (zI (N (2294 + lpAt n R 3 l).toNat)), some (zI (-1)), some (zI f)] [] (some (.inl none, g)) = zY 183 15 [some (zR (some 0)), some (zI l), some (zI 1), some (zI (N (2294 + lpAt n R 3 l).toNat)), some (zI (if pvF n top R N (lpAt n R 3 l) f then f else -1)), some (zI (f + 1))] [] g := by
      intro f f0 f1 g Jg
      have Qf := Prg_fill Q l0 l1 lk (show -1 ≤ f by omega) (show f ≤ 38 by omega)
      rw [q_B_leastFilling_r53 (J_K Jg), if_neg (by decide), c_failedC Jg.1 Qf, q_B_leastFilling_r64 (J_K Jg)]
      by_cases cP : pvF n top R N (lpAt n R 3 l) f
      · rw [if_pos (show nfC n top R (upN N (2294 + lpAt n R 3 l).toNat f) = 0 from cP), gd_t (by omega), if_pos cP]
      · rw [if_neg (show ¬ nfC n top R (upN N (2294 + lpAt n R 3 l).toNat f) = 0 from cP), gd_t (by omega), if_neg cP]
    obtain ⟨h2, e2, J2, G2⟩ := c_leastC (b := 1) (P := pvF n top R N (lpAt n R 3 l)) J Q hz l0 l1 lk nu hP
    rw [q_B_proves_r5 (J_K J), e2, q_B_proves_r11 (J_K J2)] at hq
    exact CC_chg J2 G2 (by decide) (by decide) (hq.trans (retI (zfind_in _ _ 39 0)))
  · rw [if_pos ln] at hq ⊢
    exact CC_thr J hz (by decide) (hq.trans rfl)

theorem k_rights (J : CJ h p v (n, top, R, N, c, Ol, s0, s1, I, m, O, ec, ep)) (Q : Prg n top R N) (hz : hN h < zVB) (l : Int) : CC h 184 [zI l] (t3 3 0 0) (aRights n top R N l, (n, top, R, N, c, Ol, s0, s1, I, m, O, ec, ep)) := by
  haveI : DecidablePred (rgF n top R N (lpAt n R 3 l)) := fun _ => inferInstanceAs (Decidable (_ = _))
  have hq := q_B_rights (h := h) (x1 := l) (J_K J)
  rw [rq_hole (J_K J) (J_rp J) (J_P J) Q l] at hq
  unfold aRights
  rcases lpAt_c Q (Or.inr rfl) l with ⟨lo, ⟨l0, l1⟩, lk⟩ | ⟨_, ln⟩
  · have ne : lpAt n R 3 l ≠ -1 := by omega
    rw [if_neg ne] at hq ⊢
    have nu := lp_num ne
    have hP : ∀ f, 0 ≤ f → f < 39 → ∀ g, CJ g p v (n, top, R, (upN N (2294 + lpAt n R 3 l).toNat f), c, Ol, s0, s1, I, m, O, ec, ep) → zBack zY 183 50 53 [some (zR (some 0)), some (zI l), some (zI 0), some (zI (N (2294 + lpAt n R 3 l).toNat)), some (zI (-1)), some (zI f)] [] (some (.inl none, g)) = zY 183 15 [some (zR (some 0)), some (zI l), some (zI 0), some (zI (N (2294 + lpAt n R 3 l).toNat)), some (zI (if rgF n top R N (lpAt n R 3 l) f then f else -1)), some (zI (f + 1))] [] g := by
      intro f f0 f1 g Jg
      have Qf := Prg_fill Q l0 l1 lk (show -1 ≤ f by omega) (show f ≤ 38 by omega)
      rw [q_B_leastFilling_r53 (J_K Jg), if_pos rfl, c_wrongStates (CA_C Jg.1) Qf, q_B_leastFilling_r77 (J_K Jg)]
      by_cases cP : rgF n top R N (lpAt n R 3 l) f
      · rw [if_pos (show wgC n top R (upN N (2294 + lpAt n R 3 l).toNat f) = 0#64 from cP), gd_t (by omega), if_pos cP]
      · rw [if_neg (show ¬ wgC n top R (upN N (2294 + lpAt n R 3 l).toNat f) = 0#64 from cP), gd_t (by omega), if_neg cP]
    obtain ⟨h2, e2, J2, G2⟩ := c_leastC (b := 0) (P := rgF n top R N (lpAt n R 3 l)) J Q hz l0 l1 lk nu hP
    rw [q_B_rights_r5 (J_K J), e2, q_B_rights_r11 (J_K J2)] at hq
    exact CC_chg J2 G2 (by decide) (by decide) (hq.trans (retI (zfind_in _ _ 39 0)))
  · rw [if_pos ln] at hq ⊢
    exact CC_thr J hz (by decide) (hq.trans rfl)

end CPROV

