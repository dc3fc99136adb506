/-! The class: fillings, prices, undo, slots, input. -/
section CSET
variable {h h2 : zH} {p v : Nat} {n top : Int} {R N N2 : Nat → Int} {c c2 : Nat} {Ol Ol2 : Nat → Nat → Int} {s0 s1 s2 s3 : Option (Nat → Int)} {I I2 : Nat → Int} {m m2 : Int} {O O2 : List Int} {ec ep : Int} {W : Nat → Nat → Prop} {d e : Nat} {A : FA}
theorem Gw_vI (V : VS h v) {j i : Nat} (hj : 0 < j) (hj2 : j < 5) (x : Int) : Gw (Wv v) 0 0 h (sI h (v + j) i x) := Gw_sI (Gw_r _ h) x (fun _ => Or.inr ⟨by omega, by omega⟩)
theorem nf_c (V : VS h v) {j i : Nat} (hj : 0 < j) (hj2 : j < 5) : nf (fun a k => a = v + j ∧ k = i) h := fun f F => ⟨fun mm k z => (nf_v V f F).1 mm k (Or.inr ⟨by omega, by omega⟩), fun mm k z => (nf_v V f F).2 mm k (Or.inr ⟨by omega, by omega⟩)⟩
/-- a number is put into a version's rows of numbers -/
theorem VO_sI (X : VO h v n R N) {j i : Nat} {x : Int} (hj : j = 3 ∨ j = 4) (l0 : lst N2 0 = lst N 0) (l1 : lst N2 1 = lst N 1) (lk : ∀ s, 0 ≤ s → s < n → sv R s 0 = 2 → lst N2 (26 + s) = lst N (26 + s) ∧ lst N2 (50 + s) = lst N (50 + s)) (hf : ∀ s, 0 ≤ s → s < n → sv R s 0 = 3 → hI (sI h (v + j) i x) (v + 3) (sv R s 7).toNat = N2 (2294 + s).toNat) (hp : ∀ s, 0 ≤ s → s < n → hI (sI h (v + j) i x) (v + 4) s.toNat = N2 (2318 + s).toNat) : VO (sI h (v + j) i x) v n R N2 := by
  obtain ⟨a, b, c, d, g, y⟩ := X
  have av := a.2.1
  have G : Gw (fun a k => a = v + j ∧ k = i) 0 0 h (sI h (v + j) i x) := Gw_sI (Gw_r _ h) x (fun _ => ⟨rfl, rfl⟩)
  have nx := nf_c (i := i) a (j := j) (by omega) (by omega)
  refine ⟨VS_g a G (fun k _ z => by omega), b, ?_, ?_, fun s h0 h1 => ⟨fun k2 => ?_, hf s h0 h1, hp s h0 h1⟩, fun k hk => ⟨FSAt_g (y k hk).1 G nx (by omega) (fun z => by omega), FSAt_g (y k hk).2 G nx (by omega) (fun z => by omega)⟩⟩
  · rw [l0]; exact FAt_g c G nx (by omega) (fun z => by omega)
  · rw [l1]; exact FAt_g d G nx (by omega) (fun z => by omega)
  · obtain ⟨q1, q2⟩ := lk s h0 h1 k2
    rw [q1, q2]
    exact ⟨FAt_g ((g s h0 h1).1 k2).1 G nx (by omega) (fun z => by omega), FAt_g ((g s h0 h1).1 k2).2 G nx (by omega) (fun z => by omega)⟩
theorem lst_up2 (Q : Prg n top R N) {i : Nat} (hi : 2294 ≤ i) (x : Int) : lst (upN N i x) 0 = lst N 0 ∧ lst (upN N i x) 1 = lst N 1 ∧ (∀ s, 0 ≤ s → s < n → sv R s 0 = 2 → lst (upN N i x) (26 + s) = lst N (26 + s) ∧ lst (upN N i x) (50 + s) = lst N (50 + s)) ∧ smP n R N (upN N i x) := by
  have w := Q.1.1
  have v := Q.2.1
  refine ⟨lst_up (by omega) (by omega) v.1.2.1, lst_up (by omega) (by omega) v.2.1.2.1, fun s h0 h1 k => ⟨lst_up (by omega) (by omega) ((v.2.2 s h0 h1).2.2.1 k).2.1.2.1, lst_up (by omega) (by omega) ((v.2.2 s h0 h1).2.2.1 k).2.2.2.1⟩, fun s h0 h1 => ?_⟩
  have k := (Q.1.2.1 s h0 h1).1
  have vs := v.2.2 s h0 h1
  unfold prtL
  by_cases k3 : sv R s 0 = 3
  · rw [if_pos k3, if_pos k3]
  · rw [if_neg k3, if_neg k3]
    refine lst_up (by omega) (by omega) ?_
    have : sv R s 0 = 0 ∨ sv R s 0 = 1 ∨ sv R s 0 = 2 := by omega
    rcases this with a | a | a
    · exact (vs.1 a).2.1
    · exact (vs.2.1 a).2.1
    · exact (vs.2.2.1 a).1.2.1
theorem VO_fill (X : VO h v n R N) (Q : Prg n top R N) {s f : Int} (h0 : 0 ≤ s) (h1 : s < n) (k3 : sv R s 0 = 3) : VO (sI h (v + 3) (sv R s 7).toNat f) v n R (upN N (2294 + s).toNat f) := by
  have w := Q.1.1
  obtain ⟨l0, l1, lk, _⟩ := lst_up2 Q (i := (2294 + s).toNat) (by omega) f
  refine VO_sI X (Or.inl rfl) l0 l1 lk (fun t t0 t1 kt => ?_) (fun t t0 t1 => ?_)
  · rw [hI_up]
    by_cases e : t = s
    · subst e; rw [upN_s, upN_s]
    · have ne : sv R t 7 ≠ sv R s 7 := fun z => e (num_inj Q t0 t1 h0 h1 (Or.inr kt) (kt.trans k3.symm) z)
      have b1 := num_r Q t0 t1 (Or.inr kt)
      have b2 := num_r Q h0 h1 (Or.inr k3)
      rw [upN_n _ _ (by omega), upN_n _ _ (by omega)]
      exact (X.2.2.2.2.1 t t0 t1).2.1 kt
  · rw [hI_ne h f (show v + 4 ≠ v + 3 by omega), upN_n _ _ (by omega)]
    exact (X.2.2.2.2.1 t t0 t1).2.2
theorem VO_price (X : VO h v n R N) (Q : Prg n top R N) {s x : Int} (h0 : 0 ≤ s) (h1 : s < n) : VO (sI h (v + 4) s.toNat x) v n R (upN N (2318 + s).toNat x) := by
  have w := Q.1.1
  obtain ⟨l0, l1, lk, _⟩ := lst_up2 Q (i := (2318 + s).toNat) (by omega) x
  refine VO_sI X (Or.inr rfl) l0 l1 lk (fun t t0 t1 kt => ?_) (fun t t0 t1 => ?_)
  · rw [hI_ne h x (show v + 3 ≠ v + 4 by omega), upN_n _ _ (by omega)]
    exact (X.2.2.2.2.1 t t0 t1).2.1 kt
  · rw [hI_up]
    by_cases e : t = s
    · subst e; rw [upN_s, upN_s]
    · rw [upN_n _ _ (by omega), upN_n _ _ (by omega)]
      exact (X.2.2.2.2.1 t t0 t1).2.2
/-- a filling is put -/
theorem J_put (B : Jb h p v (n, top, R, N, c, Ol, s0, s1, I, m, O, ec, ep)) (Q : Prg n top R N) (hz : hN h ≤ zVB) {s f : Int} (h0 : 0 ≤ s) (h1 : s < n) (k3 : sv R s 0 = 3) : ∃ h2, zC 133 [zR (some v), zI (sv R s 7), zI f] h = some (.inl none, h2) ∧ Jb h2 p v (n, top, R, (upN N (2294 + s).toNat f), c, Ol, s0, s1, I, m, O, ec, ep) ∧ Gw (Wv v) 0 0 h h2 := by
  have V := B.1.2.2.2.2
  have nr := num_r Q h0 h1 (Or.inr k3)
  have G := Gw_vI V.1 (j := 3) (i := (sv R s 7).toNat) (by decide) (by decide) f
  obtain ⟨_, _, _, sm⟩ := lst_up2 Q (i := (2294 + s).toNat) (by omega) f
  refine ⟨_, (q_V_putFilling V.1).trans (if_pos nr), Jb_v2 B hz G (VO_fill V Q h0 h1 k3) sm, G⟩
theorem k_fill (J : CJ h p v (n, top, R, N, c, Ol, s0, s1, I, m, O, ec, ep)) (Q : Prg n top R N) (hz : hN h < zVB) (l f : Int) : CC h 197 [zI l, zI f] (t3 3 0 0) (aFill l f (n, top, R, N, c, Ol, s0, s1, I, m, O, ec, ep)) := by
  have hq := q_B_fill (h := h) (x1 := l) (x2 := f) (J_K J)
  rw [rq_hole (J_K J) (J_rp J) (J_P J) Q l] at hq
  unfold aFill
  simp only
  rcases lpAt_c Q (Or.inr rfl) l with ⟨lo, ⟨l0, l1⟩, lk⟩ | ⟨_, ln⟩
  · have ne : lpAt n R 3 l ≠ -1 := by omega
    rw [if_neg ne] at hq ⊢
    have nu := lp_num ne
    generalize lpAt n R 3 l = s at *
    rw [q_B_fill_r5 (J_K J) (J_rv J) (J_vs J)] at hq
    by_cases f0 : f < -1
    · rw [if_pos f0] at hq
      rw [if_neg (by omega)]
      exact CC_thr J hz (by decide) hq
    · rw [if_neg f0] at hq
      by_cases f1 : f < 39
      · rw [if_pos f1] at hq
        rw [if_pos (by omega)]
        obtain ⟨h1, e1, J1, n1, G1⟩ := J_rem J Q
        obtain ⟨h2, e2, B2, G2⟩ := J_put (f := f) (J_b J1) Q (by omega) l0 l1 lk
        rw [nu] at e2
        have Q2 := Prg_fill Q l0 l1 lk (show -1 ≤ f by omega) (show f ≤ 38 by omega)
        obtain ⟨h3, e3, J3, F3⟩ := J_look B2 Q2
        rw [e1, q_B_fill_r35 (J_K J1) (J_rv J1) (J_vs J1), e2, q_B_fill_r44 B2.1.1 B2.2.2.1.1 (PO_S B2.1.2.2.1) B2.2.2.1.2 B2.1.2.2.2.2.1, e3, q_B_fill_r59 (J_K J3), c_failedC J3.1 Q2, q_B_fill_r66 (J_K J3)] at hq
        have Gv : Gw Wc 0 0 h1 h2 := Gw_m G2 (fun a k _ => Wv_c (J_vs J1) J1.2.2.2.1 (by omega) a k) (Nat.le_refl _) (Nat.le_refl _)
        exact CC_chg J3 (Gc_t (Gh_c G1) (Gc_t Gv (Gc_f F3 rfl))) (by decide) (by decide) hq
      · rw [if_neg f1] at hq
        rw [if_neg (by omega)]
        exact CC_thr J hz (by decide) hq
  · rw [if_pos ln] at hq ⊢
    exact CC_thr J hz (by decide) (hq.trans rfl)
theorem k_undo (J : CJ h p v (n, top, R, N, c, Ol, s0, s1, I, m, O, ec, ep)) (Q : Prg n top R N) (Qo : ∀ i, i < c → Prg n top R (Ol i)) (sm : ∀ i, i < c → smP n R N (Ol i)) (hz : hN h < zVB) : CC h 201 [] (t3 1 0 0) (aUndo (n, top, R, N, c, Ol, s0, s1, I, m, O, ec, ep)) := by
  have hq := q_B_undo (h := h) (J_K J) (J_rv J) (J_vs J)
  rw [J.2.1.1.1] at hq
  unfold aUndo
  simp only
  by_cases cc : c = 0
  · rw [if_pos cc]
    rw [if_pos (by omega)] at hq
    exact CC_thr J hz (by decide) hq
  · rw [if_neg cc]
    rw [if_neg (by omega)] at hq
    obtain ⟨k, rfl⟩ : ∃ k, c = k + 1 := ⟨c - 1, by omega⟩
    have hv := J.2.2.2.1
    obtain ⟨h1, e1, H1, X1, n1, G1⟩ := c_takeBack (J_K J) J.2.1 (J_V J) Q.2.2.1 Q.1.1.2 (by omega) (VS_kc (J_K J) (J_vs J))
    have B1 := Jb_v (J_b J) (by omega) G1 X1 (sm 0 (by omega)) H1
    have Q1 := Qo 0 (by omega)
    obtain ⟨h2, e2, J2, F2⟩ := J_look B1 Q1
    rw [e1, q_B_undo_r29 B1.1.1 B1.2.2.1.1 (PO_S B1.1.2.2.1) B1.2.2.1.2 B1.1.2.2.2.2.1, e2, q_B_undo_r44 (J_K J2), J2.2.1.1.1] at hq
    have G1c : Gw Wc 0 0 h h1 := Gw_m G1 (fun a k _ z => by
      rcases z with z | z
      · exact Wv_c (J_vs J) hv (by omega) a k z
      · unfold Wc; omega) (Nat.le_refl _) (Nat.le_refl _)
    have ek : ((k + 1 : Nat) : Int) - 1 = (k : Int) := by omega
    rw [ek, show k + 1 - 1 = k by omega]
    exact CC_chg J2 (Gc_t G1c (Gc_f F2 rfl)) (by decide) (by decide) hq
theorem k_restore (J : CJ h p v (n, top, R, N, c, Ol, s0, s1, I, m, O, ec, ep)) (Q : Prg n top R N) (Qs : ∀ x N2, slt x s0 s1 = some N2 → Prg n top R N2 ∧ smP n R N N2) (hz : hN h < zVB) (x : Int) : CC h 199 [zI x] (t3 0 1 0) (aRestore x (n, top, R, N, c, Ol, s0, s1, I, m, O, ec, ep)) := by
  have hq := q_B_restore (h := h) (x1 := x) (J_K J)
  rw [rq_slot (J_K J) x] at hq
  unfold aRestore
  simp only
  by_cases cx : 0 ≤ x ∧ x ≤ 1
  · rw [if_pos cx] at hq ⊢
    have he := HO_held J.2.1 cx.1 (show x < 2 by omega)
    have es : (if x = 0 then s0 else s1) = slt x s0 s1 := rfl
    rw [es] at he
    rw [q_B_restore_r5 (J_K J) (J_rv J) (J_vs J)] at hq
    cases cs : slt x s0 s1 with
    | none =>
      rw [cs] at he
      rw [if_neg (fun z => absurd (he.1 z) (by decide))] at hq
      exact CC_thr J hz (by decide) hq
    | some N2 =>
      rw [cs] at he
      rw [if_pos (he.2 rfl)] at hq
      obtain ⟨Q2, sm⟩ := Qs x N2 cs
      obtain ⟨h1, e1, J1, n1, G1⟩ := J_rem J Q
      have hv := J1.2.2.2.1
      obtain ⟨h2, e2, H2, X2, n2, G2⟩ := c_bringBack (J_K J1) J1.2.1 (J_V J1) Q.2.2.1 Q.1.1.2 (by omega) (VS_kc (J_K J1) (J_vs J1)) cx.1 (show x < 2 by omega) cs
      have G2w : Gw (fun a k => Wv v a k ∨ (a = 10 ∧ k ≤ 1)) 0 0 h1 h2 := Gw_m G2 (fun a k _ z => Or.inl z) (Nat.le_refl _) (Nat.le_refl _)
      have B2 := Jb_v (J_b J1) (by omega) G2w X2 sm H2
      obtain ⟨h3, e3, J3, F3⟩ := J_look B2 Q2
      rw [e1, q_B_restore_r35 (J_K J1) (J_rv J1) (J_vs J1), e2, q_B_restore_r47 B2.1.1 B2.2.2.1.1 (PO_S B2.1.2.2.1) B2.2.2.1.2 B2.1.2.2.2.2.1, e3, q_B_restore_r62 (J_K J3), c_failedC J3.1 Q2, q_B_restore_r69 (J_K J3)] at hq
      have Gv : Gw Wc 0 0 h1 h2 := Gw_m G2 (fun a k _ => Wv_c (J_vs J1) hv (by omega) a k) (Nat.le_refl _) (Nat.le_refl _)
      exact CC_chg J3 (Gc_t (Gh_c G1) (Gc_t Gv (Gc_f F3 rfl))) (by decide) (by decide) hq
  · rw [if_neg cx] at hq ⊢
    exact CC_thr J hz (by decide) (hq.trans rfl)
theorem k_save (J : CJ h p v (n, top, R, N, c, Ol, s0, s1, I, m, O, ec, ep)) (Q : Prg n top R N) (hz : hN h < zVB) (x : Int) : CC h 202 [zI x] (t3 0 0 0) (aSave x (n, top, R, N, c, Ol, s0, s1, I, m, O, ec, ep)) := by
  have hq := q_B_save (h := h) (x1 := x) (J_K J)
  rw [rq_slot (J_K J) x] at hq
  unfold aSave
  simp only
  by_cases cx : 0 ≤ x ∧ x ≤ 1
  · rw [if_pos cx] at hq ⊢
    have hv := J.2.2.2.1
    obtain ⟨h1, e1, H1, X1, n1, G1⟩ := c_keepIn (J_K J) J.2.1 (J_V J) Q.2.2.1 Q.1.1.2 (by omega) cx.1 (show x < 2 by omega)
    have J1 := CJ_h J G1 H1
    rw [q_B_save_r5 (J_K J) (J_rv J) (J_vs J), e1, q_B_save_r17 (J_K J1), c_heldSlots (J_K J1) H1, q_B_save_r24 (J_K J1)] at hq
    exact CC_chg J1 (Gw_m G1 (fun a k _ => Wh_c a k) (Nat.le_refl _) (Nat.le_refl _)) (by decide) (by decide) hq
  · rw [if_neg cx] at hq ⊢
    exact CC_thr J hz (by decide) (hq.trans rfl)
end CSET
/-! The class: prices. -/
section CPRICE
variable {h h2 : zH} {p v : Nat} {n top : Int} {R N N2 : Nat → Int} {c c2 : Nat} {Ol Ol2 : Nat → Nat → Int} {s0 s1 s2 s3 : Option (Nat → Int)} {I I2 : Nat → Int} {m m2 : Int} {O O2 : List Int} {ec ep : Int} {W : Nat → Nat → Prop} {d e : Nat} {A : FA}

/-- alike in all but prices -/
def pEq (n : Int) (R N N2 : Nat → Int) : Prop := lst N2 0 = lst N 0 ∧ lst N2 1 = lst N 1 ∧ ∀ s, 0 ≤ s → s < n → (sv R s 0 ≠ 3 → lst N2 (2 + s) = lst N (2 + s)) ∧ (sv R s 0 = 2 → lst N2 (26 + s) = lst N (26 + s) ∧ lst N2 (50 + s) = lst N (50 + s)) ∧ N2 (2294 + s).toNat = N (2294 + s).toNat
theorem bhS_p (E : pEq n R N N2) {s : Int} (h0 : 0 ≤ s) (h1 : s < n) (st : Int) : bhS R N2 s st = bhS R N s st := by
  obtain ⟨a, b, c⟩ := E.2.2 s h0 h1
  unfold bhS
  rw [c]
  by_cases k : sv R s 0 = 0
  · rw [if_pos k, if_pos k, a (by omega)]
  · rw [if_neg k, if_neg k]
theorem hb_p (E : pEq n R N N2) {s : Int} (h0 : 0 ≤ s) (h1 : s < n) (k : sv R s 0 ≠ 3) : hb N2 s = hb N s := funext fun st => by
  unfold hb
  rw [(E.2.2 s h0 h1).1 k]
theorem etS_p (E : pEq n R N N2) (T : Int → Int → Int) {s : Int} (h0 : 0 ≤ s) (h1 : s < n) (st : Int) : etS T R N2 s st = etS T R N s st := by
  unfold etS
  by_cases k2 : sv R s 0 = 2
  · rw [if_pos k2, if_pos k2]
    have hbe := hb_p E h0 h1 (by omega)
    have : rnd T R N2 s = rnd T R N s := funext fun x => by unfold rnd; rw [hbe]
    unfold whE
    rw [this, hbe]
  · rw [if_neg k2, if_neg k2]
    by_cases k1 : sv R s 0 = 1
    · rw [if_pos k1, if_pos k1, hb_p E h0 h1 (by omega)]
    · rw [if_neg k1, if_neg k1, bhS_p E h0 h1]
theorem TT_p (E : pEq n R N N2) (Q : Prg n top R N) (Q2 : Prg n top R N2) {s st : Int} (h0 : 0 ≤ s) (h1 : s < n) (h2 : 0 ≤ st) (h3 : st < 64) : TT n R N2 s st = TT n R N s st := by
  refine isET_u Q.1 Q.2.1 (T := TT n R N2) (T2 := TT n R N) (fun s st a b c d => ?_) (isET_t Q.1 Q.2.1) (n - s).toNat s st (by omega) h0 h1 h2 h3
  rw [isET_t Q2.1 Q2.2.1 s st a b c d]
  exact etS_p E _ a b st
theorem ahd_p (E : pEq n R N N2) (ND : Int → BitVec 64) : ahd N2 ND = ahd N ND := funext fun t => by
  unfold ahd
  rw [E.2.1]
theorem ndS_p (E : pEq n R N N2) (th : Int → Int) (ND : Int → BitVec 64) {s : Int} (h0 : 0 ≤ s) (h1 : s < n) : ndS R N2 th ND s = ndS R N th ND s := by
  obtain ⟨a, b, c⟩ := E.2.2 s h0 h1
  unfold ndS
  rw [ahd_p E]
  by_cases k2 : sv R s 0 = 2
  · rw [if_pos k2, if_pos k2, (b k2).1]
  · rw [if_neg k2, if_neg k2]
    by_cases k1 : sv R s 0 = 1
    · rw [if_pos k1, if_pos k1, a (by omega)]
    · rw [if_neg k1, if_neg k1]
      exact bset_congr (fun st _ _ => by rw [bhS_p E h0 h1])
theorem NN_p (E : pEq n R N N2) (Q : Prg n top R N) (Q2 : Prg n top R N2) {s : Int} (h0 : 0 ≤ s) (h1 : s < n) : NN n R N2 s = NN n R N s := by
  refine isND_u Q.1 (ND := NN n R N2) (ND2 := NN n R N) (fun s a b => ?_) (isND_t Q.1) (n - s).toNat s (by omega) h0 h1
  rw [isND_t Q2.1 s a b]
  exact ndS_p E _ _ a b
theorem row_p (E : pEq n R N N2) (Q : Prg n top R N) (Q2 : Prg n top R N2) {s st : Int} (hs : s = -1 ∨ 0 ≤ s ∧ s < n) (h2 : 0 ≤ st) (h3 : st < 64) : rowE (TT n R N2) R s st = rowE (TT n R N) R s st := by
  unfold rowE
  refine rwE_congr Q.1 24 s st hs (by omega) h3 (fun c x _ c1 c0 x0 x1 => TT_p E Q Q2 c0 c1 x0 x1) (fun c x _ c1 c0 x0 x1 => ?_)
  have := tabE_r Q2.1 Q2.2.1 n.toNat (by have := Q.1.1; omega) c x (by have := Q.1.1; omega) c1 x0 x1
  exact this.2
theorem fl_p (E : pEq n R N N2) (Q : Prg n top R N) (Q2 : Prg n top R N2) {d : Int} (h0 : 0 ≤ d) (h1 : d < dmS n R) : flC n top R N2 d = flC n top R N d := by
  have nn : ∀ {t : Int}, t = -1 ∨ 0 ≤ t ∧ t < n → ahd N2 (NN n R N2) t = ahd N (NN n R N) t := fun {t} ht => by
    rw [ahd_p E]
    unfold ahd
    rcases ht with c | c
    · rw [if_pos c, if_pos c]
    · rw [if_neg (by omega), if_neg (by omega), NN_p E Q Q2 c.1 c.2]
  unfold flC flS
  by_cases d0 : d = 0
  · rw [if_pos d0, if_pos d0, E.1, nn (top_r Q)]
  · rw [if_neg d0, if_neg d0]
    unfold dmS at h1
    rcases lpAt_c Q (Or.inl rfl) ((d - 1) / 3) with ⟨_, ⟨l0, l1⟩, lk⟩ | ⟨no, _⟩
    · generalize lpAt n R 2 ((d - 1) / 3) = s at *
      obtain ⟨a, b, c⟩ := E.2.2 s l0 l1
      have w5 := (Q.1.2.1 s l0 l1).2.2.2.2.1
      have tr := thn_r Q.1 l0 l1
      rw [a (by omega), (b lk).1]
      have e1 : rwN (NN n R N2) (sv R s 5) (setL (lst N (26 + s))) = rwN (NN n R N) (sv R s 5) (setL (lst N (26 + s))) := by
        unfold rwN
        by_cases c5 : sv R s 5 = -1
        · rw [if_pos c5, if_pos c5]
        · rw [if_neg c5, if_neg c5, NN_p E Q Q2 (by omega) (by omega)]
      have e2 : unS R N2 (TT n R N2) s (setL (lst N (26 + s)) &&& setL (lst N (2 + s))) = unS R N (TT n R N) s (setL (lst N (26 + s)) &&& setL (lst N (2 + s))) := by
        unfold unS
        refine bset_congr (fun st x0 x1 => ?_)
        have : lsS R N2 (TT n R N2) s st = lsS R N (TT n R N) s st := by
          unfold lsS
          rw [row_p E Q Q2 (by omega) x0 x1, (b lk).2]
        rw [this]
      rw [e1, e2, nn (by omega)]
    · exact absurd (show lpOk n R 2 ((d - 1) / 3) from ⟨by omega, by omega⟩) no
theorem CA_p (C : CA h p v n top R N) (E : pEq n R N N2) (Q : Prg n top R N) (Q2 : Prg n top R N2) (hv : v = 85 ∨ 179 ≤ v) (G : Gw (Wv v) d e h h2) (B2 : CB h2 p v n R N2) : CA h2 p v n top R N2 := by
  have K := CA_K C
  have k0 := K.1
  have V := CR_V (CA_C C)
  obtain ⟨⟨⟨⟨_, S, r1, r2⟩, t, q⟩, C2⟩, C3⟩ := C
  have nw : ∀ a k, 90 ≤ a → a < 163 → ¬ Wv v a k := fun a k a0 a1 z => by unfold Wv at z; omega
  have sI : ∀ a, 90 ≤ a → a < 163 → hI h2 a = hI h a := fun a a0 a1 => grI G (Or.inl (by omega)) (fun k => nw a k a0 a1)
  have sJ : ∀ a, 90 ≤ a → a < 163 → hJ h2 a = hJ h a := fun a a0 a1 => grJ G (Or.inl (by omega)) (fun k => nw a k a0 a1)
  have sR : ∀ a, 90 ≤ a → a < 163 → hR h2 a = hR h a := fun a a0 a1 => grR G (Or.inl (by omega)) (fun k => nw a k a0 a1)
  refine ⟨⟨⟨⟨B2, ?_, ?_, ?_⟩, ?_, ?_⟩, ?_⟩, ?_⟩
  · obtain ⟨a1, a2, a3, a4⟩ := S
    refine ⟨by rw [sJ 90 (by decide) (by decide), E.1]; exact a1, by rw [sJ 90 (by decide) (by decide), E.2.1]; exact a2, fun s q0 q1 => ?_, fun s q0 q1 k => ?_⟩
    · obtain ⟨b1, b2, b3, b4⟩ := a3 s q0 q1
      obtain ⟨x1, x2, x3⟩ := E.2.2 s q0 q1
      have et : tgS R N2 s = tgS R N s := by unfold tgS; rw [x3]
      have ec : cfL R N2 s = cfL R N s := by
        unfold cfL
        by_cases k3 : sv R s 0 = 3
        · rw [if_pos k3, if_pos k3, x3]
        · rw [if_neg k3, if_neg k3, x1 k3]
      unfold SCs
      rw [et, ec]
      exact ⟨by rw [sI 96 (by decide) (by decide)]; exact b1, FAt_g b2 G (nf_v V.1) (by omega) (nw _ _ (by decide) (by decide)), by rw [sJ 94 (by decide) (by decide)]; exact b3, by rw [sJ 95 (by decide) (by decide)]; exact b4⟩
    · obtain ⟨b1, b2, b3⟩ := a4 s q0 q1 k
      obtain ⟨x1, x2, x3⟩ := E.2.2 s q0 q1
      unfold SCl
      rw [(x2 k).1, (x2 k).2]
      exact ⟨by rw [sJ 91 (by decide) (by decide)]; exact b1, by rw [sJ 92 (by decide) (by decide)]; exact b2, by rw [sJ 93 (by decide) (by decide)]; exact b3⟩
  · rw [sR 128 (by decide) (by decide)]; exact r1
  · rw [sR 128 (by decide) (by decide)]; exact r2
  · intro s st a0 a1 b0 b1
    rw [sI 129 (by decide) (by decide), TT_p E Q Q2 a0 a1 b0 b1]
    exact t s st a0 a1 b0 b1
  · rw [sR 132 (by decide) (by decide)]; exact q
  · intro s a0 a1
    rw [sJ 133 (by decide) (by decide), NN_p E Q Q2 a0 a1]
    exact C2 s a0 a1
  · intro d d0 d1
    rw [sJ 134 (by decide) (by decide), C3 d d0 d1]
    by_cases c : d < dmS n R
    · rw [if_pos c, if_pos c, fl_p E Q Q2 d0 c]
    · rw [if_neg c, if_neg c]
theorem pEq_price (Q : Prg n top R N) {s : Int} (h0 : 0 ≤ s) (h1 : s < n) (x : Int) : pEq n R N (upN N (2318 + s).toNat x) := by
  have w := Q.1.1
  obtain ⟨l0, l1, lk, sm⟩ := lst_up2 Q (i := (2318 + s).toNat) (by omega) x
  refine ⟨l0, l1, fun t t0 t1 => ⟨fun k => ?_, lk t t0 t1, upN_n _ _ (by omega)⟩⟩
  have := sm t t0 t1
  unfold prtL at this
  rw [if_neg k, if_neg k] at this
  exact this
theorem k_setPrice (J : CJ h p v (n, top, R, N, c, Ol, s0, s1, I, m, O, ec, ep)) (Q : Prg n top R N) (hz : hN h < zVB) (s x : Int) : CC h 198 [zI s, zI x] (t3 3 0 0) (aSetPrice s x (n, top, R, N, c, Ol, s0, s1, I, m, O, ec, ep)) := by
  have hq := q_B_setPrice (h := h) (x1 := s) (x2 := x) (J_K J)
  rw [rq_statement (J_K J) (J_rp J) (J_P J) s] at hq
  unfold aSetPrice
  simp only
  by_cases cs : 0 ≤ s ∧ s < n
  · rw [if_pos cs] at hq ⊢
    rw [q_B_setPrice_r5 (J_K J) (J_rv J) (J_vs J)] at hq
    by_cases x0 : x < 0
    · rw [if_pos x0] at hq
      rw [if_neg (by omega)]
      exact CC_thr J hz (by decide) hq
    · rw [if_neg x0] at hq
      by_cases x1 : 99 < x
      · rw [if_pos x1] at hq
        rw [if_neg (by omega)]
        exact CC_thr J hz (by decide) hq
      · rw [if_neg x1] at hq
        rw [if_pos (by omega)]
        have w0 := Q.1.1
        obtain ⟨h1, e1, J1, n1, G1⟩ := J_rem J Q
        have V1 := J_V J1
        have G2 := Gw_vI V1.1 (j := 4) (i := s.toNat) (by decide) (by decide) x
        have Q2 := Prg_price Q cs.1 cs.2 (show 0 ≤ x by omega) (show x ≤ 99 by omega)
        have E := pEq_price Q cs.1 cs.2 x
        have B2 := Jb_v2 (J_b J1) (by omega) G2 (VO_price V1 Q cs.1 cs.2) (lst_up2 Q (i := (2318 + s).toNat) (by omega) x).2.2.2
        have J2 : CJ (sI h1 (v + 4) s.toNat x) p v (n, top, R, (upN N (2318 + s).toNat x), psc c, psh N Ol, s0, s1, I, m, O, ec, ep) := ⟨CA_p J1.1 E Q Q2 J1.2.2.2.1 G2 B2.1, B2.2⟩
        rw [e1, q_B_setPrice_r34 (J_K J1) (J_rv J1) (J_vs J1), price_e (CA_C J1.1) Q cs.1 cs.2, q_V_putPrice V1.1, if_pos (show b_V_fits s from ⟨cs.1, by omega⟩), q_B_setPrice_r52 (J_K J2)] at hq
        have Gv : Gw Wc 0 0 h1 (sI h1 (v + 4) s.toNat x) := Gw_m G2 (fun a k _ => Wv_c (J_vs J1) J1.2.2.2.1 (by omega) a k) (Nat.le_refl _) (Nat.le_refl _)
        exact CC_chg J2 (Gc_t (Gh_c G1) Gv) (by decide) (by decide) hq
  · rw [if_neg cs] at hq ⊢
    exact CC_thr J hz (by decide) (hq.trans rfl)
end CPRICE
/-! The class: input. -/
section CFEED
variable {h h2 : zH} {p v : Nat} {n top : Int} {R N N2 : Nat → Int} {c c2 : Nat} {Ol Ol2 : Nat → Nat → Int} {s0 s1 s2 s3 : Option (Nat → Int)} {I I2 : Nat → Int} {m m2 : Int} {O O2 : List Int} {ec ep : Int} {W : Nat → Nat → Prop} {d e : Nat} {A : FA}

theorem zb_u (x : Int) : zi2b (zushr x 24) = zi2b (zshr x 24) ∧ zi2b (zushr x 16) = zi2b (zshr x 16) ∧ zi2b (zushr x 8) = zi2b (zshr x 8) ∧ zi2b (zushr x 0) = zi2b x := zb_u' x
theorem CI_put (C : CI h I m) (h0 : 0 ≤ m) (b : Int) : CI (sI (sI h 1 m.toNat b) 0 1 (m + 1)) (upN I m.toNat b) (m + 1) := by
  refine ⟨hI_s _ _ _ _, fun k hk => ?_⟩
  rw [hI_ne (sI h 1 m.toNat b) (m + 1) (show (1 : Nat) ≠ 0 by decide), hI_up]
  unfold upN
  by_cases c : k = m.toNat
  · rw [if_pos c, if_pos c]
  · rw [if_neg c, if_neg c]
    exact C.2 k (by omega)
abbrev scrIc : FA := [(1, none), (0, some 1)]
theorem c_append (K : KC h) (C : CI h I m) (h0 : 0 ≤ m) (h1 : m + 4 ≤ 800) (x : Int) : ∃ h2, zC 159 [zR (some 0), zI x] h = some (.inl none, h2) ∧ CI h2 (fd4 x (I, m)).1 (m + 4) ∧ Fr scrIc h h2 := by
  obtain ⟨z1, z2, z3, z4⟩ := zb_u x
  have st : ∀ (g : zH) (I : Nat → Int) (m y : Int), KC g → CI g I m → 0 ≤ m → m < 800 → 0 ≤ y → y ≤ 24 → ∃ g2, zY 159 3 [some (zR (some 0)), some (zI x), some (zI y)] [] g = zY 159 3 [some (zR (some 0)), some (zI x), some (zI (y + (-8)))] [] g2 ∧ CI g2 (upN I m.toNat (zi2b (zushr x y))) (m + 1) ∧ Fr scrIc g g2 := by
    intro g I m y Kg Cg m0 m1 y0 y1
    rw [q_B_appendInput_3 Kg, if_neg (by omega), Cg.1, if_neg (by omega), if_pos m1, gd_t (by omega), gd_t (by omega)]
    exact ⟨_, rfl, CI_put Cg m0 _, Fr_I (Fr_I (Fr_r _ _) rfl) rfl⟩
  obtain ⟨g1, e1, C1, F1⟩ := st h I m 24 K C h0 (by omega) (by decide) (by decide)
  have K1 := KC_f K F1 rfl
  obtain ⟨g2, e2, C2, F2⟩ := st g1 _ (m + 1) 16 K1 C1 (by omega) (by omega) (by decide) (by decide)
  have K2 := KC_f K1 F2 rfl
  obtain ⟨g3, e3, C3, F3⟩ := st g2 _ (m + 1 + 1) 8 K2 C2 (by omega) (by omega) (by decide) (by decide)
  have K3 := KC_f K2 F3 rfl
  obtain ⟨g4, e4, C4, F4⟩ := st g3 _ (m + 1 + 1 + 1) 0 K3 C3 (by omega) (by omega) (by decide) (by decide)
  have K4 := KC_f K3 F4 rfl
  have e2 : zY 159 3 [some (zR (some 0)), some (zI x), some (zI (24 + (-8)))] [] g1 = _ := e2
  have e3 : zY 159 3 [some (zR (some 0)), some (zI x), some (zI (16 + (-8)))] [] g2 = _ := e3
  have e4 : zY 159 3 [some (zR (some 0)), some (zI x), some (zI (8 + (-8)))] [] g3 = _ := e4
  rw [q_B_appendInput K, e1, e2, e3, e4, q_B_appendInput_3 K4, if_pos (by decide)]
  refine ⟨_, rfl, ?_, Fr_t F1 (Fr_t F2 (Fr_t F3 F4))⟩
  rw [z1, z2, z3, z4] at C4
  unfold fd4
  rw [show m + 1 + 1 = m + 2 by omega, show m + 2 + 1 = m + 3 by omega, show m + 3 + 1 = m + 4 by omega] at C4
  exact C4
/-- another input -/
theorem CJ_i (J : CJ h p v (n, top, R, N, c, Ol, s0, s1, I, m, O, ec, ep)) {A : FA} (F : Fr A h h2) (e : (okCR A && rowA A 133 && rowA A 134 && rowA A 13 && !inA A 10 0 && !inA A 10 1 && rowA A 2 && !inA A 0 3 && !inA A 0 4 && !inA A 0 5 && !inA A 0 13 && !inA A 0 14) = true) (C : CI h2 I2 m2) : CJ h2 p v (n, top, R, N, c, Ol, s0, s1, I2, m2, O, ec, ep) := by
  simp only [Bool.and_eq_true, Bool.not_eq_true'] at e
  obtain ⟨⟨⟨⟨⟨⟨⟨⟨⟨⟨⟨e1, e133⟩, e134⟩, e13⟩, e100⟩, e101⟩, er2⟩, e03⟩, e04⟩, e05⟩, e013⟩, e014⟩ := e
  obtain ⟨j1, j2, ⟨j3, j4⟩, j5, _, ⟨j8, j9, j10⟩, j11, j12⟩ := J
  have e1' := e1
  unfold okCR okCB at e1'
  simp only [Bool.and_eq_true] at e1'
  have eo : okO A = true := e1'.1.1.1.1.1.1.1.1.1.1.1.1.1.2
  refine ⟨CA_f j1 F (by rw [e1, e133, e134]; rfl), HO_f j2 (CA_K j1) F (by rw [eo, e13, e100, e101]; rfl), ⟨(fR F 0 13 e013).trans j3, (fR F 0 14 e014).trans j4⟩, j5, C, ⟨(fI F 0 3 e03).trans j8, j9, ?_⟩, (fI F 0 4 e04).trans j11, (fI F 0 5 e05).trans j12⟩
  rw [rI F 2 er2]; exact j10
theorem k_feed (J : CJ h p v (n, top, R, N, c, Ol, s0, s1, I, m, O, ec, ep)) (hm : 0 ≤ m ∧ m ≤ 800) (hz : hN h < zVB) (a1 a2 a3 a4 a5 : Int) : CC h 158 [zI a1, zI a2, zI a3, zI a4, zI a5] (t3 1 0 0) (aFeed a1 a2 a3 a4 a5 (n, top, R, N, c, Ol, s0, s1, I, m, O, ec, ep)) := by
  have K := J_K J
  have C := J.2.2.2.2.1
  have hq := q_B_feed (h := h) (x1 := a1) (x2 := a2) (x3 := a3) (x4 := a4) (x5 := a5) K
  rw [C.1, gd_t (by omega)] at hq
  unfold aFeed
  simp only
  by_cases cm : 780 < m
  · rw [if_pos (by omega)] at hq
    rw [if_pos cm]
    exact CC_thr J hz (by decide) hq
  · rw [if_neg (by omega)] at hq
    rw [if_neg cm]
    obtain ⟨g1, e1, i1, F1⟩ := c_append K C hm.1 (by omega) a1
    have K1 := KC_f K F1 rfl
    obtain ⟨g2, e2, i2, F2⟩ := c_append K1 i1 (by omega) (by omega) a2
    have K2 := KC_f K1 F2 rfl
    obtain ⟨g3, e3, i3, F3⟩ := c_append K2 i2 (by omega) (by omega) a3
    have K3 := KC_f K2 F3 rfl
    obtain ⟨g4, e4, i4, F4⟩ := c_append K3 i3 (by omega) (by omega) a4
    have K4 := KC_f K3 F4 rfl
    obtain ⟨g5, e5, i5, F5⟩ := c_append K4 i4 (by omega) (by omega) a5
    have K5 := KC_f K4 F5 rfl
    have F05 : Fr scrIc h g5 := Fr_t F1 (Fr_t F2 (Fr_t F3 (Fr_t F4 F5)))
    have em : m + 4 + 4 + 4 + 4 + 4 = m + 20 := by omega
    rw [em] at i5
    have i5 : CI g5 (fd5 a1 a2 a3 a4 a5 (I, m)).1 (m + 20) := i5
    rw [e1, q_B_feed_r26 K1, e2, q_B_feed_r31 K2, e3, q_B_feed_r36 K3, e4, q_B_feed_r42 K4, e5, q_B_feed_r48 K5, i5.1] at hq
    exact CC_chg (CJ_i J F05 rfl i5) (Gc_f F05 rfl) (by decide) (by decide) hq
theorem kr_feed (J : CJ h p v (n, top, R, N, c, Ol, s0, s1, I, m, O, ec, ep)) (hm : 0 ≤ m ∧ m ≤ 800) (hz : hN h < zVB) (a1 a2 a3 a4 a5 : Int) : CW h 158 [zI a1, zI a2, zI a3, zI a4, zI a5] (t3 1 0 0) (aFeed a1 a2 a3 a4 a5 (n, top, R, N, c, Ol, s0, s1, I, m, O, ec, ep)) := by
  have K := J_K J
  have C := J.2.2.2.2.1
  have hq := q_B_feed (h := h) (x1 := a1) (x2 := a2) (x3 := a3) (x4 := a4) (x5 := a5) K
  rw [C.1, gd_t (by omega)] at hq
  unfold aFeed
  simp only
  by_cases cm : 780 < m
  · rw [if_pos (by omega)] at hq
    rw [if_pos cm]
    exact CW_thr J hz (by decide) hq
  · rw [if_neg (by omega)] at hq
    rw [if_neg cm]
    obtain ⟨g1, e1, i1, F1⟩ := c_append K C hm.1 (by omega) a1
    have K1 := KC_f K F1 rfl
    obtain ⟨g2, e2, i2, F2⟩ := c_append K1 i1 (by omega) (by omega) a2
    have K2 := KC_f K1 F2 rfl
    obtain ⟨g3, e3, i3, F3⟩ := c_append K2 i2 (by omega) (by omega) a3
    have K3 := KC_f K2 F3 rfl
    obtain ⟨g4, e4, i4, F4⟩ := c_append K3 i3 (by omega) (by omega) a4
    have K4 := KC_f K3 F4 rfl
    obtain ⟨g5, e5, i5, F5⟩ := c_append K4 i4 (by omega) (by omega) a5
    have K5 := KC_f K4 F5 rfl
    have F05 : Fr scrIc h g5 := Fr_t F1 (Fr_t F2 (Fr_t F3 (Fr_t F4 F5)))
    have em : m + 4 + 4 + 4 + 4 + 4 = m + 20 := by omega
    rw [em] at i5
    have i5 : CI g5 (fd5 a1 a2 a3 a4 a5 (I, m)).1 (m + 20) := i5
    rw [e1, q_B_feed_r26 K1, e2, q_B_feed_r31 K2, e3, q_B_feed_r36 K3, e4, q_B_feed_r42 K4, e5, q_B_feed_r48 K5, i5.1] at hq
    exact CW_fr (CJ_i J F05 rfl i5) F05 hq rfl
end CFEED

