/-! The reference: what would be, with another filling. -/
section API5
variable {n top : Int} {R N : Nat → Int}
def upN (N : Nat → Int) (i : Nat) (v : Int) : Nat → Int := fun j => if j = i then v else N j
theorem upN_s (N : Nat → Int) (i : Nat) (v : Int) : upN N i v i = v := if_pos rfl
theorem upN_n (N : Nat → Int) {i j : Nat} (v : Int) (h : j ≠ i) : upN N i v j = N j := if_neg h
theorem upN_self (N : Nat → Int) (i : Nat) : upN N i (N i) = N := funext fun j => by
  unfold upN
  by_cases c : j = i
  · rw [if_pos c, c]
  · rw [if_neg c]
theorem upN_up (N : Nat → Int) (i : Nat) (v w : Int) : upN (upN N i v) i w = upN N i w := funext fun j => by
  unfold upN
  by_cases c : j = i
  · rw [if_pos c, if_pos c]
  · rw [if_neg c, if_neg c, if_neg c]
theorem hI_up (h : zH) (a i : Nat) (v : Int) : hI (sI h a i v) a = upN (hI h a) i v := funext fun j => by
  rw [hI_sI, zup, upN]
  by_cases c : j = i
  · rw [if_pos ⟨rfl, c⟩, if_pos c]
  · rw [if_neg (fun q => c q.2), if_neg c]
theorem lst_up {q : Int} {i : Nat} {v : Int} (hq : 0 ≤ q) (hi : (31 * q).toNat + 31 ≤ i) (hn : N (31 * q).toNat ≤ 30) : lst (upN N i v) q = lst N q := by
  unfold lst
  rw [upN_n N v (by omega : (31 * q).toNat ≠ i)]
  exact upto_congr _ _ fun k hk => upN_n N v (by omega)
theorem fmOk_up {q : Int} {i : Nat} {v : Int} {b : Bool} (hq : 0 ≤ q) (hi : (31 * q).toNat + 31 ≤ i) (h : fmOk N q b) : fmOk (upN N i v) q b := by
  obtain ⟨h1, h2, h3⟩ := h
  refine ⟨?_, ?_, ?_⟩
  · rw [upN_n N v (by omega : (31 * q).toNat ≠ i)]; exact h1
  · rw [upN_n N v (by omega : (31 * q).toNat ≠ i)]; exact h2
  · rw [lst_up hq hi h2]; exact h3
/-- another filling of a hole -/
theorem Prg_fill (P : Prg n top R N) {s f : Int} (h0 : 0 ≤ s) (h1 : s < n) (hk : sv R s 0 = 3) (hf : -1 ≤ f) (hf2 : f ≤ 38) : Prg n top R (upN N (2294 + s).toNat f) := by
  obtain ⟨w, ⟨v1, v2, v3⟩, hu, ht⟩ := P
  have w0 := w.1
  refine ⟨w, ⟨fmOk_up (by omega) (by omega) v1, fmOk_up (by omega) (by omega) v2, fun t q0 q1 => ?_⟩, hu, ht⟩
  obtain ⟨a1, a2, a3, a4, a5⟩ := v3 t q0 q1
  refine ⟨fun k => fmOk_up (by omega) (by omega) (a1 k), fun k => fmOk_up (by omega) (by omega) (a2 k), fun k => ⟨fmOk_up (by omega) (by omega) (a3 k).1, fmOk_up (by omega) (by omega) (a3 k).2.1, fmOk_up (by omega) (by omega) (a3 k).2.2⟩, fun k => ?_, ?_⟩
  · unfold upN
    by_cases c : (2294 + t).toNat = (2294 + s).toNat
    · rw [if_pos c]; omega
    · rw [if_neg c]; exact a4 k
  · rw [upN_n N f (by omega : (2318 + t).toNat ≠ (2294 + s).toNat)]; exact a5
theorem MB_up {h : zH} (M : MB n top R N h) (i : Nat) (v : Int) : MB n top R (upN N i v) (sI h 179 i v) := by
  obtain ⟨m1, m2, m3, m4, m5⟩ := M
  have F : Fr [(179, none)] h (sI h 179 i v) := Fr_I (Fr_r _ _) rfl
  exact ⟨KM_f m1 F rfl, (fI F 177 10 rfl).trans m2, (fI F 177 12 rfl).trans m3, (rI F 183 rfl).trans m4, by rw [hI_up, m5]⟩
theorem Fr_sw {A : FA} {h g : zH} {a k : Nat} {v w : Int} (F : Fr A (sI h a k v) g) : Fr A (sI h a k w) (sI g a k w) := by
  obtain ⟨f1, f2, f3, f4, f5⟩ := F
  refine ⟨f1, f2, f3, f4, fun b j e => ?_⟩
  obtain ⟨a1, a2, a3, a4, a5⟩ := f5 b j e
  refine ⟨a1, ?_, a3, a4, a5⟩
  rw [hI_sI, zup] at a2
  rw [hI_sI, hI_sI, zup, zup]
  by_cases c : b = a ∧ j = k
  · rw [if_pos c, if_pos c]
  · rw [if_neg c, if_neg c]
    rw [if_neg c] at a2
    exact a2
theorem Fr_id {A : FA} {h g : zH} {a k : Nat} (F : Fr A (sI h a k (hI h a k)) g) : Fr A h g := by
  refine Fr_t (h2 := sI h a k (hI h a k)) ⟨rfl, rfl, rfl, rfl, fun b j _ => ⟨rfl, ?_, rfl, rfl, rfl⟩⟩ F
  rw [hI_sI, zup]
  by_cases c : b = a ∧ j = k
  · rw [if_pos c, c.1, c.2]
  · rw [if_neg c]
def pvF (n top : Int) (R N : Nat → Int) (s f : Int) : Prop := nfS n top R (upN N (2294 + s).toNat f) (TT n R (upN N (2294 + s).toNat f)) (NN n R (upN N (2294 + s).toNat f)) = 0
def rgF (n top : Int) (R N : Nat → Int) (s f : Int) : Prop := wgC n top R (upN N (2294 + s).toNat f) = 0#64
section
theorem end_prov {q : Nat} {as : List zV} {h g : zH} {s r : Int} {N2 : Nat → Int} (M : MB n top R N2 g) {w : Int} (h0 : 0 ≤ s) (h1 : s < 24) (F : Fr scrF (sI h 179 (2294 + s).toNat w) g) (hN : hI h 179 = N) (e : zC q (zR (some 177) :: as) h = some (.inl (some (zI r)), sI (sI g 179 (2294 + s).toNat (N (2294 + s).toNat)) 177 1 0)) : MA h q as (0, zI r) := by
  refine MA_i (g := sI g 179 (2294 + s).toNat (N (2294 + s).toNat)) ?_ e
  have F2 := Fr_sw (w := N (2294 + s).toNat) F
  have e2 : N (2294 + s).toNat = hI h 179 (2294 + s).toNat := by rw [hN]
  rw [e2] at F2 ⊢
  exact Fr_m (Fr_id F2) rfl
end
theorem l_proves (P : Prg n top R N) {l s : Int} (h0 : 0 ≤ s) (h1 : s < n) (hk : sv R s 0 = 3) {h : zH} (M0 : MB n top R N h) : ∀ (m : Nat) (x : Int) (w : Int) (g : zH), (haveI : DecidablePred (pvF n top R N s) := fun _ => inferInstanceAs (Decidable (_ = _)); 0 ≤ x → x + m = 39 → Fr scrF (sI h 179 (2294 + s).toNat w) g → ∃ (w2 : Int) (g2 : zH), zY 312 29 [some (zR (some 177)), some (zI l), some (zI s), some (zI (N (2294 + s).toNat)), some (zI (-1)), some (zI x)] [] g = some (.inl (some (zI (zfind (pvF n top R N s) x m))), sI (sI g2 179 (2294 + s).toNat (N (2294 + s).toNat)) 177 1 0) ∧ Fr scrF (sI h 179 (2294 + s).toNat w2) g2)
  | 0, x, w, g, hx, hm, F => by
    have w0 := P.1.1
    have Mg := MB_f (MB_up M0 (2294 + s).toNat w) F rfl
    rw [q_M_proves_29 Mg.1, if_neg (by omega), gd_t (by omega), gd_t (by omega)]
    exact ⟨w, g, rfl, F⟩
  | m + 1, x, w, g, hx, hm, F => by
    have w0 := P.1.1
    have Mg := MB_f (MB_up M0 (2294 + s).toNat w) F rfl
    have F1 := Fr_sw (w := x) F
    have M1 : MB n top R (upN N (2294 + s).toNat x) (sI g 179 (2294 + s).toNat x) := MB_f (MB_up M0 (2294 + s).toNat x) F1 rfl
    have P1 := Prg_fill P h0 h1 hk (f := x) (by omega) (by omega)
    obtain ⟨g2, e2, F2⟩ := c_isProven M1 (Prg_S P1)
    have M2 := MB_f M1 F2 rfl
    have F12 := Fr_t F1 F2
    rw [q_M_proves_29 Mg.1, if_pos (by omega), if_pos rfl, gd_t (by omega), gd_t (by omega), e2, q_M_proves_r58 M2.1, zfind]
    by_cases c : pvF n top R N s x
    · have c2 : nfS n top R (upN N (2294 + s).toNat x) (TT n R (upN N (2294 + s).toNat x)) (NN n R (upN N (2294 + s).toNat x)) = 0 := c
      rw [if_pos c2, if_neg (by decide), gd_t (by omega), if_pos c]
      by_cases y : x + 1 < 39
      · rw [q_M_proves_29 M2.1, if_pos y, if_neg (by omega), gd_t (by omega), gd_t (by omega)]
        exact ⟨x, g2, rfl, F12⟩
      · rw [q_M_proves_29 M2.1, if_neg y, gd_t (by omega), gd_t (by omega)]
        exact ⟨x, g2, rfl, F12⟩
    · have c2 : ¬ nfS n top R (upN N (2294 + s).toNat x) (TT n R (upN N (2294 + s).toNat x)) (NN n R (upN N (2294 + s).toNat x)) = 0 := c
      rw [if_neg c2, if_pos rfl, gd_t (by omega), if_neg c]
      exact l_proves P h0 h1 hk M0 m (x + 1) x g2 (by omega) (by omega) F12
def aProves (n top : Int) (R N : Nat → Int) (l : Int) : Int × zV := haveI : DecidablePred (pvF n top R N (lpAt n R 3 l)) := fun _ => inferInstanceAs (Decidable (_ = _)); if lpAt n R 3 l = -1 then (1, zI 0) else (0, zI (zfind (pvF n top R N (lpAt n R 3 l)) 0 39))
theorem m_proves {h : zH} (M : MB n top R N h) (P : Prg n top R N) (l : Int) : MA h 312 [zI l] (aProves n top R N l) := by
  have w0 := P.1.1
  have m1 := M.2.1
  have el := f_M_holeAt_e M P.2.2.1 w0.1 l
  unfold aProves
  rcases lpAt_c P (Or.inr rfl) l with ⟨_, ⟨l0, l1⟩, lk⟩ | ⟨_, ln⟩
  · have ef : f_M_filling h (lpAt n R 3 l) = N (2294 + lpAt n R 3 l).toNat := by unfold f_M_filling; rw [M.2.2.2.2]
    obtain ⟨w2, g2, e2, F2⟩ := l_proves P (l := l) l0 l1 lk M 39 0 (N (2294 + lpAt n R 3 l).toNat) h (by omega) (by omega) (by
      rw [show N (2294 + lpAt n R 3 l).toNat = hI h 179 (2294 + lpAt n R 3 l).toNat by rw [M.2.2.2.2]]
      refine ⟨rfl, rfl, rfl, rfl, fun b j _ => ⟨rfl, ?_, rfl, rfl, rfl⟩⟩
      rw [hI_sI, zup]
      by_cases c : b = 179 ∧ j = (2294 + lpAt n R 3 l).toNat
      · rw [if_pos c, c.1, c.2]
      · rw [if_neg c])
    have hq := q_M_proves (h := h) (x1 := l) M.1
    rw [el, if_neg (by omega), ef] at hq
    rw [if_neg (by omega)]
    exact end_prov (MB_f (MB_up M _ w2) F2 rfl) l0 (by omega) F2 M.2.2.2.2 (hq.trans e2)
  · have hq := q_M_proves (h := h) (x1 := l) M.1
    rw [el, if_pos ln] at hq
    rw [if_pos ln]
    exact MA_i (Fr_r _ _) hq
theorem l_rights (P : Prg n top R N) {l s : Int} (h0 : 0 ≤ s) (h1 : s < n) (hk : sv R s 0 = 3) {h : zH} (M0 : MB n top R N h) : ∀ (m : Nat) (x : Int) (w : Int) (g : zH), (haveI : DecidablePred (rgF n top R N s) := fun _ => inferInstanceAs (Decidable (_ = _)); 0 ≤ x → x + m = 39 → Fr scrF (sI h 179 (2294 + s).toNat w) g → ∃ (w2 : Int) (g2 : zH), zY 314 29 [some (zR (some 177)), some (zI l), some (zI s), some (zI (N (2294 + s).toNat)), some (zI (-1)), some (zI x)] [] g = some (.inl (some (zI (zfind (rgF n top R N s) x m))), sI (sI g2 179 (2294 + s).toNat (N (2294 + s).toNat)) 177 1 0) ∧ Fr scrF (sI h 179 (2294 + s).toNat w2) g2)
  | 0, x, w, g, hx, hm, F => by
    have w0 := P.1.1
    have Mg := MB_f (MB_up M0 (2294 + s).toNat w) F rfl
    rw [q_M_rights_29 Mg.1, if_neg (by omega), gd_t (by omega), gd_t (by omega)]
    exact ⟨w, g, rfl, F⟩
  | m + 1, x, w, g, hx, hm, F => by
    have w0 := P.1.1
    have Mg := MB_f (MB_up M0 (2294 + s).toNat w) F rfl
    have F1 := Fr_sw (w := x) F
    have M1 : MB n top R (upN N (2294 + s).toNat x) (sI g 179 (2294 + s).toNat x) := MB_f (MB_up M0 (2294 + s).toNat x) F1 rfl
    have P1 := Prg_fill P h0 h1 hk (f := x) (by omega) (by omega)
    obtain ⟨g2, e2, F2⟩ := c_wrongNow M1 (Prg_S P1)
    have M2 := MB_f M1 F2 rfl
    have F12 := Fr_t F1 (Fr_m F2 (B := scrF) rfl)
    rw [q_M_rights_29 Mg.1, if_pos (by omega), if_pos rfl, gd_t (by omega), gd_t (by omega), e2, q_M_rights_r58 M2.1, zfind]
    by_cases c : rgF n top R N s x
    · have c2 : wgS R (upN N (2294 + s).toNat x) (TT n R (upN N (2294 + s).toNat x)) top = 0#64 := c
      rw [if_pos c2, gd_t (by omega), if_pos c]
      by_cases y : x + 1 < 39
      · rw [q_M_rights_29 M2.1, if_pos y, if_neg (by omega), gd_t (by omega), gd_t (by omega)]
        exact ⟨x, g2, rfl, F12⟩
      · rw [q_M_rights_29 M2.1, if_neg y, gd_t (by omega), gd_t (by omega)]
        exact ⟨x, g2, rfl, F12⟩
    · have c2 : ¬ wgS R (upN N (2294 + s).toNat x) (TT n R (upN N (2294 + s).toNat x)) top = 0#64 := c
      rw [if_neg c2, gd_t (by omega), if_neg c]
      exact l_rights P h0 h1 hk M0 m (x + 1) x g2 (by omega) (by omega) F12
def aRights (n top : Int) (R N : Nat → Int) (l : Int) : Int × zV := haveI : DecidablePred (rgF n top R N (lpAt n R 3 l)) := fun _ => inferInstanceAs (Decidable (_ = _)); if lpAt n R 3 l = -1 then (1, zI 0) else (0, zI (zfind (rgF n top R N (lpAt n R 3 l)) 0 39))
theorem m_rights {h : zH} (M : MB n top R N h) (P : Prg n top R N) (l : Int) : MA h 314 [zI l] (aRights n top R N l) := by
  have w0 := P.1.1
  have m1 := M.2.1
  have el := f_M_holeAt_e M P.2.2.1 w0.1 l
  unfold aRights
  rcases lpAt_c P (Or.inr rfl) l with ⟨_, ⟨l0, l1⟩, lk⟩ | ⟨_, ln⟩
  · have ef : f_M_filling h (lpAt n R 3 l) = N (2294 + lpAt n R 3 l).toNat := by unfold f_M_filling; rw [M.2.2.2.2]
    obtain ⟨w2, g2, e2, F2⟩ := l_rights P (l := l) l0 l1 lk M 39 0 (N (2294 + lpAt n R 3 l).toNat) h (by omega) (by omega) (by
      rw [show N (2294 + lpAt n R 3 l).toNat = hI h 179 (2294 + lpAt n R 3 l).toNat by rw [M.2.2.2.2]]
      refine ⟨rfl, rfl, rfl, rfl, fun b j _ => ⟨rfl, ?_, rfl, rfl, rfl⟩⟩
      rw [hI_sI, zup]
      by_cases c : b = 179 ∧ j = (2294 + lpAt n R 3 l).toNat
      · rw [if_pos c, c.1, c.2]
      · rw [if_neg c])
    have hq := q_M_rights (h := h) (x1 := l) M.1
    rw [el, if_neg (by omega), ef] at hq
    rw [if_neg (by omega)]
    exact end_prov (MB_f (MB_up M _ w2) F2 rfl) l0 (by omega) F2 M.2.2.2.2 (hq.trans e2)
  · have hq := q_M_rights (h := h) (x1 := l) M.1
    rw [el, if_pos ln] at hq
    rw [if_pos ln]
    exact MA_i (Fr_r _ _) hq
end API5
