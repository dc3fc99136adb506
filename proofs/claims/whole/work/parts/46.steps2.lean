/-! The reference: what one step of a run does. -/
section STEPS2
variable {n top : Int} {R N : Nat → Int} {th cl : Int → Int} {al sp : Int}
def RSt (h : zH) (st k : Int) (c : UInt32) (L : Int → BitVec 64) (t m : Int → Int) (M : Int → BitVec 64) : Prop := hI h 177 28 = st ∧ hI h 177 30 = k ∧ hF h 177 31 = c ∧ ∀ l, 0 ≤ l → l < 24 → hJ h 192 l.toNat = L l ∧ hI h 193 l.toNat = t l ∧ hI h 194 l.toNat = m l ∧ hJ h 195 l.toNat = M l
def tb (t : Int → Int) (b l : Int) : Int := t l + (if b = l then 1 else 0)
def mb (t m : Int → Int) (b l : Int) : Int := if b = l ∧ m l < tb t b l then tb t b l else m l
abbrev scrG : FA := [(177, some 27), (177, some 29), (193, none), (194, none)]
/-- a run goes on at x, or (-1) has ended; loop b has done a round *)-/
def GB (h h2 : zH) (x b : Int) : Prop := (x = -1 → hI h2 177 29 = 1) ∧ (x ≠ -1 → hI h2 177 29 = hI h 177 29 ∧ hI h2 177 27 = x) ∧ (∀ l, 0 ≤ l → l < 24 → hI h2 193 l.toNat = tb (fun l => hI h 193 l.toNat) b l ∧ hI h2 194 l.toNat = mb (fun l => hI h 193 l.toNat) (fun l => hI h 194 l.toNat) b l) ∧ Fr scrG h h2
theorem GB_0 {h h2 : zH} {x : Int} (h1 : x = -1 → hI h2 177 29 = 1) (h2' : x ≠ -1 → hI h2 177 29 = hI h 177 29 ∧ hI h2 177 27 = x) (F : Fr [(177, some 27), (177, some 29)] h h2) : GB h h2 x (-1) := by
  refine ⟨h1, h2', fun l h0 h1 => ?_, Fr_m F rfl⟩
  unfold tb mb tb
  rw [if_neg (by omega), if_neg (by omega), rI F 193 rfl, rI F 194 rfl]
  exact ⟨(Int.add_zero _).symm, rfl⟩
theorem RSt_gb {h h2 : zH} {st k : Int} {c : UInt32} {L : Int → BitVec 64} {t m : Int → Int} {M : Int → BitVec 64} {x b : Int} (S : RSt h st k c L t m M) (G : GB h h2 x b) : RSt h2 st k c L (tb t b) (mb t m b) M := by
  obtain ⟨s1, s2, s3, s4⟩ := S
  obtain ⟨g1, g2, g3, F⟩ := G
  refine ⟨(fI F 177 28 rfl).trans s1, (fI F 177 30 rfl).trans s2, (fF F 177 31 rfl).trans s3, fun l h0 h1 => ?_⟩
  obtain ⟨a1, a2, a3, a4⟩ := s4 l h0 h1
  obtain ⟨b1, b2⟩ := g3 l h0 h1
  refine ⟨(fJ F 192 _ rfl).trans a1, ?_, ?_, (fJ F 195 _ rfl).trans a4⟩
  · rw [b1]; simp only [tb, a2]
  · have e : tb (fun l => hI h 193 l.toNat) b l = tb t b l := by simp only [tb, a2]
    have e2 : mb (fun l => hI h 193 l.toNat) (fun l => hI h 194 l.toNat) b l = mb t m b l := by
      unfold mb
      rw [e]
      simp only [a3]
    rw [b2, e2]
theorem toNat_i {a b : Int} (h0 : 0 ≤ a) (h1 : 0 ≤ b) : a.toNat = b.toNat ↔ a = b := by omega
theorem GB_b {h : zH} {b x : Int} (hb0 : 0 ≤ b) (hb1 : b < 24) {h2 : zH} (hI1 : ∀ a k, hI h2 a k = if a = 193 ∧ k = b.toNat then hI h 193 b.toNat + 1 else if a = 194 ∧ k = b.toNat then (if hI h 194 b.toNat < hI h 193 b.toNat + 1 then hI h 193 b.toNat + 1 else hI h 194 b.toNat) else if a = 177 ∧ k = 27 then x else hI h a k) (hx : x ≠ -1) (F : Fr scrG h h2) : GB h h2 x b := by
  refine ⟨fun e => absurd e hx, fun _ => ⟨?_, ?_⟩, fun l h0 h1 => ?_, F⟩
  · rw [hI1]; simp
  · rw [hI1]; simp
  · unfold tb mb tb
    rw [hI1, hI1]
    by_cases c : b = l
    · subst c
      simp
    · have c2 : ¬ l.toNat = b.toNat := by omega
      simp [c, c2]
theorem l_goesBehind {s : Int} {h : zH} (M : MB n top R N h) (w : WS n R) (hS : isTS n R sp th) (hC : isCL n R sp cl) (hB : ∀ l : Int, 0 ≤ l → l < 24 → 0 ≤ hI h 193 l.toNat ∧ hI h 193 l.toNat < 1000000) : ∀ (m : Nat) (x : Int), 0 ≤ x → x < n → x < m → th x = th s → cl x = cl s → ∃ h2, zY 274 2 [some (zR (some 177)), some (zI s), some (zI sp), some (zI x)] [] h = some (.inl none, h2) ∧ GB h h2 (th s) (cl s)
  | 0, x, hx0, hx1, hm, ht, hc => by omega
  | m + 1, x, hx0, hx1, hm, ht, hc => by
    obtain ⟨K, m1, m2, m3, m4⟩ := id M
    have w0 := w.1
    have w1 := w.2.1 x hx0 hx1
    have e4 : f_M_s h x 4 = sv R x 4 := by rw [f_M_s_e, m3]
    have e3 : f_M_s h x 3 = sv R x 3 := by rw [f_M_s_e, m3]
    have e0 : f_M_s h (sv R x 3) 0 = sv R (sv R x 3) 0 := by rw [f_M_s_e, m3]
    have hTx := hS x hx0 hx1
    have hCx := hC x hx0 hx1
    rw [q_M_goesBehind_2 K, e4, e3, e0]
    by_cases c4 : sv R x 4 = -1
    · rw [if_pos c4] at hTx hCx ⊢
      rw [tl] at hTx
      by_cases c3 : sv R x 3 = -1
      · rw [if_pos c3]
        rw [if_pos (Or.inl c3)] at hTx hCx
        refine ⟨_, rfl, ?_⟩
        rw [← ht, ← hc, hTx, hCx]
        exact GB_0 (fun _ => by simp [hI_sI, zup]) (fun e => absurd rfl e) (Fr_I (Fr_r _ _) rfl)
      · rw [if_neg c3]
        by_cases c5 : sv R x 3 = sp
        · rw [if_pos c5]
          rw [if_pos (Or.inr c5)] at hTx hCx
          refine ⟨_, rfl, ?_⟩
          rw [← ht, ← hc, hTx, hCx]
          exact GB_0 (fun _ => by simp [hI_sI, zup]) (fun e => absurd rfl e) (Fr_I (Fr_r _ _) rfl)
        · rw [if_neg c5]
          rw [if_neg (by omega)] at hTx hCx
          have hp : 0 ≤ sv R x 3 ∧ sv R x 3 < x := by omega
          by_cases c0 : sv R (sv R x 3) 0 = 2
          · rw [if_pos c0]
            rw [if_pos c0] at hTx hCx
            have hb := hB (sv R x 3) hp.1 (by omega)
            rw [← ht, ← hc, hTx, hCx, gd_t (by omega), gd_t (by omega)]
            by_cases c6 : hI h 194 (sv R x 3).toNat < hI h 193 (sv R x 3).toNat + 1
            · rw [if_pos (by simp only [hI_sI, zup]; simpa using c6)]
              refine ⟨_, rfl, GB_b hp.1 (by omega) (fun a k => ?_) (by omega) (Fr_I (Fr_I (Fr_I (Fr_r _ _) rfl) rfl) rfl)⟩
              simp only [hI_sI, zup]
              by_cases q1 : a = 193
              · subst q1; simp [c6]
              · by_cases q2 : a = 194
                · subst q2; simp [c6]
                · simp [q1, q2]
            · rw [if_neg (by simp only [hI_sI, zup]; simpa using c6)]
              refine ⟨_, rfl, GB_b hp.1 (by omega) (fun a k => ?_) (by omega) (Fr_I (Fr_I (Fr_I (Fr_r _ _) rfl) rfl) rfl)⟩
              simp only [hI_sI, zup]
              by_cases q1 : a = 193
              · subst q1; simp [c6]
              · by_cases q2 : a = 194
                · subst q2; simp [c6]
                · simp [q1, q2]
          · rw [if_neg c0]
            rw [if_neg c0] at hTx hCx
            exact l_goesBehind M w hS hC hB m (sv R x 3) hp.1 (by omega) (by omega) (hTx.symm.trans ht) (hCx.symm.trans hc)
    · rw [if_neg c4] at hTx hCx ⊢
      refine ⟨_, rfl, ?_⟩
      rw [← ht, ← hc, hTx, hCx]
      exact GB_0 (fun e => by omega) (fun _ => by simp [hI_sI, zup]) (Fr_I (Fr_r _ _) rfl)
theorem c_goesBehind {s : Int} {h : zH} (M : MB n top R N h) (w : WS n R) (hS : isTS n R sp th) (hC : isCL n R sp cl) (hB : ∀ l : Int, 0 ≤ l → l < 24 → 0 ≤ hI h 193 l.toNat ∧ hI h 193 l.toNat < 1000000) (h0 : 0 ≤ s) (h1 : s < n) : ∃ h2, zC 274 [zR (some 177), zI s, zI sp] h = some (.inl none, h2) ∧ GB h h2 (th s) (cl s) := by
  rw [q_M_goesBehind M.1]
  exact l_goesBehind M w hS hC hB (s + 1).toNat s h0 h1 (by omega) rfl rfl
theorem c_entersRow {s f : Int} {h : zH} (M : MB n top R N h) (w : WS n R) (hS : isTS n R sp th) (hC : isCL n R sp cl) (hB : ∀ l : Int, 0 ≤ l → l < 24 → 0 ≤ hI h 193 l.toNat ∧ hI h 193 l.toNat < 1000000) (h0 : 0 ≤ s) (h1 : s < n) (ha : hI h 177 27 = s) : ∃ h2, zC 273 [zR (some 177), zI f, zI sp] h = some (.inl none, h2) ∧ GB h h2 (if f = -1 then (if sv R s 0 = 2 then s else th s) else f) (if f = -1 then (if sv R s 0 = 2 then s else cl s) else -1) := by
  obtain ⟨K, m1, m2, m3, m4⟩ := id M
  have w0 := w.1
  have e0 : f_M_s h s 0 = sv R s 0 := by rw [f_M_s_e, m3]
  rw [q_M_entersRow K, ha, e0]
  by_cases cf : f = -1
  · rw [if_pos cf, if_pos cf, if_pos cf]
    by_cases c0 : sv R s 0 = 2
    · rw [if_pos c0, if_pos c0, if_pos c0]
      have hb := hB s h0 (by omega)
      rw [gd_t (by omega), gd_t (by omega)]
      by_cases c6 : hI h 194 s.toNat < hI h 193 s.toNat + 1
      · rw [if_pos (by simp only [hI_sI, zup]; simpa using c6)]
        refine ⟨_, rfl, GB_b h0 (by omega) (fun a k => ?_) (by omega) (Fr_I (Fr_I (Fr_r _ _) rfl) rfl)⟩
        simp only [hI_sI, zup]
        by_cases q1 : a = 193
        · subst q1; simp [c6]
        · by_cases q2 : a = 194
          · subst q2; simp [c6]
          · by_cases q3 : a = 177 ∧ k = 27
            · obtain ⟨rfl, rfl⟩ := q3; simp [ha]
            · simp [q1, q2, q3]
      · rw [if_neg (by simp only [hI_sI, zup]; simpa using c6)]
        refine ⟨_, rfl, GB_b h0 (by omega) (fun a k => ?_) (by omega) (Fr_I (Fr_I (Fr_r _ _) rfl) rfl)⟩
        simp only [hI_sI, zup]
        by_cases q1 : a = 193
        · subst q1; simp [c6]
        · by_cases q2 : a = 194
          · subst q2; simp [c6]
          · by_cases q3 : a = 177 ∧ k = 27
            · obtain ⟨rfl, rfl⟩ := q3; simp [ha]
            · simp [q1, q2, q3]
    · rw [if_neg c0, if_neg c0, if_neg c0]
      obtain ⟨h2, e2, G2⟩ := c_goesBehind M w hS hC hB h0 h1
      rw [e2, q_M_entersRow_r75 (KM_f K G2.2.2.2 rfl)]
      exact ⟨h2, rfl, G2⟩
  · rw [if_neg cf, if_neg cf, if_neg cf]
    exact ⟨_, rfl, GB_0 (fun e => absurd e cf) (fun _ => by simp [hI_sI, zup]) (Fr_I (Fr_r _ _) rfl)⟩
end STEPS2
