/-! What the law's adds checks, without the machine. -/
section ADP
variable {n top : Int} {R N : Nat → Int}
theorem zfind_last {p : Int → Prop} [DecidablePred p] : ∀ (k : Nat) (a : Int), 0 ≤ a → zfind p a (k + 1) = if zfind p a k = -1 then (if p (a + k) then a + k else -1) else zfind p a k
  | 0, a, h0 => by
    rw [show a + ((0 : Nat) : Int) = a from by omega, show zfind p a 0 = -1 from rfl, if_pos rfl]
    rfl
  | k + 1, a, h0 => by
    have ih := zfind_last (p := p) k (a + 1) (by omega)
    rw [show a + 1 + (k : Int) = a + ((k + 1 : Nat) : Int) from by omega] at ih
    rw [zfind]
    by_cases c : p a
    · rw [if_pos c, show zfind p a (k + 1) = a from if_pos c, if_neg (by omega)]
    · rw [if_neg c, ih, show zfind p a (k + 1) = zfind p (a + 1) k from if_neg c]
/-- duties that fail among the first k; the first of them -/
def fA (n top : Int) (R N : Nat → Int) (k : Nat) : Int := zsum (fun d => if flC n top R N d = 0#64 then 0 else 1) 0 k
def fG (n top : Int) (R N : Nat → Int) (k : Nat) : Int := zfind (fun d => ¬ flC n top R N d = 0#64) 0 k
theorem fA_b (k : Nat) : 0 ≤ fA n top R N k ∧ fA n top R N k ≤ k := by
  have := zsum_b (f := fun d => if flC n top R N d = 0#64 then 0 else 1) (u := 1) (fun k => by split <;> omega) k 0
  unfold fA
  omega
theorem fA_z {k : Nat} (e : flC n top R N k = 0#64) : fA n top R N (k + 1) = fA n top R N k := by
  unfold fA
  rw [zsum_last, Int.zero_add, if_pos e, Int.add_zero]
theorem fA_n {k : Nat} (e : ¬ flC n top R N k = 0#64) : fA n top R N (k + 1) = fA n top R N k + 1 := by
  unfold fA
  rw [zsum_last, Int.zero_add, if_neg e]
theorem fF_z {k : Nat} (e : flC n top R N k = 0#64) : fG n top R N (k + 1) = fG n top R N k := by
  unfold fG
  rw [zfind_last k 0 (Int.le_refl _), Int.zero_add]
  split
  · rename_i q
    rw [q]
  · rfl
theorem fF_n {k : Nat} (e : ¬ flC n top R N k = 0#64) : fG n top R N (k + 1) = if fG n top R N k < 0 then (k : Int) else fG n top R N k := by
  unfold fG
  rw [zfind_last k 0 (Int.le_refl _), Int.zero_add]
  rcases zfind_r (p := fun d => ¬ flC n top R N d = 0#64) k 0 with q | ⟨q, _, _⟩
  · rw [if_pos q, if_pos e, if_pos (by omega)]
  · rw [if_neg (by omega), if_neg (by omega)]
theorem sub_e {x y : BitVec 64} (h : ∀ s, 0 ≤ s → s < 64 → bt x s = true → bt y s = true) : x &&& ~~~ y = 0#64 := by
  refine bt_ext fun s h0 h1 => ?_
  rw [bt_0, bt_and, bt_not y h0 h1]
  cases c : bt x s with
  | false => rfl
  | true => rw [h s h0 h1 c]; rfl
theorem fl_sub0 : flC n top R N 0 &&& ~~~ setL (lst N 0) = 0#64 := by
  unfold flC flS
  rw [if_pos rfl]
  refine sub_e fun s h0 h1 h => ?_
  rw [bt_and, Bool.and_eq_true] at h
  exact h.1
theorem fl_subk {k : Int} (hk : k ≠ 0) : flC n top R N k &&& ~~~ setL (lst N (26 + lpAt n R 2 ((k - 1) / 3))) = 0#64 := by
  unfold flC flS
  rw [if_neg hk]
  refine sub_e fun s h0 h1 h => ?_
  by_cases c : (k - 1) % 3 = 0
  · rw [if_pos c, bt_and, bt_and, Bool.and_eq_true, Bool.and_eq_true] at h
    exact h.1.1
  · rw [if_neg c] at h
    by_cases d : (k - 1) % 3 = 1
    · rw [if_pos d, bt_and, bt_and, Bool.and_eq_true, Bool.and_eq_true] at h
      exact h.1.1
    · rw [if_neg d] at h
      unfold unS at h
      rw [bt_set _ h0 h1, bt_and, Bool.and_eq_true, Bool.and_eq_true] at h
      exact h.1.1
theorem least_0 : f_M_leastOf 0#64 = -1 := by rw [← leastc_e' 0#64]; rfl
theorem dm_lp {k : Int} (k0 : 0 < k) (k1 : k < dmS n R) : 0 ≤ (k - 1) / 3 ∧ (k - 1) / 3 < cntK R 2 n.toNat := by
  unfold dmS at k1
  omega
theorem ahd_top (Q : Prg n top R N) : ahd N (NN n R N) top = if n = 0 then setL (lst N 1) else NN n R N 0 := by
  rcases Q.2.2.2 with ⟨a, b⟩ | ⟨a, b⟩
  · rw [if_pos a, b]; exact if_pos rfl
  · rw [if_neg (by omega), b]; exact if_neg (by decide)
theorem EC_rr (Q : Prg n top R N) {x : Int} (x0 : 0 ≤ x) (x1 : x < 64) : -1 ≤ EC n top R N x ∧ EC n top R N x < 64 := by
  have w0 := Q.1.1
  exact rowE_r Q.1 Q.2.1 (isET_t Q.1 Q.2.1) (by have := Q.2.2.2; omega) (by omega) x1
theorem co_pos (Q : Prg n top R N) {x : Int} (x0 : 0 ≤ x) (x1 : x < 64) (hE : EC n top R N x ≠ -1) : fpos (coC R N top x) := by
  obtain ⟨D, hD, _⟩ := runD_top (Prg_S Q) x0 x1
  have e := dT_e hD
  subst e
  exact coC_p Q x0 x1 hE hD
theorem cst_e {x : Int} (hE : EC n top R N x ≠ -1) : cstS n top R N x = coC R N top x := if_neg hE
theorem me_pos (Q : Prg n top R N) : ∀ k : Nat, k ≤ 64 → dpos (meA n top R N k).1
  | 0, _ => dpos_0
  | k + 1, hk => by
    rw [meA]
    split
    · rename_i q
      exact dpos_add (me_pos Q k (by omega)) (dpos_f2d (co_pos Q (by omega) (by omega) q.2))
    · exact me_pos Q k (by omega)
theorem fc_self {x : UInt32} {k : ClassFile.CmpOp} (h : fpos x) : (Op.cmpValue (FP.fcmp x x) k).toInt = 0 := (fcmp_i (fpos_to h).1 (fpos_to h).1 (by unfold fpos at h; omega) (by unfold fpos at h; omega)).2.2.2 rfl
theorem dc_self {x : UInt64} {k : ClassFile.CmpOp} (h : dpos x) : (Op.cmpValue (FP.dcmp x x) k).toInt = 0 := (dcmp_i (dpos_to h).1 (dpos_to h).1 (by unfold dpos at h; omega) (by unfold dpos at h; omega)).2.2.2 rfl
theorem fc_0 {x : UInt32} {k : ClassFile.CmpOp} (h : fpos x) : ¬ (Op.cmpValue (FP.fcmp x FP.fconst0) k).toInt < 0 := fun q => by
  have := (fcmp_i (fpos_to h).1 (fpos_to fpos_0).1 (by unfold fpos at h; omega) (by decide)).1.1 q
  exact absurd this (Nat.not_lt_zero _)
theorem fc_m1 : (Op.cmpValue (FP.fcmp 3212836864 FP.fconst0) .g).toInt < 0 := by decide +kernel
theorem men_pos (Q : Prg n top R N) : dpos (menS n top R N) := by
  unfold menS
  have b := meA_b n top R N 64
  by_cases q : (meA n top R N 64).2 = 0
  · rw [if_pos q]; exact dpos_0
  · rw [if_neg q]; exact dpos_div (me_pos Q 64 (Nat.le_refl _)) (by omega) (by omega)
theorem wg_bt (Q : Prg n top R N) {x : Int} (x0 : 0 ≤ x) (x1 : x < 64) : bt (wgC n top R N) x = (bt (setL (lst N 0)) x && !(decide (EC n top R N x ≠ -1) && bt (setL (lst N 1)) (EC n top R N x))) := by
  unfold wgC wgS
  rw [bt_set _ x0 x1]
theorem dr_inv (k : Nat) : (drA n top R N k).1 = -1 ∨ (0 ≤ (drA n top R N k).1 ∧ (drA n top R N k).1 < k ∧ EC n top R N (drA n top R N k).1 ≠ -1 ∧ (drA n top R N k).2 = coC R N top (drA n top R N k).1) := by
  induction k with
  | zero => exact Or.inl rfl
  | succ k ih =>
    rw [drA]
    split
    · rename_i q
      exact Or.inr ⟨by show (0 : Int) ≤ (k : Int); omega, by show (k : Int) < ((k + 1 : Nat) : Int); omega, q.2.1, rfl⟩
    · rcases ih with a | a
      · exact Or.inl a
      · exact Or.inr ⟨a.1, by omega, a.2.2⟩
theorem mtS_s {p : Int × Int} {m : Int → BitVec 64} {l x : Int} (h : bt (m l) x = true) : bt (mtS p m l) x = true := by
  unfold mtS
  split
  · rw [bt_or, h]; rfl
  · exact h
theorem mtT_s {th : Int → Int} {al l x : Int} {p : Int × Int} {m0 : Int → BitVec 64} (h : bt (m0 l) x = true) : ∀ k, bt (mtT R N th al p m0 k l) x = true
  | 0 => h
  | k + 1 => mtS_s (mtT_s h k)
theorem mtT_1 {th : Int → Int} {al l x : Int} {m0 : Int → BitVec 64} (x0 : 0 ≤ x) (x1 : x < 64) : ∀ k, bt (mtT R N th al (l, x) m0 (k + 1) l) x = true
  | 0 => by
    show bt (mtS (l, x) m0 l) x = true
    unfold mtS
    rw [if_pos rfl, bt_or, bt_1 x0 x1 x0 x1, decide_eq_true rfl, Bool.or_true]
  | k + 1 => mtS_s (mtT_1 x0 x1 k)
theorem dT_1 (Q : Prg n top R N) (hn : 0 < n) {x : Int} (x0 : 0 ≤ x) (x1 : x < 64) : 0 < dT R N top x := by
  obtain ⟨D, hD, _⟩ := runD_top (Prg_S Q) x0 x1
  have e := dT_e hD
  rw [← e]
  rcases Nat.eq_zero_or_pos D with z | z
  · exfalso
    subst z
    have t0 : top = 0 := by
      have := Q.2.2.2
      omega
    rcases hD.1.2.1 with a | ⟨_, a⟩
    · have a : top = -1 := a
      omega
    · have a : bt 0#64 x = true := a
      rw [bt_0] at a
      cases a
  · exact z
theorem met_k (Q : Prg n top R N) (hn : 0 < n) : ∀ (k : Nat), k ≤ 64 → ∀ x : Int, 0 ≤ x → x < k → bt (setL (lst N 0)) x = true → bt (mtA n top R N k 0) x = true
  | 0, _, x, x0, x1, _ => by omega
  | k + 1, hk, x, x0, x1, hb => by
    have t0 : top = 0 := by
      have := Q.2.2.2
      omega
    rw [mtA]
    by_cases e : x = k
    · subst e
      rw [if_pos hb]
      have d := dT_1 Q hn (x := (k : Int)) (by omega) (by omega)
      obtain ⟨q, hq⟩ : ∃ q, dT R N top (k : Int) + (if EC n top R N (k : Int) = -1 then 1 else 0) = q + 1 := ⟨dT R N top (k : Int) + (if EC n top R N (k : Int) = -1 then 1 else 0) - 1, by omega⟩
      rw [hq]
      have r := mtT_1 (R := R) (N := N) (th := thn R) (al := -1) (l := 0) (x := (k : Int)) (m0 := mtA n top R N k) (by omega) (by omega) q
      rw [t0] at r ⊢
      exact r
    · have ih := met_k Q hn k (by omega) x x0 (by omega) hb
      split
      · exact mtT_s ih _
      · exact ih
theorem met_sub (Q : Prg n top R N) (hn : 0 < n) : mtA n top R N 64 0 &&& setL (lst N 0) = setL (lst N 0) := by
  refine bt_ext fun x x0 x1 => ?_
  rw [bt_and]
  cases c : bt (setL (lst N 0)) x with
  | false => rw [Bool.and_false]
  | true => rw [met_k Q hn 64 (Nat.le_refl _) x x0 x1 c]; rfl
end ADP
