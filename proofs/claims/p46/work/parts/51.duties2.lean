/-! The reference: what lessens, which duties fail, which states are wrong. -/
section DUT2
variable {n top : Int} {R N : Nat → Int} {T : Int → Int → Int} {ND : Int → BitVec 64}
def cntK (R : Nat → Int) (kd : Int) (m : Nat) : Int := zsum (fun j => if sv R j 0 = kd then 1 else 0) 0 m
/-- the statement of a kind that has the number l -/
def lpAt (n : Int) (R : Nat → Int) (kd l : Int) : Int := zfind (fun k => sv R k 0 = kd ∧ sv R k 7 = l) 0 n.toNat
/-- loops and holes are numbered in their order -/
def WU (n : Int) (R : Nat → Int) : Prop := ∀ s, 0 ≤ s → s < n → (sv R s 0 = 2 ∨ sv R s 0 = 3 → sv R s 7 = cntK R (sv R s 0) s.toNat) ∧ (sv R s 0 = 0 ∨ sv R s 0 = 1 → sv R s 7 = -1)
theorem cntK_s (R : Nat → Int) (kd : Int) (m : Nat) : cntK R kd (m + 1) = cntK R kd m + if sv R m 0 = kd then 1 else 0 := by
  unfold cntK
  rw [zsum_last, Int.zero_add]
theorem cntK_b (R : Nat → Int) (kd : Int) : ∀ (m : Nat), 0 ≤ cntK R kd m ∧ cntK R kd m ≤ m
  | 0 => ⟨Int.le_refl _, Int.le_refl _⟩
  | m + 1 => by
    have := cntK_b R kd m
    rw [cntK_s]
    split <;> omega
theorem cntK_m (R : Nat → Int) (kd : Int) (m : Nat) : ∀ (d : Nat), cntK R kd m ≤ cntK R kd (m + d)
  | 0 => Int.le_refl _
  | d + 1 => by
    have := cntK_m R kd m d
    rw [← Nat.add_assoc, cntK_s]
    split <;> omega
theorem cntK_ex (R : Nat → Int) (kd : Int) : ∀ (m : Nat) (l : Int), 0 ≤ l → l < cntK R kd m → ∃ s : Nat, s < m ∧ sv R s 0 = kd ∧ cntK R kd s = l
  | 0, l, h0, h1 => by
    have : cntK R kd 0 = 0 := rfl
    omega
  | m + 1, l, h0, h1 => by
    rw [cntK_s] at h1
    by_cases c : l < cntK R kd m
    · obtain ⟨s, g1, g2, g3⟩ := cntK_ex R kd m l h0 c
      exact ⟨s, by omega, g2, g3⟩
    · by_cases g : sv R m 0 = kd
      · rw [if_pos g] at h1
        exact ⟨m, by omega, g, by omega⟩
      · rw [if_neg g] at h1
        omega
theorem lpAt_ok (hu : WU n R) (hn : 0 ≤ n) {kd : Int} (hk : kd = 2 ∨ kd = 3) {l : Int} (h0 : 0 ≤ l) (h1 : l < cntK R kd n.toNat) : (0 ≤ lpAt n R kd l ∧ lpAt n R kd l < n) ∧ sv R (lpAt n R kd l) 0 = kd ∧ sv R (lpAt n R kd l) 7 = l := by
  obtain ⟨s, g1, g2, g3⟩ := cntK_ex R kd n.toNat l h0 h1
  have g4 := (hu s (by omega) (by omega)).1 (by omega)
  rw [g2, Int.toNat_natCast, g3] at g4
  have g5 := zfind_least (p := fun k => sv R k 0 = kd ∧ sv R k 7 = l) n.toNat 0 s (by omega) (by omega) ⟨g2, g4⟩
  rcases zfind_r (p := fun k => sv R k 0 = kd ∧ sv R k 7 = l) n.toNat 0 with h | ⟨q1, q2, q3⟩
  · omega
  · exact ⟨⟨q1, by unfold lpAt; omega⟩, q3⟩
theorem lpAt_no (hu : WU n R) (hn : 0 ≤ n) {kd : Int} (hk : kd = 2 ∨ kd = 3) {l : Int} (h : l < 0 ∨ cntK R kd n.toNat ≤ l) : lpAt n R kd l = -1 := by
  rcases zfind_r (p := fun k => sv R k 0 = kd ∧ sv R k 7 = l) n.toNat 0 with q | ⟨q1, q2, q3, q4⟩
  · exact q
  · exfalso
    have g4 := (hu _ q1 (by omega)).1 (by rw [q3]; omega)
    rw [q3, q4] at g4
    generalize zfind (fun k => sv R k 0 = kd ∧ sv R k 7 = l) 0 n.toNat = s at *
    have g5 := cntK_b R kd s.toNat
    have g6 := cntK_m R kd (s.toNat + 1) (n.toNat - (s.toNat + 1))
    rw [show s.toNat + 1 + (n.toNat - (s.toNat + 1)) = n.toNat by omega, cntK_s, show ((s.toNat : Nat) : Int) = s by omega, if_pos q3] at g6
    omega
/-- a program's meaning: the ends and the needs -/
def Sem (n top : Int) (R N : Nat → Int) (T : Int → Int → Int) (ND : Int → BitVec 64) : Prop := WS n R ∧ WN n R N ∧ WU n R ∧ isET n R N T ∧ isND n R N (thn R) ND ∧ ((n = 0 ∧ top = -1) ∨ (0 < n ∧ top = 0))
theorem Sem_top (S : Sem n top R N T ND) : top = -1 ∨ 0 ≤ top ∧ top < n := by have := S.2.2.2.2.2; omega
theorem par_0 (w : WS n R) (h : 0 < n) : sv R 0 3 = -1 := by have := (w.2.1 0 (by omega) h).2.2.1; omega
def E0 (R : Nat → Int) (T : Int → Int → Int) (top st : Int) : Int := rowE T R top st
theorem runD_top (S : Sem n top R N T ND) {st : Int} (h2 : 0 ≤ st) (h3 : st < 64) : ∃ D, RunD R N (thn R) (-1) (top, st) D (E0 R T top st) ∧ (top = -1 → D = 0 ∧ E0 R T top st = st) := by
  obtain ⟨w, v, hu, hE, hN, ht⟩ := S
  rcases ht with ⟨t1, t2⟩ | ⟨t1, t2⟩
  · have e : E0 R T top st = st := by rw [E0, t2, rowE_n]
    refine ⟨0, ?_, fun _ => ⟨rfl, e⟩⟩
    rw [e, t2]
    exact runD_0 st (by omega)
  · obtain ⟨D, hD⟩ := runD_row (c := top) w v hE (isTS_t w (-1)) (by omega) (by omega) h2 h3 (by omega) (by rw [t2, par_0 w t1, tl, if_pos (Or.inl rfl)])
    exact ⟨D, hD, fun e => by omega⟩
/-- in a loop's row from a state LESS is less at the end -/
def lsS (R N : Nat → Int) (T : Int → Int → Int) (s st : Int) : Bool := decide (rowE T R (sv R s 5) st ≠ -1 ∧ val (lst N (50 + s)) (rowE T R (sv R s 5) st) < val (lst N (50 + s)) st)
def unS (R N : Nat → Int) (T : Int → Int → Int) (s : Int) (among : BitVec 64) : BitVec 64 := bset fun st => bt among st && !lsS R N T s st
/-- the states for which a duty fails -/
def flS (n top : Int) (R N : Nat → Int) (T : Int → Int → Int) (ND : Int → BitVec 64) (d : Int) : BitVec 64 :=
  if d = 0 then setL (lst N 0) &&& ~~~ ahd N ND top
  else if (d - 1) % 3 = 0 then (setL (lst N (26 + lpAt n R 2 ((d - 1) / 3))) &&& setL (lst N (2 + lpAt n R 2 ((d - 1) / 3)))) &&& ~~~ rwN ND (sv R (lpAt n R 2 ((d - 1) / 3)) 5) (setL (lst N (26 + lpAt n R 2 ((d - 1) / 3))))
  else if (d - 1) % 3 = 1 then (setL (lst N (26 + lpAt n R 2 ((d - 1) / 3))) &&& ~~~ setL (lst N (2 + lpAt n R 2 ((d - 1) / 3)))) &&& ~~~ ahd N ND (thn R (lpAt n R 2 ((d - 1) / 3)))
  else unS R N T (lpAt n R 2 ((d - 1) / 3)) (setL (lst N (26 + lpAt n R 2 ((d - 1) / 3))) &&& setL (lst N (2 + lpAt n R 2 ((d - 1) / 3))))
def dmS (n : Int) (R : Nat → Int) : Int := 1 + 3 * cntK R 2 n.toNat
def nfS (n top : Int) (R N : Nat → Int) (T : Int → Int → Int) (ND : Int → BitVec 64) : Int := zsum (fun d => if flS n top R N T ND d = 0#64 then 0 else 1) 0 (dmS n R).toNat
/-- the states of BEFORE that come to no end in AFTER -/
def wgS (R N : Nat → Int) (T : Int → Int → Int) (top : Int) : BitVec 64 := bset fun st => bt (setL (lst N 0)) st && !(decide (E0 R T top st ≠ -1) && bt (setL (lst N 1)) (E0 R T top st))
end DUT2

