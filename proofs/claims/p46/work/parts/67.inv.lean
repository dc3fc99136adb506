/-! What stands while a text is read. -/
section INV
variable {n top row sec last : Int} {R R2 : Nat → Int}
theorem sv_up {s k a j : Int} {v : Int} (h0 : 0 ≤ s) (h1 : 0 ≤ k ∧ k < 10) (h2 : 0 ≤ a) (h3 : 0 ≤ j ∧ j < 10) : sv (upN R (10 * a + j).toNat v) s k = if s = a ∧ k = j then v else sv R s k := by
  unfold sv upN
  by_cases c : s = a ∧ k = j
  · rw [if_pos c, if_pos (by rw [c.1, c.2])]
  · rw [if_neg c, if_neg (by omega)]
def nx (R : Nat → Int) : Nat → Int → Int
  | 0, h => h
  | k + 1, h => if nx R k h = -1 then -1 else sv R (nx R k h) 4
/-- a row of so many statements begins at h -/
def CL (R : Nat → Int) (h c : Int) : Prop := 0 ≤ c ∧ nx R c.toNat h = -1 ∧ ∀ k : Nat, k < c → nx R k h ≠ -1
/-- x stands in the row that begins at h -/
def hasM (R : Nat → Int) (h x : Int) : Prop := ∃ k, nx R k h = x
def hdP (n : Int) (R : Nat → Int) (row sec : Int) : Int := if row = -1 then (if n = 0 then -1 else 0) else sv R row (5 + sec)
def IVR (n top : Int) (R : Nat → Int) (row sec last : Int) : Prop :=
  WS n R ∧ WU n R ∧ ((n = 0 ∧ top = -1) ∨ (0 < n ∧ top = 0))
  ∧ (row = -1 ∨ (0 ≤ row ∧ row < n ∧ (sv R row 0 = 1 ∨ sv R row 0 = 2)))
  ∧ (sec = 0 ∨ (sec = 1 ∧ row ≠ -1 ∧ sv R row 0 = 1))
  ∧ ((last = -1 ∧ hdP n R row sec = -1) ∨ (0 ≤ last ∧ last < n ∧ sv R last 3 = row ∧ sv R last 4 = -1 ∧ hasM R (hdP n R row sec) last))
  ∧ (row ≠ -1 → sec = 0 → sv R row 6 = -1)
  ∧ (∀ k, up R k row ≠ -1 → sv R (up R k row) 4 = -1 ∧ (sv R (up R k row) 3 ≠ -1 → sv R (sv R (up R k row) 3) 6 = -1 ∨ hasM R (sv R (sv R (up R k row) 3) 6) (up R k row)))
  ∧ (∀ s, 0 ≤ s → s < n → sv R s 6 ≠ -1 → ∀ k, nx R k (sv R s 5) < sv R s 6)
  ∧ (∀ s, 0 ≤ s → s < n → sv R s 2 = (if sv R s 3 = -1 then 0 else sv R (sv R s 3) 2 + 1) ∧ CL R (sv R s 5) (sv R s 8) ∧ CL R (sv R s 6) (sv R s 9) ∧ ∃ b, (b = 0 ∨ b = 1) ∧ (sv R s 3 = -1 → b = 0) ∧ hasM R (hdP n R (sv R s 3) b) s)
/-- rows as they stand behind a new statement -/
def newR (kd v n row sec last : Int) (R R2 : Nat → Int) : Prop :=
  (∀ s k, 0 ≤ s → s ≠ n → 0 ≤ k → k < 10 → sv R2 s k = if last ≠ -1 ∧ s = last ∧ k = 4 then n else if last = -1 ∧ row ≠ -1 ∧ s = row ∧ k = 5 + sec then n else if row ≠ -1 ∧ s = row ∧ k = 8 + sec then sv R row (8 + sec) + 1 else sv R s k)
  ∧ (∀ k, 0 ≤ k → k < 10 → sv R2 n k = if k = 0 then kd else if k = 1 then v else if k = 2 then (if row = -1 then 0 else sv R row 2 + 1) else if k = 3 then row else if k = 7 then (if kd = 2 ∨ kd = 3 then cntK R kd n.toNat else -1) else if k = 8 ∨ k = 9 then 0 else -1)
theorem nx_neg (R : Nat → Int) : ∀ (k : Nat), nx R k (-1) = -1
  | 0 => rfl
  | k + 1 => by rw [nx, nx_neg R k, if_pos rfl]
theorem nx_add (R : Nat → Int) (j : Nat) (h : Int) : ∀ (k : Nat), nx R (j + k) h = nx R k (nx R j h)
  | 0 => rfl
  | k + 1 => by
    show nx R (j + k + 1) h = nx R (k + 1) (nx R j h)
    rw [nx, nx, nx_add R j h k]
/-- members of a row come one behind the other -/
theorem nx_r (w : WS n R) {h : Int} (hh : h = -1 ∨ 0 ≤ h ∧ h < n) : ∀ (k : Nat), nx R k h = -1 ∨ (h + k ≤ nx R k h ∧ 0 ≤ nx R k h ∧ nx R k h < n)
  | 0 => by
    show h = -1 ∨ h + ((0 : Nat) : Int) ≤ h ∧ 0 ≤ h ∧ h < n
    omega
  | k + 1 => by
    have ih := nx_r w hh k
    rw [nx]
    by_cases c : nx R k h = -1
    · rw [if_pos c]; exact Or.inl rfl
    · rw [if_neg c]
      have w1 := (w.2.1 (nx R k h) (by omega) (by omega)).2.2.2.1
      omega
theorem nx_par (w : WS n R) {h p : Int} (hh : h = -1 ∨ 0 ≤ h ∧ h < n ∧ sv R h 3 = p) : ∀ (k : Nat), nx R k h = -1 ∨ sv R (nx R k h) 3 = p
  | 0 => by
    show h = -1 ∨ sv R h 3 = p
    omega
  | k + 1 => by
    have ih := nx_par w hh k
    have ir := nx_r (h := h) w (by omega) k
    rw [nx]
    by_cases c : nx R k h = -1
    · rw [if_pos c]; exact Or.inl rfl
    · rw [if_neg c]
      have w1 := (w.2.1 (nx R k h) (by omega) (by omega)).2.2.2.1
      omega
theorem CL_neg {c : Int} (H : CL R (-1) c) : c = 0 := by
  by_cases q : c = 0
  · exact q
  · exact absurd (nx_neg R 0) (H.2.2 0 (by have := H.1; omega))
theorem CL_24 (w : WS n R) {h c : Int} (hh : h = -1 ∨ 0 ≤ h ∧ h < n) (H : CL R h c) : c ≤ 24 := by
  have w0 := w.1
  rcases hh with rfl | hh
  · have := CL_neg H; omega
  · by_cases q : c ≤ 24
    · exact q
    · have h1 := H.2.2 24 (by omega)
      have h2 := nx_r w (Or.inr hh) 24
      omega
theorem up_rng (w : WS n R) {s : Int} (h : s = -1 ∨ 0 ≤ s ∧ s < n) : ∀ (k : Nat), up R k s = -1 ∨ (0 ≤ up R k s ∧ up R k s < n ∧ up R k s ≤ s)
  | 0 => by show s = -1 ∨ 0 ≤ s ∧ s < n ∧ s ≤ s; omega
  | k + 1 => by
    have ih := up_rng w h k
    rw [up]
    by_cases c : up R k s = -1
    · rw [if_pos c]; exact Or.inl rfl
    · rw [if_neg c]
      have w1 := (w.2.1 (up R k s) (by omega) (by omega)).2.2.1
      omega
theorem up_par (R : Nat → Int) {s : Int} (h : s ≠ -1) : ∀ (k : Nat), up R (k + 1) s = up R k (sv R s 3)
  | 0 => by
    show (if s = -1 then -1 else sv R s 3) = sv R s 3
    rw [if_neg h]
  | k + 1 => by
    rw [up, up_par R h k]
    rfl
section NEW
variable {kd v : Int}
theorem new_o (e : newR kd v n row sec last R R2) (hs : sec = 0 ∨ sec = 1) {s k : Int} (h0 : 0 ≤ s) (h1 : s < n) (h2 : 0 ≤ k) (h3 : k < 8) (h4 : k ≠ 4) (h5 : k ≠ 5 + sec) : sv R2 s k = sv R s k := by
  rw [e.1 s k h0 (by omega) h2 (by omega), if_neg (fun q => h4 q.2.2), if_neg (fun q => h5 q.2.2.2), if_neg (fun q => by have := q.2.2; omega)]
theorem new_4 (e : newR kd v n row sec last R R2) (hs : sec = 0 ∨ sec = 1) {s : Int} (h0 : 0 ≤ s) (h1 : s < n) (h4 : s ≠ last) : sv R2 s 4 = sv R s 4 := by
  rw [e.1 s 4 h0 (by omega) (by omega) (by omega), if_neg (fun q => h4 q.2.1), if_neg (fun q => by have := q.2.2.2; omega), if_neg (fun q => by have := q.2.2; omega)]
theorem new_h (e : newR kd v n row sec last R R2) (hs : sec = 0 ∨ sec = 1) {s k : Int} (h0 : 0 ≤ s) (h1 : s < n) (h2 : k = 5 ∨ k = 6) (h5 : ¬ (last = -1 ∧ row ≠ -1 ∧ s = row ∧ k = 5 + sec)) : sv R2 s k = sv R s k := by
  rw [e.1 s k h0 (by omega) (by omega) (by omega), if_neg (fun q => by have := q.2.2; omega), if_neg h5, if_neg (fun q => by have := q.2.2; omega)]
theorem new_up (w : WS n R) (e : newR kd v n row sec last R R2) (hs : sec = 0 ∨ sec = 1) {s : Int} (h : s = -1 ∨ 0 ≤ s ∧ s < n) : ∀ (k : Nat), up R2 k s = up R k s
  | 0 => rfl
  | k + 1 => by
    have ih := new_up w e hs h k
    have ir := up_rng w h k
    rw [up, up, ih]
    by_cases c : up R k s = -1
    · rw [if_pos c, if_pos c]
    · rw [if_neg c, if_neg c]
      exact new_o e hs (by omega) (by omega) (by omega) (by omega) (by omega) (by omega)
/-- what stood of a row stands on -/
theorem nx_new (w : WS n R) (e : newR kd v n row sec last R R2) (hs : sec = 0 ∨ sec = 1) (hl : last = -1 ∨ 0 ≤ last ∧ last < n ∧ sv R last 4 = -1) {h : Int} (hh : h = -1 ∨ 0 ≤ h ∧ h < n) : ∀ (k : Nat), nx R k h ≠ -1 → nx R2 k h = nx R k h
  | 0, _ => rfl
  | k + 1, c => by
    rw [nx] at c
    rw [nx, nx]
    by_cases d : nx R k h = -1
    · rw [if_pos d] at c; exact absurd rfl c
    · rw [if_neg d] at c
      have ir := nx_r w hh k
      have ih := nx_new w e hs hl hh k d
      rw [ih, if_neg d, if_neg d]
      exact new_4 e hs (by omega) (by omega) (fun q => by rw [q] at c; omega)
theorem nx_same (w : WS n R) (e : newR kd v n row sec last R R2) (hs : sec = 0 ∨ sec = 1) {h : Int} (hh : h = -1 ∨ 0 ≤ h ∧ h < n) (hn : ∀ k, nx R k h = -1 ∨ nx R k h ≠ last) : ∀ (k : Nat), nx R2 k h = nx R k h
  | 0 => rfl
  | k + 1 => by
    have ih := nx_same w e hs hh hn k
    have ir := nx_r w hh k
    rw [nx, nx, ih]
    by_cases d : nx R k h = -1
    · rw [if_pos d, if_pos d]
    · rw [if_neg d, if_neg d]
      exact new_4 e hs (by omega) (by omega) ((hn k).resolve_left d)
theorem CL_same {h c : Int} (hn : ∀ k, nx R2 k h = nx R k h) (H : CL R h c) : CL R2 h c := ⟨H.1, by rw [hn]; exact H.2.1, fun k q => by rw [hn]; exact H.2.2 k q⟩
theorem nx_end {h : Int} {a : Nat} (H : nx R a h = -1) : ∀ (k : Nat), nx R (a + k) h = -1
  | 0 => H
  | k + 1 => by
    show nx R (a + k + 1) h = -1
    rw [nx, nx_end H k, if_pos rfl]
theorem cntK_congr {kd : Int} {m : Nat} (h : ∀ s : Int, 0 ≤ s → s < m → sv R2 s 0 = sv R s 0) : cntK R2 kd m = cntK R kd m := by
  unfold cntK
  exact zsum_congr _ _ fun k a b => by rw [h k a (by omega)]
theorem IVR_new (V : IVR n top R row sec last) (e : newR kd v n row sec last R R2) (hn : n < 24) (hk : 0 ≤ kd ∧ kd ≤ 3) (hv : kd = 0 → 0 ≤ v ∧ v ≤ 2) : IVR (n + 1) 0 R2 row sec n := by
  obtain ⟨w, u, ht, hrow, hsec, hlast, h6, hop, hdj, hall⟩ := V
  have w0 := w.1
  have hs : sec = 0 ∨ sec = 1 := by omega
  have hl : last = -1 ∨ 0 ≤ last ∧ last < n ∧ sv R last 4 = -1 := by omega
  have o0 : ∀ s k, 0 ≤ s → s < n → 0 ≤ k → k < 8 → k ≠ 4 → k ≠ 5 → k ≠ 6 → sv R2 s k = sv R s k := fun s k a b c d f g i => new_o e hs a b c d f (by omega)
  have nw : ∀ k, 0 ≤ k → k < 10 → sv R2 n k = if k = 0 then kd else if k = 1 then v else if k = 2 then (if row = -1 then 0 else sv R row 2 + 1) else if k = 3 then row else if k = 7 then (if kd = 2 ∨ kd = 3 then cntK R kd n.toNat else -1) else if k = 8 ∨ k = 9 then 0 else -1 := e.2
  have n0 : sv R2 n 0 = kd := by rw [nw 0 (by omega) (by omega)]; rfl
  have n1 : sv R2 n 1 = v := by rw [nw 1 (by omega) (by omega)]; rfl
  have n2 : sv R2 n 2 = if row = -1 then 0 else sv R row 2 + 1 := by rw [nw 2 (by omega) (by omega)]; rfl
  have n3 : sv R2 n 3 = row := by rw [nw 3 (by omega) (by omega)]; rfl
  have n4 : sv R2 n 4 = -1 := by rw [nw 4 (by omega) (by omega)]; rfl
  have n5 : sv R2 n 5 = -1 := by rw [nw 5 (by omega) (by omega)]; rfl
  have n6 : sv R2 n 6 = -1 := by rw [nw 6 (by omega) (by omega)]; rfl
  have n7 : sv R2 n 7 = if kd = 2 ∨ kd = 3 then cntK R kd n.toNat else -1 := by rw [nw 7 (by omega) (by omega)]; rfl
  have n8 : sv R2 n 8 = 0 := by rw [nw 8 (by omega) (by omega)]; rfl
  have n9 : sv R2 n 9 = 0 := by rw [nw 9 (by omega) (by omega)]; rfl
  have o4 : ∀ s, 0 ≤ s → s < n → sv R2 s 4 = if s = last then n else sv R s 4 := fun s a b => by
    by_cases c : s = last
    · rw [if_pos c, e.1 s 4 a (by omega) (by omega) (by omega), if_pos ⟨by omega, c, rfl⟩]
    · rw [if_neg c, new_4 e hs a b c]
  have oh : ∀ s b, 0 ≤ s → s < n → (b = 0 ∨ b = 1) → sv R2 s (5 + b) = if last = -1 ∧ s = row ∧ b = sec then n else sv R s (5 + b) := fun s b a c d => by
    by_cases q : last = -1 ∧ s = row ∧ b = sec
    · rw [if_pos q, e.1 s _ a (by omega) (by omega) (by omega), if_neg (fun z => z.1 q.1), if_pos ⟨q.1, by omega, q.2.1, by omega⟩]
    · rw [if_neg q]
      exact new_h e hs a c (by omega) (fun z => q ⟨z.1, z.2.2.1, by omega⟩)
  have o5 : ∀ s, 0 ≤ s → s < n → sv R2 s 5 = if last = -1 ∧ s = row ∧ 0 = sec then n else sv R s 5 := fun s a b => oh s 0 a b (Or.inl rfl)
  have o6 : ∀ s, 0 ≤ s → s < n → sv R2 s 6 = if last = -1 ∧ s = row ∧ 1 = sec then n else sv R s 6 := fun s a b => oh s 1 a b (Or.inr rfl)
  have o89 : ∀ s b, 0 ≤ s → s < n → (b = 0 ∨ b = 1) → sv R2 s (8 + b) = if s = row ∧ b = sec then sv R s (8 + b) + 1 else sv R s (8 + b) := fun s b a c d => by
    rw [e.1 s _ a (by omega) (by omega) (by omega), if_neg (fun z => by have := z.2.2; omega), if_neg (fun z => by have := z.2.2.2; omega)]
    by_cases q : s = row ∧ b = sec
    · rw [if_pos q, if_pos ⟨by omega, q.1, by omega⟩, q.1, q.2]
    · rw [if_neg q, if_neg (fun z => q ⟨z.2.1, by have := z.2.2; omega⟩)]
  have hup := fun (s : Int) (h : s = -1 ∨ 0 ≤ s ∧ s < n) (k : Nat) => new_up w e hs h k
  -- an open statement is the last of its row still
  have hopn : ∀ k, up R k row ≠ -1 → sv R2 (up R k row) 4 = -1 := fun k hk2 => by
    have ir := up_rng w (s := row) (by omega) k
    have h1 := (hop k hk2).1
    rw [o4 _ (by omega) (by omega), if_neg]
    · exact h1
    · intro q
      have w1 := (w.2.1 last (by omega) (by omega)).2.2.1
      omega
  have hmem : hasM R2 (hdP (n + 1) R2 row sec) n := by
    unfold hdP
    rcases hlast with ⟨l1, l2⟩ | ⟨l0, l1, l2, l3, ⟨k, l4⟩⟩
    · refine ⟨0, ?_⟩
      unfold hdP at l2
      by_cases c : row = -1
      · rw [if_pos c] at l2 ⊢
        rw [if_neg (by omega)]
        show (0 : Int) = n
        split at l2
        · omega
        · omega
      · rw [if_neg c]
        show sv R2 row (5 + sec) = n
        rw [oh row sec (by omega) (by omega) hs, if_pos ⟨l1, rfl, rfl⟩]
    · refine ⟨k + 1, ?_⟩
      have hh : hdP (n + 1) R2 row sec = hdP n R row sec := by
        unfold hdP
        by_cases c : row = -1
        · rw [if_pos c, if_pos c, if_neg (by omega), if_neg (by omega)]
        · rw [if_neg c, if_neg c, oh row sec (by omega) (by omega) hs, if_neg (by omega)]
      have hr : hdP n R row sec = -1 ∨ 0 ≤ hdP n R row sec ∧ hdP n R row sec < n := by
        unfold hdP
        by_cases c : row = -1
        · rw [if_pos c]
          split <;> omega
        · rw [if_neg c]
          have w1 := w.2.1 row (by omega) (by omega)
          rcases hs with q | q <;> rw [q]
          · show sv R row 5 = -1 ∨ 0 ≤ sv R row 5 ∧ sv R row 5 < n
            have := w1.2.2.2.2.1; omega
          · show sv R row 6 = -1 ∨ 0 ≤ sv R row 6 ∧ sv R row 6 < n
            have := w1.2.2.2.2.2; omega
      have h5 := nx_new w e hs hl hr k (by rw [l4]; omega)
      show nx R2 (k + 1) (hdP (n + 1) R2 row sec) = n
      rw [hh, nx, h5, l4, if_neg (by omega), o4 last l0 l1, if_pos rfl]
  have hd_r : ∀ s b, 0 ≤ s → s < n → (b = 0 ∨ b = 1) → sv R s (5 + b) = -1 ∨ 0 ≤ sv R s (5 + b) ∧ sv R s (5 + b) < n := fun s b a c d => by
    have w1 := w.2.1 s a c
    rcases d with rfl | rfl
    · show sv R s 5 = -1 ∨ 0 ≤ sv R s 5 ∧ sv R s 5 < n
      have := w1.2.2.2.2.1; omega
    · show sv R s 6 = -1 ∨ 0 ≤ sv R s 6 ∧ sv R s 6 < n
      have := w1.2.2.2.2.2; omega
  have hd_p : ∀ s b, 0 ≤ s → s < n → (b = 0 ∨ b = 1) → sv R s (5 + b) = -1 ∨ 0 ≤ sv R s (5 + b) ∧ sv R s (5 + b) < n ∧ sv R (sv R s (5 + b)) 3 = s := fun s b a c d => by
    have w1 := w.2.1 s a c
    rcases d with rfl | rfl
    · show sv R s 5 = -1 ∨ 0 ≤ sv R s 5 ∧ sv R s 5 < n ∧ sv R (sv R s 5) 3 = s
      have := w1.2.2.2.2.1; omega
    · show sv R s 6 = -1 ∨ 0 ≤ sv R s 6 ∧ sv R s 6 < n ∧ sv R (sv R s 6) 3 = s
      have := w1.2.2.2.2.2; omega
  -- rows that don't hold the last one
  have hno : ∀ s b, 0 ≤ s → s < n → (b = 0 ∨ b = 1) → ¬ (s = row ∧ b = sec) → ∀ k, nx R k (sv R s (5 + b)) = -1 ∨ nx R k (sv R s (5 + b)) ≠ last := fun s b a c d q k => by
    have h1 := nx_par w (hd_p s b a c d) k
    have h2 := nx_r w (hd_r s b a c d) k
    by_cases z : nx R k (sv R s (5 + b)) = -1
    · exact Or.inl z
    · refine Or.inr fun hz => ?_
      rw [hz] at h1 h2
      rcases hlast with ⟨l1, _⟩ | ⟨l0, l1, l2, l3, ⟨j, l4⟩⟩
      · omega
      · have hsr : s = row := by omega
        have hrn : row ≠ -1 := by omega
        rcases hsec with q1 | ⟨q1, q2, q3⟩
        · -- the first row is open: the second one is empty
          have h7 := h6 hrn q1
          have hb : b = 1 := by omega
          rw [hb, hsr] at hz
          rw [show (5 : Int) + 1 = 6 by decide, h7, nx_neg] at hz
          omega
        · have hb : b = 0 := by omega
          rw [hb, hsr] at hz
          unfold hdP at l4
          rw [if_neg hrn, q1] at l4
          have h8 : sv R row (5 + 1) ≠ -1 := fun qq => by rw [qq, nx_neg] at l4; omega
          have h9 := hdj row (by omega) (by omega) h8 k
          have h10 := nx_r w (h := sv R row (5 + 1)) (hd_r row 1 (by omega) (by omega) (Or.inr rfl)) j
          rw [l4] at h10
          rw [show (5 : Int) + 0 = 5 by decide] at hz
          rw [show (5 : Int) + 1 = 6 by decide] at h10 h8
          omega
  have hcl : ∀ s b, 0 ≤ s → s < n → (b = 0 ∨ b = 1) → CL R (sv R s (5 + b)) (sv R s (8 + b)) → CL R2 (sv R2 s (5 + b)) (sv R2 s (8 + b)) := fun s b a c d H => by
    rw [oh s b a c d, o89 s b a c d]
    by_cases q : s = row ∧ b = sec
    · rw [if_pos q]
      rcases hlast with ⟨l1, l2⟩ | ⟨l0, l1, l2, l3, ⟨j, l4⟩⟩
      · rw [if_pos ⟨l1, q⟩]
        unfold hdP at l2
        rw [if_neg (by omega), ← q.1, ← q.2] at l2
        rw [l2] at H
        rw [CL_neg H]
        refine ⟨by omega, ?_, fun k hk => ?_⟩
        · show nx R2 1 n = -1
          show (if n = -1 then -1 else sv R2 n 4) = -1
          rw [if_neg (by omega), n4]
        · obtain rfl : k = 0 := by omega
          show n ≠ -1
          omega
      · rw [if_neg (by omega)]
        unfold hdP at l4
        rw [if_neg (by omega), ← q.1, ← q.2] at l4
        have hj : nx R (j + 1) (sv R s (5 + b)) = -1 := by rw [nx, l4, if_neg (by omega), l3]
        have hc1 : sv R s (8 + b) = j + 1 := by
          have g1 : ¬ ((j + 1 : Nat) : Int) < sv R s (8 + b) := fun z => H.2.2 (j + 1) z hj
          by_cases g2 : sv R s (8 + b) ≤ j
          · have g3 := nx_end H.2.1 (j - (sv R s (8 + b)).toNat)
            rw [show (sv R s (8 + b)).toNat + (j - (sv R s (8 + b)).toNat) = j by omega, l4] at g3
            omega
          · omega
        have hx := nx_new w e hs hl (hd_r s b a c d)
        have hj2 : nx R2 (j + 1) (sv R s (5 + b)) = n := by rw [nx, hx j (by rw [l4]; omega), l4, if_neg (by omega), o4 last l0 l1, if_pos rfl]
        rw [hc1]
        refine ⟨by omega, ?_, fun k hk => ?_⟩
        · rw [show ((j : Int) + 1 + 1).toNat = j + 1 + 1 by omega, nx, hj2, if_neg (by omega), n4]
        · by_cases z : k = j + 1
          · rw [z, hj2]; omega
          · have hk2 : nx R k (sv R s (5 + b)) ≠ -1 := H.2.2 k (by omega)
            rw [hx k hk2]; exact hk2
    · rw [if_neg (fun z => q z.2), if_neg q]
      exact CL_same (nx_same w e hs (hd_r s b a c d) (hno s b a c d q)) H
  refine ⟨⟨by omega, fun s h0 h1 => ?_, fun s k h0 h1 h2 => ?_⟩, fun s h0 h1 => ?_, Or.inr ⟨by omega, rfl⟩, ?_, ?_, Or.inr ⟨by omega, by omega, n3, n4, hmem⟩, fun h1 h2 => ?_, fun k h1 => ?_, fun s h0 h1 h2 k => ?_, fun s h0 h1 => ?_⟩
  · by_cases c : s = n
    · subst c
      rw [n0, n1, n3, n4, n5, n6]
      refine ⟨hk, hv, ?_, Or.inl rfl, Or.inl rfl, Or.inl rfl⟩
      rcases hrow with r | ⟨r0, r1, r2⟩
      · exact Or.inl r
      · refine Or.inr ⟨r0, r1, ?_⟩
        rw [o0 row 0 r0 r1 (by omega) (by omega) (by omega) (by omega) (by omega)]
        exact r2
    · have hs1 : s < n := by omega
      obtain ⟨a1, a2, a3, a4, a5, a6⟩ := w.2.1 s h0 hs1
      have e0 := o0 s 0 h0 hs1 (by omega) (by omega) (by omega) (by omega) (by omega)
      have e1 := o0 s 1 h0 hs1 (by omega) (by omega) (by omega) (by omega) (by omega)
      have e3 := o0 s 3 h0 hs1 (by omega) (by omega) (by omega) (by omega) (by omega)
      rw [e0, e1, e3, o4 s h0 hs1, o5 s h0 hs1, o6 s h0 hs1]
      refine ⟨a1, a2, ?_, ?_, ?_, ?_⟩
      · rcases a3 with q | ⟨q0, q1, q2⟩
        · exact Or.inl q
        · refine Or.inr ⟨q0, q1, ?_⟩
          rw [o0 _ 0 q0 (by omega) (by omega) (by omega) (by omega) (by omega) (by omega)]
          exact q2
      · by_cases z : s = last
        · rw [if_pos z, n3]
          refine Or.inr ⟨hs1, by omega, ?_⟩
          rw [z]; omega
        · rw [if_neg z]
          rcases a4 with q | ⟨q0, q1, q2⟩
          · exact Or.inl q
          · exact Or.inr ⟨q0, by omega, by rw [o0 _ 3 (by omega) q1 (by omega) (by omega) (by omega) (by omega) (by omega)]; exact q2⟩
      · by_cases z : last = -1 ∧ s = row ∧ 0 = sec
        · rw [if_pos z, n3]
          exact Or.inr ⟨hs1, by omega, z.2.1.symm, by rw [z.2.1]; omega⟩
        · rw [if_neg z]
          rcases a5 with q | ⟨q0, q1, q2, q3⟩
          · exact Or.inl q
          · exact Or.inr ⟨q0, by omega, by rw [o0 _ 3 (by omega) q1 (by omega) (by omega) (by omega) (by omega) (by omega)]; exact q2, q3⟩
      · by_cases z : last = -1 ∧ s = row ∧ 1 = sec
        · rw [if_pos z, n3]
          exact Or.inr ⟨hs1, by omega, z.2.1.symm, by rw [z.2.1]; omega⟩
        · rw [if_neg z]
          rcases a6 with q | ⟨q0, q1, q2, q3⟩
          · exact Or.inl q
          · exact Or.inr ⟨q0, by omega, by rw [o0 _ 3 (by omega) q1 (by omega) (by omega) (by omega) (by omega) (by omega)]; exact q2, q3⟩
  · by_cases c : s = n
    · subst c
      cases k with
      | zero => exact Or.inl n4
      | succ k =>
        rw [up_par R2 (by omega), n3, hup row (by omega) k] at h2 ⊢
        exact Or.inl (hopn k h2)
    · have hs1 : s < n := by omega
      rw [hup s (Or.inr ⟨h0, hs1⟩) k] at h2 ⊢
      have ir := up_rng w (s := s) (Or.inr ⟨h0, hs1⟩) k
      rw [o4 _ (by omega) (by omega)]
      split
      · exact Or.inr hs1
      · exact w.2.2 s k h0 hs1 h2
  · have hcong : ∀ (kd : Int) (m : Nat), (m : Int) ≤ n → cntK R2 kd m = cntK R kd m := fun kd m hm => cntK_congr fun s a b => o0 s 0 a (by omega) (by omega) (by omega) (by omega) (by omega) (by omega)
    by_cases c : s = n
    · subst c
      rw [n0, n7, hcong _ _ (by omega)]
      exact ⟨fun q => by rw [if_pos q], fun q => by rw [if_neg (by omega)]⟩
    · have hs1 : s < n := by omega
      rw [o0 s 0 h0 hs1 (by omega) (by omega) (by omega) (by omega) (by omega), o0 s 7 h0 hs1 (by omega) (by omega) (by omega) (by omega) (by omega), hcong _ _ (by omega)]
      exact u s h0 hs1
  · rcases hrow with r | ⟨r0, r1, r2⟩
    · exact Or.inl r
    · refine Or.inr ⟨r0, by omega, ?_⟩
      rw [o0 row 0 r0 r1 (by omega) (by omega) (by omega) (by omega) (by omega)]
      exact r2
  · rcases hsec with r | ⟨r0, r1, r2⟩
    · exact Or.inl r
    · refine Or.inr ⟨r0, r1, ?_⟩
      rw [o0 row 0 (by omega) (by omega) (by omega) (by omega) (by omega) (by omega) (by omega)]
      exact r2
  · rw [o6 row (by omega) (by omega), if_neg (by omega)]
    exact h6 h1 h2
  · rw [hup row (by omega) k] at h1 ⊢
    have ir := up_rng w (s := row) (by omega) k
    refine ⟨hopn k h1, ?_⟩
    rw [o0 _ 3 (by omega) (by omega) (by omega) (by omega) (by omega) (by omega) (by omega)]
    intro h2
    have w1 := (w.2.1 (up R k row) (by omega) (by omega)).2.2.1
    rw [o6 _ (by omega) (by omega), if_neg (by omega)]
    rcases (hop k h1).2 h2 with q | ⟨j, q⟩
    · exact Or.inl q
    · refine Or.inr ⟨j, ?_⟩
      have h5 := nx_new w e hs hl (h := sv R (sv R (up R k row) 3) 6) (hd_r _ 1 (by omega) (by omega) (Or.inr rfl)) j (by rw [q]; exact h1)
      rw [h5]; exact q
  · by_cases c : s = n
    · subst c
      exact absurd n6 h2
    · have hs1 : s < n := by omega
      have hr5 := hd_r s 0 h0 hs1 (Or.inl rfl)
      rw [o6 s h0 hs1] at h2 ⊢
      rw [o5 s h0 hs1]
      by_cases z : last = -1 ∧ s = row ∧ 1 = sec
      · rw [if_pos z, if_neg (by omega), nx_same w e hs (h := sv R s 5) hr5 (hno s 0 h0 hs1 (Or.inl rfl) (by omega)) k]
        have := nx_r w (h := sv R s 5) hr5 k
        omega
      · rw [if_neg z] at h2 ⊢
        have hns : ¬ (s = row ∧ 0 = sec) := fun q => by
          have := h6 (by omega) q.2.symm
          rw [q.1] at h2
          exact h2 this
        rw [if_neg (fun q => hns q.2), nx_same w e hs (h := sv R s 5) hr5 (hno s 0 h0 hs1 (Or.inl rfl) hns) k]
        exact hdj s h0 hs1 h2 k
  · by_cases c : s = n
    · subst c
      refine ⟨?_, ?_, ?_, ?_⟩
      · rw [n2, n3]
        by_cases r : row = -1
        · rw [if_pos r, if_pos r]
        · rw [if_neg r, if_neg r, o0 row 2 (by omega) (by omega) (by omega) (by omega) (by omega) (by omega) (by omega)]
      · rw [n5, n8]
        exact ⟨by omega, rfl, fun k q => by omega⟩
      · rw [n6, n9]
        exact ⟨by omega, rfl, fun k q => by omega⟩
      · refine ⟨sec, hs, fun r => ?_, ?_⟩
        · rw [n3] at r; omega
        · rw [n3]; exact hmem
    · have hs1 : s < n := by omega
      obtain ⟨a1, a2, a3, b, a4, a5, k, a6⟩ := hall s h0 hs1
      have e3 := o0 s 3 h0 hs1 (by omega) (by omega) (by omega) (by omega) (by omega)
      have w3 := (w.2.1 s h0 hs1).2.2.1
      refine ⟨?_, hcl s 0 h0 hs1 (Or.inl rfl) a2, hcl s 1 h0 hs1 (Or.inr rfl) a3, b, a4, ?_, k, ?_⟩
      · rw [o0 s 2 h0 hs1 (by omega) (by omega) (by omega) (by omega) (by omega), e3, a1]
        by_cases r : sv R s 3 = -1
        · rw [if_pos r, if_pos r]
        · rw [if_neg r, if_neg r, o0 _ 2 (by omega) (by omega) (by omega) (by omega) (by omega) (by omega) (by omega)]
      · rw [e3]; exact a5
      · rw [e3]
        have hne : hdP n R (sv R s 3) b ≠ -1 := fun q => by rw [q, nx_neg] at a6; omega
        have hh : hdP (n + 1) R2 (sv R s 3) b = hdP n R (sv R s 3) b ∧ (hdP n R (sv R s 3) b = -1 ∨ 0 ≤ hdP n R (sv R s 3) b ∧ hdP n R (sv R s 3) b < n) := by
          unfold hdP at hne ⊢
          by_cases r : sv R s 3 = -1
          · rw [if_pos r, if_pos r, if_neg (by omega), if_neg (by omega)]
            exact ⟨rfl, by omega⟩
          · rw [if_neg r] at hne
            rw [if_neg r, if_neg r, oh _ b (by omega) (by omega) a4]
            refine ⟨?_, hd_r _ b (by omega) (by omega) a4⟩
            rw [if_neg]
            intro z
            rcases hlast with ⟨l1, l2⟩ | ⟨l0, l1, l2, l3, ⟨j, l4⟩⟩
            · unfold hdP at l2
              rw [if_neg (by omega), ← z.2.1, ← z.2.2] at l2
              exact hne l2
            · omega
        rw [hh.1, nx_new w e hs hl hh.2 k (by rw [a6]; omega)]
        exact a6
end NEW
end INV

