/-! The reference: methods that only read. -/
abbrev b_M_holds (x0 : BitVec 64) (x2 : Int) : Prop :=
  ((zlushr x0 x2) &&& (1#64)) = 1#64
def f_M_arity (x0 : Int) : Int :=
  if x0 = 14 then
    1
  else
    if x0 < 7 then
      0
    else
      if x0 = 10 then
        0
      else
        if x0 = 11 then
          0
        else
          2
def f_M_valueIn (x0 : Int) (x1 : Int) : Int :=
  (zand (zshr x0 (2 * x1)) 3)
def f_M_changed (x0 : Int) (x1 : Int) (x2 : Int) : Int :=
  ((x0 - (zshl (f_M_valueIn x0 x1) (2 * x1))) + (zshl x2 (2 * x1)))
theorem finN {n : Nat} {P : Int → Prop} (h : ∀ s : Fin n, P (s.val : Int)) {x : Int} (h0 : 0 ≤ x) (h1 : x < n) : P x := by
  have h2 := h ⟨x.toNat, by omega⟩
  rwa [show ((x.toNat : Nat) : Int) = x from Int.toNat_of_nonneg h0] at h2
theorem valueIn_r {st v : Int} (h0 : 0 ≤ st) (h1 : st < 64) (h2 : 0 ≤ v) (h3 : v < 3) : 0 ≤ f_M_valueIn st v ∧ f_M_valueIn st v < 4 :=
  finN (P := fun st => 0 ≤ f_M_valueIn st v ∧ f_M_valueIn st v < 4) (n := 64) (fun s => finN (P := fun v => 0 ≤ f_M_valueIn s.val v ∧ f_M_valueIn s.val v < 4) (n := 3) ((show ∀ (s : Fin 64) (v : Fin 3), 0 ≤ f_M_valueIn s.val v.val ∧ f_M_valueIn s.val v.val < 4 by decide +kernel) s) h2 h3) h0 h1
theorem changed_r {st v w : Int} (h0 : 0 ≤ st) (h1 : st < 64) (h2 : 0 ≤ v) (h3 : v < 3) (h4 : 0 ≤ w) (h5 : w < 4) : (0 ≤ f_M_changed st v w ∧ f_M_changed st v w < 64) ∧ (-1000 ≤ st - zshl (f_M_valueIn st v) (2 * v) ∧ st - zshl (f_M_valueIn st v) (2 * v) < 1000) :=
  finN (P := fun st => (0 ≤ f_M_changed st v w ∧ f_M_changed st v w < 64) ∧ (-1000 ≤ st - zshl (f_M_valueIn st v) (2 * v) ∧ st - zshl (f_M_valueIn st v) (2 * v) < 1000)) (n := 64) (fun s => finN (P := fun v => (0 ≤ f_M_changed s.val v w ∧ f_M_changed s.val v w < 64) ∧ (-1000 ≤ s.val - zshl (f_M_valueIn s.val v) (2 * v) ∧ s.val - zshl (f_M_valueIn s.val v) (2 * v) < 1000)) (n := 3) (fun v => finN (P := fun w => (0 ≤ f_M_changed s.val v.val w ∧ f_M_changed s.val v.val w < 64) ∧ (-1000 ≤ s.val - zshl (f_M_valueIn s.val v.val) (2 * v.val) ∧ s.val - zshl (f_M_valueIn s.val v.val) (2 * v.val) < 1000)) (n := 4) ((show ∀ (s : Fin 64) (v : Fin 3) (w : Fin 4), (0 ≤ f_M_changed s.val v.val w.val ∧ f_M_changed s.val v.val w.val < 64) ∧ (-1000 ≤ (s.val : Int) - zshl (f_M_valueIn s.val v.val) (2 * v.val) ∧ (s.val : Int) - zshl (f_M_valueIn s.val v.val) (2 * v.val) < 1000) by decide +kernel) s v) h4 h5) h2 h3) h0 h1

def f_M_simple (x0 : Int) (x1 : Int) : Int :=
  if x0 < 4 then
    x0
  else
    if x0 < 7 then
      (f_M_valueIn x1 (x0 - 4))
    else
      if x0 = 10 then
        1
      else
        0
def f_M_joined (x0 : Int) (x1 : Int) (x2 : Int) : Int :=
  if x0 = 7 then
    (zand (x1 + x2) 3)
  else
    if x0 = 8 then
      (zand (x1 - x2) 3)
    else
      if x0 = 9 then
        (zand (x1 * x2) 3)
      else
        if x0 = 10 then
          (zor x1 x2)
        else
          if x0 = 11 then
            (zor x1 x2)
          else
            if x0 = 12 then
              if x1 = x2 then
                1
              else
                0
            else
              if x0 = 13 then
                if x1 < x2 then
                  1
                else
                  0
              else
                if x0 = 14 then
                  (zor x1 x2)
                else
                  if x0 = 15 then
                    (zand x1 x2)
                  else
                    (zor x1 x2)
def f_M_s (h : zH) (x1 : Int) (x2 : Int) : Int :=
  (hI h 183 ((10 * x1) + x2).toNat)
/-- a filled hole's value in a state -/
def flv (f st : Int) : Int := if Int.tmod f 13 < 4 then Int.tmod f 13 else if Int.tmod f 13 < 7 then f_M_valueIn st (Int.tmod f 13 - 4) else if Int.tmod f 13 < 10 then zand (f_M_valueIn st (Int.tmod f 13 - 7) + 1) 3 else zand (f_M_valueIn st (Int.tmod f 13 - 10) - 1) 3
theorem tmod_13 {f : Int} (h0 : 0 ≤ f) : 0 ≤ Int.tmod f 13 ∧ Int.tmod f 13 < 13 := ⟨Int.tmod_nonneg _ h0, Int.tmod_lt_of_pos _ (by decide)⟩
theorem flv_r {f st : Int} (h0 : 0 ≤ f) (h1 : 0 ≤ st) (h2 : st < 64) : 0 ≤ flv f st ∧ flv f st < 4 := by
  have ht := tmod_13 h0
  unfold flv
  by_cases c1 : Int.tmod f 13 < 4
  · rw [if_pos c1]; omega
  · by_cases c2 : Int.tmod f 13 < 7
    · rw [if_neg c1, if_pos c2]; exact valueIn_r h1 h2 (by omega) (by omega)
    · by_cases c3 : Int.tmod f 13 < 10
      · have := valueIn_r (v := Int.tmod f 13 - 7) h1 h2 (by omega) (by omega)
        rw [if_neg c1, if_neg c2, if_pos c3]
        exact finN (P := fun x => 0 ≤ zand (x + 1) 3 ∧ zand (x + 1) 3 < 4) (n := 4) (by decide +kernel) this.1 this.2
      · have := valueIn_r (v := Int.tmod f 13 - 10) h1 h2 (by omega) (by omega)
        rw [if_neg c1, if_neg c2, if_neg c3]
        exact finN (P := fun x => 0 ≤ zand (x - 1) 3 ∧ zand (x - 1) 3 < 4) (n := 4) (by decide +kernel) this.1 this.2

