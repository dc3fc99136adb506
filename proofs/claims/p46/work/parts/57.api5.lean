/-! The reference: what would be, with another filling. -/
section API5
variable {n top : Int} {R N : Nat → Int}
def upN (N : Nat → Int) (i : Nat) (v : Int) : Nat → Int := fun j => if j = i then v else N j
theorem upN_s (N : Nat → Int) (i : Nat) (v : Int) : upN N i v i = v := if_pos rfl
theorem upN_n (N : Nat → Int) {i j : Nat} (v : Int) (h : j ≠ i) : upN N i v j = N j := if_neg h
theorem upN_self (N : Nat → Int) (i : Nat) : upN N i (N i) = N := funext fun j => by
  unfold upN
  by_cases c : j = i
  · rw [if_pos c, c]
  · rw [if_neg c]
theorem upN_up (N : Nat → Int) (i : Nat) (v w : Int) : upN (upN N i v) i w = upN N i w := funext fun j => by
  unfold upN
  by_cases c : j = i
  · rw [if_pos c, if_pos c]
  · rw [if_neg c, if_neg c, if_neg c]
theorem hI_up (h : zH) (a i : Nat) (v : Int) : hI (sI h a i v) a = upN (hI h a) i v := funext fun j => by
  rw [hI_sI, zup, upN]
  by_cases c : j = i
  · rw [if_pos ⟨rfl, c⟩, if_pos c]
  · rw [if_neg (fun q => c q.2), if_neg c]
theorem lst_up {q : Int} {i : Nat} {v : Int} (hq : 0 ≤ q) (hi : (31 * q).toNat + 31 ≤ i) (hn : N (31 * q).toNat ≤ 30) : lst (upN N i v) q = lst N q := by
  unfold lst
  rw [upN_n N v (by omega : (31 * q).toNat ≠ i)]
  exact upto_congr _ _ fun k hk => upN_n N v (by omega)
theorem fmOk_up {q : Int} {i : Nat} {v : Int} {b : Bool} (hq : 0 ≤ q) (hi : (31 * q).toNat + 31 ≤ i) (h : fmOk N q b) : fmOk (upN N i v) q b := by
  obtain ⟨h1, h2, h3⟩ := h
  refine ⟨?_, ?_, ?_⟩
  · rw [upN_n N v (by omega : (31 * q).toNat ≠ i)]; exact h1
  · rw [upN_n N v (by omega : (31 * q).toNat ≠ i)]; exact h2
  · rw [lst_up hq hi h2]; exact h3
/-- another filling of a hole -/
theorem Prg_fill (P : Prg n top R N) {s f : Int} (h0 : 0 ≤ s) (h1 : s < n) (hk : sv R s 0 = 3) (hf : -1 ≤ f) (hf2 : f ≤ 38) : Prg n top R (upN N (2294 + s).toNat f) := by
  obtain ⟨w, ⟨v1, v2, v3⟩, hu, ht⟩ := P
  have w0 := w.1
  refine ⟨w, ⟨fmOk_up (by omega) (by omega) v1, fmOk_up (by omega) (by omega) v2, fun t q0 q1 => ?_⟩, hu, ht⟩
  obtain ⟨a1, a2, a3, a4, a5⟩ := v3 t q0 q1
  refine ⟨fun k => fmOk_up (by omega) (by omega) (a1 k), fun k => fmOk_up (by omega) (by omega) (a2 k), fun k => ⟨fmOk_up (by omega) (by omega) (a3 k).1, fmOk_up (by omega) (by omega) (a3 k).2.1, fmOk_up (by omega) (by omega) (a3 k).2.2⟩, fun k => ?_, ?_⟩
  · unfold upN
    by_cases c : (2294 + t).toNat = (2294 + s).toNat
    · rw [if_pos c]; omega
    · rw [if_neg c]; exact a4 k
  · rw [upN_n N f (by omega : (2318 + t).toNat ≠ (2294 + s).toNat)]; exact a5
def pvF (n top : Int) (R N : Nat → Int) (s f : Int) : Prop := nfS n top R (upN N (2294 + s).toNat f) (TT n R (upN N (2294 + s).toNat f)) (NN n R (upN N (2294 + s).toNat f)) = 0
def rgF (n top : Int) (R N : Nat → Int) (s f : Int) : Prop := wgC n top R (upN N (2294 + s).toNat f) = 0#64
section
end
def aProves (n top : Int) (R N : Nat → Int) (l : Int) : Int × zV := haveI : DecidablePred (pvF n top R N (lpAt n R 3 l)) := fun _ => inferInstanceAs (Decidable (_ = _)); if lpAt n R 3 l = -1 then (1, zI 0) else (0, zI (zfind (pvF n top R N (lpAt n R 3 l)) 0 39))
def aRights (n top : Int) (R N : Nat → Int) (l : Int) : Int × zV := haveI : DecidablePred (rgF n top R N (lpAt n R 3 l)) := fun _ => inferInstanceAs (Decidable (_ = _)); if lpAt n R 3 l = -1 then (1, zI 0) else (0, zI (zfind (rgF n top R N (lpAt n R 3 l)) 0 39))
end API5

