/-! The law's type: a text comes into the class's input. -/
theorem RM209 : zrm 209 (zrf 251 + 1) (8 + (zmaxl 251 + 11) + zrl 251) = true := rfl
def TXa (h : zH) (s : Nat) (U : List Int) : Prop := TXc h s U ∨ (TXm h s U ∧ 163 ≤ s ∧ ∀ v, hR h s 0 = some v → 163 ≤ v)
def pcd (U : List Int) (i : Nat) : Int := if i < U.length then tg U i else 32
def ascL (U : List Int) : Prop := ∀ i, i < U.length → 0 ≤ tg U i ∧ tg U i < 128
theorem pcd_a {U : List Int} (A : ascL U) : asc (pcd U) := fun i => by
  unfold pcd
  split
  · exact A i (by assumption)
  · exact ⟨by decide, by decide⟩
def Pt (a : Nat) (h h2 : zH) : Prop := hN h ≤ hN h2 ∧ ∀ b, 163 ≤ b → b ≠ a → (b < hN h ∨ zVB ≤ b) → Gs h h2 b
section TYP
variable {h h2 hb : zH} {s a : Nat} {U : List Int}
theorem TXa_p (X : TXa h s U) (ta : hT h a = 22) (na : a < zVB) (P : Pt a h h2) : TXa h2 s U := by
  obtain ⟨P1, P2⟩ := P
  rcases X with ⟨x0, x1, x2, x3⟩ | ⟨⟨t, n, c, v, rv, tv, nv, lv, cv⟩, s0, v0⟩
  · have g := P2 s (Nat.le_trans (by decide : 163 ≤ zVB) x0) (by omega) (Or.inr x0)
    exact Or.inl ⟨x0, g.1.trans x1, g.2.1.trans x2, fun i hi => (congrFun g.2.2.2.1 i).trans (x3 i hi)⟩
  · have g := P2 s s0 (fun e => by subst e; omega) (Or.inl n)
    have gv := P2 v (v0 v rv) (fun e => by subst e; omega) (Or.inl nv)
    exact Or.inr ⟨⟨g.1.trans t, by omega, (congrFun g.2.2.2.1 1).trans c, v, (congrFun g.2.2.1 0).trans rv, gv.1.trans tv, by omega, gv.2.1.trans lv, fun i hi => (congrFun gv.2.2.2.1 i).trans (cv i hi)⟩, s0, fun w hw => v0 w ((congrFun g.2.2.1 0).symm.trans hw)⟩
theorem tx_len {m pcc pc : Nat} {L : zL} {S : List zV} (X : TXa h s U) (l : U.length ≤ 900) (g1 : (some s).isSome = true ∧ zcs S ≤ 8 ∧ zrm m 5 120 = true) (g2 : false = zspc 249 ∧ zcs S ≤ 8 ∧ zrm m (zrf 249 + 1) (8 + (zmaxl 249 + 11) + zrl 249) = true ∧ zcs [zR (some s)] ≤ zmaxl 249) : (if hT h (zdr (some s)) = 40 then gd ((some s).isSome = true ∧ zcs S ≤ 8 ∧ zrm m 5 120 = true) (zY m pc L (zI (hL h s : Int) :: S) h) else gd (false = zspc 249 ∧ zcs S ≤ 8 ∧ zrm m (zrf 249 + 1) (8 + (zmaxl 249 + 11) + zrl 249) = true ∧ zcs [zR (some s)] ≤ zmaxl 249) (gd (zob h (some s) 13) (zBack zY m pcc pc L S (zC 249 [zR (some s)] h)))) = zY m pc L (zI (U.length : Int) :: S) h := by
  rcases X with X | ⟨X, _⟩
  · rw [if_pos (show hT h (zdr (some s)) = 40 from X.2.1), gd_t g1, X.2.2.1]
  · have t : hT h (zdr (some s)) = 13 := X.1
    rw [if_neg (by omega), gd_t g2, gd_t ⟨rfl, X.1, X.2.1⟩, c_len X l]
    rfl
theorem tx_chr {m pcc pc : Nat} {L : zL} {S : List zV} {i : Nat} {x : Int} (X : TXa h s U) (A : ascL U) (hi : i < U.length) (ex : x = (i : Int)) (g1 : zcs S ≤ 8 ∧ zrm m 5 120 = true) (g2 : false = zspc 251 ∧ zcs S ≤ 8 ∧ zrm m (zrf 251 + 1) (8 + (zmaxl 251 + 11) + zrl 251) = true ∧ zcs [zR (some s), zI x] ≤ zmaxl 251) : (if hT h (zdr (some s)) = 40 then gd (zok h (some s) 40 x ∧ zcs S ≤ 8 ∧ zrm m 5 120 = true) (zY m pc L (zI (hI h s x.toNat) :: S) h) else gd (false = zspc 251 ∧ zcs S ≤ 8 ∧ zrm m (zrf 251 + 1) (8 + (zmaxl 251 + 11) + zrl 251) = true ∧ zcs [zR (some s), zI x] ≤ zmaxl 251) (gd (zob h (some s) 13) (zBack zY m pcc pc L S (zC 251 [zR (some s), zI x] h)))) = zY m pc L (zI (tg U i) :: S) h := by
  subst ex
  rcases X with X | ⟨X, _⟩
  · rw [if_pos (show hT h (zdr (some s)) = 40 from X.2.1), gd_t ⟨⟨rfl, X.2.1, by omega, by show (i : Int) < (hL h s : Int); rw [X.2.2.1]; omega⟩, g1⟩, show ((i : Int)).toNat = i from rfl, X.2.2.2 i hi]
  · have t : hT h (zdr (some s)) = 13 := X.1
    rw [if_neg (by omega), gd_t g2, gd_t ⟨rfl, X.1, X.2.1⟩, c_chr X hi (A i hi).1 (A i hi).2]
    rfl
/-- one letter comes into the row -/
theorem ty_step {x2 : Int} {k q : Nat} (X : TXa h s U) (A : ascL U) (ta : hT h a = 22) (na : a < hN h) (la : hL h a = 5) (l : U.length ≤ 780) (hk : k ≤ 800) (hq : q < 20) : zY 209 21 [some (zR (some 0)), some (zR (some s)), some (zI x2), some (zR (some a)), some (zI (k : Int)), some (zI (q : Int))] [] h = zY 209 21 [some (zR (some 0)), some (zR (some s)), some (zI x2), some (zR (some a)), some (zI (k : Int)), some (zI ((q + 1 : Nat) : Int))] [] (sI h a (q / 4) (pk (hI h a (q / 4)) (pcd U (k + q)))) := by
  have d4 : ((q : Int) / 4).toNat = q / 4 := by omega
  refine q_L_type_21.trans ?_
  rw [if_pos (by omega)]
  refine (q_L_type_28 ta).trans ?_
  rw [show zpz ((q : Nat) : Int) 4 = (q : Int) from if_neg (by omega)]
  rw [gd_t ⟨by omega, by decide⟩, gd_t ⟨by omega, by decide⟩, gd_t ⟨by omega, by omega⟩]
  refine (tx_len (S := [zI (zwadd (k : Int) (q : Int)), zI (zshl (hI h a ((q : Int) / 4).toNat) 8), zI ((q : Int) / 4), zR (some a)]) X (by omega) ⟨rfl, Nat.le_of_ble_eq_true rfl, rfl⟩ ⟨rfl, Nat.le_of_ble_eq_true rfl, rfl, Nat.le_of_ble_eq_true rfl⟩).trans ?_
  rw [zwadd_e (by omega) (by omega), d4]
  refine q_L_type_51.trans ?_
  by_cases c : k + q < U.length
  · rw [if_pos (by omega)]
    refine q_L_type_54.trans ?_
    rw [zwadd_e (by omega) (by omega)]
    refine (tx_chr (S := [zI (zshl (hI h a (q / 4)) 8), zI ((q : Int) / 4), zR (some a)]) (i := k + q) X A c (by omega) ⟨Nat.le_of_ble_eq_true rfl, rfl⟩ ⟨rfl, Nat.le_of_ble_eq_true rfl, RM209, Nat.le_of_ble_eq_true rfl⟩).trans ?_
    refine (q_L_type_63 ta na).trans ?_
    rw [gd_t ⟨by omega, by omega⟩, gd_t (show inR ((q : Int) + 1) by omega), d4, show pcd U (k + q) = tg U (k + q) from if_pos c]
    rfl
  · rw [if_neg (by omega)]
    refine (q_L_type_66 ta na).trans ?_
    rw [gd_t ⟨by omega, by omega⟩, gd_t (show inR ((q : Int) + 1) by omega), d4, show pcd U (k + q) = 32 from if_neg c]
    rfl
def VI (U : List Int) (a k : Nat) (h h2 : zH) (q : Nat) : Prop := hN h2 = hN h ∧ hU h2 = hU h ∧ (∀ b, b ≠ a → Gs h h2 b) ∧ hT h2 a = hT h a ∧ hL h2 a = hL h a ∧ ∀ j, j < 5 → hI h2 a j = pkn (hI h a j) (fun i => pcd U (k + (4 * j + i))) (min 4 (q - 4 * j))
theorem VI_0 (U : List Int) (a k : Nat) (h : zH) : VI U a k h h 0 := ⟨rfl, rfl, fun b _ => Gs_r h b, rfl, rfl, fun j _ => by rw [Nat.zero_sub]; rfl⟩
theorem VI_s {k q : Nat} (V : VI U a k h h2 q) (hq : q < 20) : VI U a k h (sI h2 a (q / 4) (pk (hI h2 a (q / 4)) (pcd U (k + q)))) (q + 1) := by
  obtain ⟨v1, v2, v3, v4, v5, v6⟩ := V
  refine ⟨v1, v2, fun b e => Gs_t (v3 b e) (Gs_sI h2 _ _ e), v4, v5, fun j hj => ?_⟩
  by_cases c : j = q / 4
  · have e1 : min 4 (q - 4 * (q / 4)) = q - 4 * (q / 4) := by omega
    have e2 : min 4 (q + 1 - 4 * (q / 4)) = q - 4 * (q / 4) + 1 := by omega
    subst c
    refine (zup_s _ _ _ _).trans ?_
    rw [v6 _ hj, e1, e2]
    show _ = pk (pkn _ _ (q - 4 * (q / 4))) (pcd U (k + (4 * (q / 4) + (q - 4 * (q / 4)))))
    rw [show k + (4 * (q / 4) + (q - 4 * (q / 4))) = k + q from by omega]
  · refine (zup_n _ _ _ _ _ _ (by omega)).trans ?_
    rw [v6 j hj, show min 4 (q + 1 - 4 * j) = min 4 (q - 4 * j) from by omega]
theorem ty_in {x2 : Int} {k : Nat} (X : TXa h s U) (A : ascL U) (ta : hT h a = 22) (na : a < hN h) (nz : a < zVB) (la : hL h a = 5) (l : U.length ≤ 780) (hk : k ≤ 800) : ∀ (t q : Nat) (h2 : zH), q + t = 20 → VI U a k h h2 q → ∃ h3, zY 209 21 [some (zR (some 0)), some (zR (some s)), some (zI x2), some (zR (some a)), some (zI (k : Int)), some (zI (q : Int))] [] h2 = zY 209 21 [some (zR (some 0)), some (zR (some s)), some (zI x2), some (zR (some a)), some (zI (k : Int)), some (zI ((20 : Nat) : Int))] [] h3 ∧ VI U a k h h3 20
  | 0, q, h2, e, V => by
    have e : q = 20 := e
    subst e
    exact ⟨h2, rfl, V⟩
  | t + 1, q, h2, e, V => by
    have X2 : TXa h2 s U := TXa_p X ta nz ⟨by rw [V.1]; exact Nat.le_refl _, fun b _ e _ => V.2.2.1 b e⟩
    obtain ⟨h3, E, V3⟩ := ty_in (x2 := x2) X A ta na nz la l hk t (q + 1) _ (by omega) (VI_s V (by omega))
    exact ⟨h3, (ty_step X2 A (V.2.2.2.1.trans ta) (by rw [V.1]; exact na) (V.2.2.2.2.1.trans la) l hk (by omega)).trans E, V3⟩
end TYP
