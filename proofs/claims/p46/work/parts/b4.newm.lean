/-! The start: a new reference. -/
def upL (f : Nat → Int) : List (Nat × Int) → Nat → Int
  | [] => f
  | (k, v) :: l => upL (upN f k v) l
theorem upL_o {m : Nat} {k : Nat} (hk : m ≤ k) : ∀ (l : List (Nat × Int)) (f : Nat → Int), (∀ x, x ∈ l → x.1 < m) → upL f l k = f k
  | [], _, _ => rfl
  | (a, v) :: l, f, hl => by
    rw [upL, upL_o hk l _ fun x hx => hl x (List.mem_cons_of_mem _ hx)]
    have := hl (a, v) (List.mem_cons_self ..)
    unfold upN
    exact if_neg (by have : a < m := this; omega)
section MHS
variable {m e : Nat} {F : Nat → Int} {h0 h : zH}
end MHS
set_option maxRecDepth 1000000
set_option maxHeartbeats 10000000
def mRls : List (Nat × Int) := [(7, -1), (0, 0), (1, -1), (2, 0), (3, -1), (4, -1), (5, -1), (6, -1), (8, 0), (9, 0), (1, 1), (17, 0), (10, 2), (11, -1), (12, 0), (13, -1), (14, -1), (15, -1), (16, -1), (18, 0), (19, 0), (4, 1), (27, -1), (20, 0), (21, -1), (22, 1), (23, 1), (24, -1), (25, -1), (26, -1), (28, 0), (29, 0), (15, 2), (18, 1), (21, 0), (37, 0), (30, 3), (31, -1), (32, 0), (33, -1), (34, -1), (35, -1), (36, -1), (38, 0), (39, 0), (14, 3)]
def mNls : List (Nat × Int) := [(0, 3), (1, 13), (2, 4), (3, 3), (31, 7), (32, 15), (33, 12), (34, 4), (35, 0), (36, 12), (37, 5), (38, 2), (2294, -1), (2318, 10), (62, 1), (63, 2), (2295, -1), (2319, 10), (93, 3), (94, 13), (95, 0), (96, 4), (837, 3), (838, 12), (839, 5), (840, 2), (1581, 1), (1582, 4), (2296, -1), (2320, 10), (124, 3), (125, 8), (126, 4), (127, 1), (2297, -1), (2321, 10)]
