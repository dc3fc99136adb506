/-! The words of the throws. -/
def zoaP (w : Cond) : Prop := vx_no w = true → ((w ∈ lw_tbl ∧ goodWord w = true) ∨ (w ∈ zNws ∧ w.onTables = true))
theorem zoa_w {w : Cond} (p : Nat) (h : zinP w p) : zoaP w := fun _ => Or.inl ⟨zin_ok h, h.2⟩
theorem zoa_n {w : Cond} (i : Nat) (h : zNw1[i]? = some w) (h2 : w.onTables = true) : zoaP w := fun _ => Or.inr ⟨List.mem_append_left _ (List.mem_of_getElem? h), h2⟩
theorem zoa_b {w : Cond} (h : vx_no w = false) : zoaP w := fun g => absurd (g.symm.trans h) (by decide)
theorem zoa_c {w : Cond} {l : List Cond} (h : zoaP w) (t : ∀ x ∈ l, zoaP x) : ∀ x ∈ w :: l, zoaP x := fun x hx => by
  rcases List.mem_cons.mp hx with rfl | hx
  · exact h
  · exact t x hx
theorem zoa_0 : ∀ x ∈ ([] : List Cond), zoaP x := fun x hx => nomatch hx
def zoaN : List String := ["java/lang/RuntimeException", "java/lang/Exception"]
def zoaL (X : String) : List Cond := [.instantiable X 6, .castable X X, .selects X Bundle.tFill0 Bundle.tFill0, .selects X Bundle.tFill Bundle.tFill, .lays X Bundle.tN "cause" "Ljava/lang/Throwable;", .lays X Bundle.tN "stackTrace" Bundle.steD, .lays X Bundle.tN "suppressedExceptions" Bundle.listD, .lays X Bundle.tN "detailMessage" "Ljava/lang/String;", .isRef (.static Bundle.tN "UNASSIGNED_STACK" Bundle.steD), .isRef (.static Bundle.tN "SUPPRESSED_SENTINEL" Bundle.listD), .fieldLink Bundle.tN 198 Bundle.tN "backtrace" "Ljava/lang/Object;", .lays Bundle.tN Bundle.tN "backtrace" "Ljava/lang/Object;", .lays X Bundle.tN "backtrace" "Ljava/lang/Object;"]
set_option maxRecDepth 100000 in
theorem zoa_t : ∀ x ∈ Bundle.throwableAtoms, zoaP x := zoa_c (zoa_w 1025 ⟨rfl, rfl⟩) (zoa_c (zoa_w 4214 ⟨rfl, rfl⟩) (zoa_c (zoa_w 4223 ⟨rfl, rfl⟩) (zoa_c (zoa_w 4227 ⟨rfl, rfl⟩) (zoa_c (zoa_w 4230 ⟨rfl, rfl⟩) (zoa_c (zoa_w 4232 ⟨rfl, rfl⟩) (zoa_c (zoa_w 4215 ⟨rfl, rfl⟩) (zoa_c (zoa_w 4216 ⟨rfl, rfl⟩) (zoa_c (zoa_w 1040 ⟨rfl, rfl⟩) (zoa_c (zoa_w 1041 ⟨rfl, rfl⟩) (zoa_c (zoa_w 4217 ⟨rfl, rfl⟩) (zoa_c (zoa_w 4222 ⟨rfl, rfl⟩) (zoa_c (zoa_w 4228 ⟨rfl, rfl⟩) (zoa_c (zoa_w 5005 ⟨rfl, rfl⟩) (zoa_c (zoa_w 4204 ⟨rfl, rfl⟩) (zoa_c (zoa_w 5006 ⟨rfl, rfl⟩) (zoa_c (zoa_w 4206 ⟨rfl, rfl⟩) (zoa_c (zoa_w 5007 ⟨rfl, rfl⟩) (zoa_c (zoa_w 4208 ⟨rfl, rfl⟩) (zoa_c (zoa_w 4218 ⟨rfl, rfl⟩) (zoa_c (zoa_b rfl) (zoa_c (zoa_w 4220 ⟨rfl, rfl⟩) (zoa_c (zoa_b rfl) (zoa_c (zoa_w 4210 ⟨rfl, rfl⟩) (zoa_0))))))))))))))))))))))))
set_option maxRecDepth 100000 in
theorem zoa_ch0 : ∀ x ∈ Bundle.chain0Atoms "java/lang/IllegalArgumentException" zoaN, zoaP x := zoa_c (zoa_w 4234 ⟨rfl, rfl⟩) (zoa_c (zoa_w 4235 ⟨rfl, rfl⟩) (zoa_c (zoa_w 4236 ⟨rfl, rfl⟩) (zoa_c (zoa_w 4237 ⟨rfl, rfl⟩) (zoa_c (zoa_n 4 rfl rfl) (zoa_c (zoa_w 4237 ⟨rfl, rfl⟩) (zoa_c (zoa_w 4238 ⟨rfl, rfl⟩) (zoa_c (zoa_w 4239 ⟨rfl, rfl⟩) (zoa_c (zoa_w 5000 ⟨rfl, rfl⟩) (zoa_c (zoa_n 6 rfl rfl) (zoa_c (zoa_w 5000 ⟨rfl, rfl⟩) (zoa_c (zoa_w 5001 ⟨rfl, rfl⟩) (zoa_c (zoa_w 5002 ⟨rfl, rfl⟩) (zoa_c (zoa_w 4215 ⟨rfl, rfl⟩) (zoa_c (zoa_n 8 rfl rfl) (zoa_0)))))))))))))))
set_option maxRecDepth 100000 in
theorem zoa_r0 : ∀ x ∈ zoaL "java/lang/IllegalArgumentException", zoaP x := zoa_c (zoa_w 4193 ⟨rfl, rfl⟩) (zoa_c (zoa_n 0 rfl rfl) (zoa_c (zoa_w 4201 ⟨rfl, rfl⟩) (zoa_c (zoa_w 4202 ⟨rfl, rfl⟩) (zoa_c (zoa_w 4203 ⟨rfl, rfl⟩) (zoa_c (zoa_w 4205 ⟨rfl, rfl⟩) (zoa_c (zoa_w 4207 ⟨rfl, rfl⟩) (zoa_c (zoa_w 4209 ⟨rfl, rfl⟩) (zoa_c (zoa_b rfl) (zoa_c (zoa_b rfl) (zoa_c (zoa_w 4213 ⟨rfl, rfl⟩) (zoa_c (zoa_w 4212 ⟨rfl, rfl⟩) (zoa_c (zoa_w 4211 ⟨rfl, rfl⟩) (zoa_0)))))))))))))
set_option maxRecDepth 100000 in
theorem zoa_ch1 : ∀ x ∈ Bundle.chain0Atoms "java/lang/IllegalStateException" zoaN, zoaP x := zoa_c (zoa_w 5038 ⟨rfl, rfl⟩) (zoa_c (zoa_w 5039 ⟨rfl, rfl⟩) (zoa_c (zoa_w 5040 ⟨rfl, rfl⟩) (zoa_c (zoa_w 4237 ⟨rfl, rfl⟩) (zoa_c (zoa_n 4 rfl rfl) (zoa_c (zoa_w 4237 ⟨rfl, rfl⟩) (zoa_c (zoa_w 4238 ⟨rfl, rfl⟩) (zoa_c (zoa_w 4239 ⟨rfl, rfl⟩) (zoa_c (zoa_w 5000 ⟨rfl, rfl⟩) (zoa_c (zoa_n 6 rfl rfl) (zoa_c (zoa_w 5000 ⟨rfl, rfl⟩) (zoa_c (zoa_w 5001 ⟨rfl, rfl⟩) (zoa_c (zoa_w 5002 ⟨rfl, rfl⟩) (zoa_c (zoa_w 4215 ⟨rfl, rfl⟩) (zoa_c (zoa_n 8 rfl rfl) (zoa_0)))))))))))))))
set_option maxRecDepth 100000 in
theorem zoa_r1 : ∀ x ∈ zoaL "java/lang/IllegalStateException", zoaP x := zoa_c (zoa_w 5029 ⟨rfl, rfl⟩) (zoa_c (zoa_n 1 rfl rfl) (zoa_c (zoa_w 5031 ⟨rfl, rfl⟩) (zoa_c (zoa_w 4225 ⟨rfl, rfl⟩) (zoa_c (zoa_w 5032 ⟨rfl, rfl⟩) (zoa_c (zoa_w 5033 ⟨rfl, rfl⟩) (zoa_c (zoa_w 5034 ⟨rfl, rfl⟩) (zoa_c (zoa_w 5035 ⟨rfl, rfl⟩) (zoa_c (zoa_b rfl) (zoa_c (zoa_b rfl) (zoa_c (zoa_w 4213 ⟨rfl, rfl⟩) (zoa_c (zoa_w 4212 ⟨rfl, rfl⟩) (zoa_c (zoa_w 5036 ⟨rfl, rfl⟩) (zoa_0)))))))))))))
set_option maxRecDepth 100000 in
theorem zoa_ch3 : ∀ x ∈ Bundle.chain0Atoms "java/util/NoSuchElementException" zoaN, zoaP x := zoa_c (zoa_w 5143 ⟨rfl, rfl⟩) (zoa_c (zoa_w 5144 ⟨rfl, rfl⟩) (zoa_c (zoa_w 5145 ⟨rfl, rfl⟩) (zoa_c (zoa_w 4237 ⟨rfl, rfl⟩) (zoa_c (zoa_n 4 rfl rfl) (zoa_c (zoa_w 4237 ⟨rfl, rfl⟩) (zoa_c (zoa_w 4238 ⟨rfl, rfl⟩) (zoa_c (zoa_w 4239 ⟨rfl, rfl⟩) (zoa_c (zoa_w 5000 ⟨rfl, rfl⟩) (zoa_c (zoa_n 6 rfl rfl) (zoa_c (zoa_w 5000 ⟨rfl, rfl⟩) (zoa_c (zoa_w 5001 ⟨rfl, rfl⟩) (zoa_c (zoa_w 5002 ⟨rfl, rfl⟩) (zoa_c (zoa_w 4215 ⟨rfl, rfl⟩) (zoa_c (zoa_n 8 rfl rfl) (zoa_0)))))))))))))))
set_option maxRecDepth 100000 in
theorem zoa_r3 : ∀ x ∈ zoaL "java/util/NoSuchElementException", zoaP x := zoa_c (zoa_w 5134 ⟨rfl, rfl⟩) (zoa_c (zoa_n 2 rfl rfl) (zoa_c (zoa_w 5136 ⟨rfl, rfl⟩) (zoa_c (zoa_w 4226 ⟨rfl, rfl⟩) (zoa_c (zoa_w 5137 ⟨rfl, rfl⟩) (zoa_c (zoa_w 5138 ⟨rfl, rfl⟩) (zoa_c (zoa_w 5139 ⟨rfl, rfl⟩) (zoa_c (zoa_w 5140 ⟨rfl, rfl⟩) (zoa_c (zoa_b rfl) (zoa_c (zoa_b rfl) (zoa_c (zoa_w 4213 ⟨rfl, rfl⟩) (zoa_c (zoa_w 4212 ⟨rfl, rfl⟩) (zoa_c (zoa_w 5141 ⟨rfl, rfl⟩) (zoa_0)))))))))))))
theorem zoa_all (E : Nat) (hE : E < 4) (h2 : E ≠ 2) : (∀ x ∈ Bundle.chain0Atoms (zen E) zoaN, zoaP x) ∧ ∀ x ∈ zoaL (zen E), zoaP x := by
  match E, hE, h2 with
  | 0, _, _ => exact ⟨zoa_ch0, zoa_r0⟩
  | 1, _, _ => exact ⟨zoa_ch1, zoa_r1⟩
  | 2, _, h => exact absurd rfl h
  | 3, _, _ => exact ⟨zoa_ch3, zoa_r3⟩
theorem zoa_own {own : String} {ic E : Nat} (hE : E < 4) (h2E : E ≠ 2) : ∀ w ∈ vx_at0 own ic (zen E) zoaN, w = .methodLink own ic (Bundle.init0 (zen E)) ∨ ((w ∈ lw_tbl ∧ goodWord w = true) ∨ (w ∈ zNws ∧ w.onTables = true)) := by
  intro w hw
  obtain ⟨h1, h2⟩ := List.mem_filter.mp hw
  unfold Bundle.ownAtoms0 at h1
  rcases List.mem_append.mp h1 with h1 | h1
  · rcases List.mem_append.mp h1 with h1 | h1
    · exact Or.inr (zoa_t w h1 h2)
    · exact Or.inr ((zoa_all E hE h2E).1 w h1 h2)
  · rcases List.mem_cons.mp h1 with rfl | h1
    · exact Or.inl rfl
    · exact Or.inr ((zoa_all E hE h2E).2 w h1 h2)
