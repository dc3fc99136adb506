/-! The words of the throws. -/
def zoaP (w : Cond) : Prop := vx_no w = true → ((w ∈ lw_tbl ∧ goodWord w = true) ∨ (w ∈ zNws ∧ w.onTables = true))
theorem zoa_w {w : Cond} (p : Nat) (h : zinP w p) : zoaP w := fun _ => Or.inl ⟨zin_ok h, h.2⟩
theorem zoa_n {w : Cond} (i : Nat) (h : zNws[i]? = some w) (h2 : w.onTables = true) : zoaP w := fun _ => Or.inr ⟨List.mem_of_getElem? h, h2⟩
theorem zoa_b {w : Cond} (h : vx_no w = false) : zoaP w := fun g => absurd (g.symm.trans h) (by decide)
theorem zoa_c {w : Cond} {l : List Cond} (h : zoaP w) (t : ∀ x ∈ l, zoaP x) : ∀ x ∈ w :: l, zoaP x := fun x hx => by
  rcases List.mem_cons.mp hx with rfl | hx
  · exact h
  · exact t x hx
theorem zoa_0 : ∀ x ∈ ([] : List Cond), zoaP x := fun x hx => nomatch hx
def zoaN : List String := ["java/lang/RuntimeException", "java/lang/Exception"]
def zoaL (X : String) : List Cond := [.instantiable X 6, .castable X X, .selects X Bundle.tFill0 Bundle.tFill0, .selects X Bundle.tFill Bundle.tFill, .lays X Bundle.tN "cause" "Ljava/lang/Throwable;", .lays X Bundle.tN "stackTrace" Bundle.steD, .lays X Bundle.tN "suppressedExceptions" Bundle.listD, .lays X Bundle.tN "detailMessage" "Ljava/lang/String;", .isRef (.static Bundle.tN "UNASSIGNED_STACK" Bundle.steD), .isRef (.static Bundle.tN "SUPPRESSED_SENTINEL" Bundle.listD), .fieldLink Bundle.tN 198 Bundle.tN "backtrace" "Ljava/lang/Object;", .lays Bundle.tN Bundle.tN "backtrace" "Ljava/lang/Object;", .lays X Bundle.tN "backtrace" "Ljava/lang/Object;"]
set_option maxRecDepth 100000 in
theorem zoa_t : ∀ x ∈ Bundle.throwableAtoms, zoaP x := zoa_c (zoa_w 1021 ⟨rfl, rfl⟩) (zoa_c (zoa_w 5079 ⟨rfl, rfl⟩) (zoa_c (zoa_w 5088 ⟨rfl, rfl⟩) (zoa_c (zoa_w 5093 ⟨rfl, rfl⟩) (zoa_c (zoa_w 5096 ⟨rfl, rfl⟩) (zoa_c (zoa_w 5098 ⟨rfl, rfl⟩) (zoa_c (zoa_w 5080 ⟨rfl, rfl⟩) (zoa_c (zoa_w 5081 ⟨rfl, rfl⟩) (zoa_c (zoa_w 1038 ⟨rfl, rfl⟩) (zoa_c (zoa_w 1039 ⟨rfl, rfl⟩) (zoa_c (zoa_w 5082 ⟨rfl, rfl⟩) (zoa_c (zoa_w 5087 ⟨rfl, rfl⟩) (zoa_c (zoa_w 5094 ⟨rfl, rfl⟩) (zoa_c (zoa_w 5110 ⟨rfl, rfl⟩) (zoa_c (zoa_w 5069 ⟨rfl, rfl⟩) (zoa_c (zoa_w 5111 ⟨rfl, rfl⟩) (zoa_c (zoa_w 5071 ⟨rfl, rfl⟩) (zoa_c (zoa_w 5112 ⟨rfl, rfl⟩) (zoa_c (zoa_w 5073 ⟨rfl, rfl⟩) (zoa_c (zoa_w 5083 ⟨rfl, rfl⟩) (zoa_c (zoa_b rfl) (zoa_c (zoa_w 5085 ⟨rfl, rfl⟩) (zoa_c (zoa_b rfl) (zoa_c (zoa_w 5075 ⟨rfl, rfl⟩) (zoa_0))))))))))))))))))))))))
set_option maxRecDepth 100000 in
theorem zoa_ch0 : ∀ x ∈ Bundle.chain0Atoms "java/lang/IllegalArgumentException" zoaN, zoaP x := zoa_c (zoa_w 5147 ⟨rfl, rfl⟩) (zoa_c (zoa_w 5148 ⟨rfl, rfl⟩) (zoa_c (zoa_w 5149 ⟨rfl, rfl⟩) (zoa_c (zoa_w 5103 ⟨rfl, rfl⟩) (zoa_c (zoa_n 5 rfl rfl) (zoa_c (zoa_w 5103 ⟨rfl, rfl⟩) (zoa_c (zoa_w 5104 ⟨rfl, rfl⟩) (zoa_c (zoa_w 5105 ⟨rfl, rfl⟩) (zoa_c (zoa_w 5106 ⟨rfl, rfl⟩) (zoa_c (zoa_n 7 rfl rfl) (zoa_c (zoa_w 5106 ⟨rfl, rfl⟩) (zoa_c (zoa_w 5107 ⟨rfl, rfl⟩) (zoa_c (zoa_w 5108 ⟨rfl, rfl⟩) (zoa_c (zoa_w 5080 ⟨rfl, rfl⟩) (zoa_c (zoa_n 9 rfl rfl) (zoa_0)))))))))))))))
set_option maxRecDepth 100000 in
theorem zoa_r0 : ∀ x ∈ zoaL "java/lang/IllegalArgumentException", zoaP x := zoa_c (zoa_w 5138 ⟨rfl, rfl⟩) (zoa_c (zoa_n 0 rfl rfl) (zoa_c (zoa_w 5140 ⟨rfl, rfl⟩) (zoa_c (zoa_w 5090 ⟨rfl, rfl⟩) (zoa_c (zoa_w 5141 ⟨rfl, rfl⟩) (zoa_c (zoa_w 5142 ⟨rfl, rfl⟩) (zoa_c (zoa_w 5143 ⟨rfl, rfl⟩) (zoa_c (zoa_w 5144 ⟨rfl, rfl⟩) (zoa_c (zoa_b rfl) (zoa_c (zoa_b rfl) (zoa_c (zoa_w 5078 ⟨rfl, rfl⟩) (zoa_c (zoa_w 5077 ⟨rfl, rfl⟩) (zoa_c (zoa_w 5145 ⟨rfl, rfl⟩) (zoa_0)))))))))))))
set_option maxRecDepth 100000 in
theorem zoa_ch1 : ∀ x ∈ Bundle.chain0Atoms "java/lang/IllegalStateException" zoaN, zoaP x := zoa_c (zoa_w 5100 ⟨rfl, rfl⟩) (zoa_c (zoa_w 5101 ⟨rfl, rfl⟩) (zoa_c (zoa_w 5102 ⟨rfl, rfl⟩) (zoa_c (zoa_w 5103 ⟨rfl, rfl⟩) (zoa_c (zoa_n 5 rfl rfl) (zoa_c (zoa_w 5103 ⟨rfl, rfl⟩) (zoa_c (zoa_w 5104 ⟨rfl, rfl⟩) (zoa_c (zoa_w 5105 ⟨rfl, rfl⟩) (zoa_c (zoa_w 5106 ⟨rfl, rfl⟩) (zoa_c (zoa_n 7 rfl rfl) (zoa_c (zoa_w 5106 ⟨rfl, rfl⟩) (zoa_c (zoa_w 5107 ⟨rfl, rfl⟩) (zoa_c (zoa_w 5108 ⟨rfl, rfl⟩) (zoa_c (zoa_w 5080 ⟨rfl, rfl⟩) (zoa_c (zoa_n 9 rfl rfl) (zoa_0)))))))))))))))
set_option maxRecDepth 100000 in
theorem zoa_r1 : ∀ x ∈ zoaL "java/lang/IllegalStateException", zoaP x := zoa_c (zoa_w 5058 ⟨rfl, rfl⟩) (zoa_c (zoa_n 1 rfl rfl) (zoa_c (zoa_w 5066 ⟨rfl, rfl⟩) (zoa_c (zoa_w 5067 ⟨rfl, rfl⟩) (zoa_c (zoa_w 5068 ⟨rfl, rfl⟩) (zoa_c (zoa_w 5070 ⟨rfl, rfl⟩) (zoa_c (zoa_w 5072 ⟨rfl, rfl⟩) (zoa_c (zoa_w 5074 ⟨rfl, rfl⟩) (zoa_c (zoa_b rfl) (zoa_c (zoa_b rfl) (zoa_c (zoa_w 5078 ⟨rfl, rfl⟩) (zoa_c (zoa_w 5077 ⟨rfl, rfl⟩) (zoa_c (zoa_w 5076 ⟨rfl, rfl⟩) (zoa_0)))))))))))))
set_option maxRecDepth 100000 in
theorem zoa_ch2 : ∀ x ∈ Bundle.chain0Atoms "java/lang/IndexOutOfBoundsException" zoaN, zoaP x := zoa_c (zoa_w 7008 ⟨rfl, rfl⟩) (zoa_c (zoa_w 7009 ⟨rfl, rfl⟩) (zoa_c (zoa_w 7010 ⟨rfl, rfl⟩) (zoa_c (zoa_w 5103 ⟨rfl, rfl⟩) (zoa_c (zoa_n 5 rfl rfl) (zoa_c (zoa_w 5103 ⟨rfl, rfl⟩) (zoa_c (zoa_w 5104 ⟨rfl, rfl⟩) (zoa_c (zoa_w 5105 ⟨rfl, rfl⟩) (zoa_c (zoa_w 5106 ⟨rfl, rfl⟩) (zoa_c (zoa_n 7 rfl rfl) (zoa_c (zoa_w 5106 ⟨rfl, rfl⟩) (zoa_c (zoa_w 5107 ⟨rfl, rfl⟩) (zoa_c (zoa_w 5108 ⟨rfl, rfl⟩) (zoa_c (zoa_w 5080 ⟨rfl, rfl⟩) (zoa_c (zoa_n 9 rfl rfl) (zoa_0)))))))))))))))
set_option maxRecDepth 100000 in
theorem zoa_r2 : ∀ x ∈ zoaL "java/lang/IndexOutOfBoundsException", zoaP x := zoa_c (zoa_w 6239 ⟨rfl, rfl⟩) (zoa_c (zoa_n 2 rfl rfl) (zoa_c (zoa_w 7001 ⟨rfl, rfl⟩) (zoa_c (zoa_w 5091 ⟨rfl, rfl⟩) (zoa_c (zoa_w 7002 ⟨rfl, rfl⟩) (zoa_c (zoa_w 7003 ⟨rfl, rfl⟩) (zoa_c (zoa_w 7004 ⟨rfl, rfl⟩) (zoa_c (zoa_w 7005 ⟨rfl, rfl⟩) (zoa_c (zoa_b rfl) (zoa_c (zoa_b rfl) (zoa_c (zoa_w 5078 ⟨rfl, rfl⟩) (zoa_c (zoa_w 5077 ⟨rfl, rfl⟩) (zoa_c (zoa_w 7006 ⟨rfl, rfl⟩) (zoa_0)))))))))))))
set_option maxRecDepth 100000 in
theorem zoa_ch3 : ∀ x ∈ Bundle.chain0Atoms "java/util/NoSuchElementException" zoaN, zoaP x := zoa_c (zoa_w 5201 ⟨rfl, rfl⟩) (zoa_c (zoa_w 5202 ⟨rfl, rfl⟩) (zoa_c (zoa_w 5203 ⟨rfl, rfl⟩) (zoa_c (zoa_w 5103 ⟨rfl, rfl⟩) (zoa_c (zoa_n 5 rfl rfl) (zoa_c (zoa_w 5103 ⟨rfl, rfl⟩) (zoa_c (zoa_w 5104 ⟨rfl, rfl⟩) (zoa_c (zoa_w 5105 ⟨rfl, rfl⟩) (zoa_c (zoa_w 5106 ⟨rfl, rfl⟩) (zoa_c (zoa_n 7 rfl rfl) (zoa_c (zoa_w 5106 ⟨rfl, rfl⟩) (zoa_c (zoa_w 5107 ⟨rfl, rfl⟩) (zoa_c (zoa_w 5108 ⟨rfl, rfl⟩) (zoa_c (zoa_w 5080 ⟨rfl, rfl⟩) (zoa_c (zoa_n 9 rfl rfl) (zoa_0)))))))))))))))
set_option maxRecDepth 100000 in
theorem zoa_r3 : ∀ x ∈ zoaL "java/util/NoSuchElementException", zoaP x := zoa_c (zoa_w 5192 ⟨rfl, rfl⟩) (zoa_c (zoa_n 3 rfl rfl) (zoa_c (zoa_w 5194 ⟨rfl, rfl⟩) (zoa_c (zoa_w 5092 ⟨rfl, rfl⟩) (zoa_c (zoa_w 5195 ⟨rfl, rfl⟩) (zoa_c (zoa_w 5196 ⟨rfl, rfl⟩) (zoa_c (zoa_w 5197 ⟨rfl, rfl⟩) (zoa_c (zoa_w 5198 ⟨rfl, rfl⟩) (zoa_c (zoa_b rfl) (zoa_c (zoa_b rfl) (zoa_c (zoa_w 5078 ⟨rfl, rfl⟩) (zoa_c (zoa_w 5077 ⟨rfl, rfl⟩) (zoa_c (zoa_w 5199 ⟨rfl, rfl⟩) (zoa_0)))))))))))))
theorem zoa_all (E : Nat) (hE : E < 4) : (∀ x ∈ Bundle.chain0Atoms (zen E) zoaN, zoaP x) ∧ ∀ x ∈ zoaL (zen E), zoaP x := by
  match E, hE with
  | 0, _ => exact ⟨zoa_ch0, zoa_r0⟩
  | 1, _ => exact ⟨zoa_ch1, zoa_r1⟩
  | 2, _ => exact ⟨zoa_ch2, zoa_r2⟩
  | 3, _ => exact ⟨zoa_ch3, zoa_r3⟩
theorem zoa_own {own : String} {ic E : Nat} (hE : E < 4) : ∀ w ∈ vx_at0 own ic (zen E) zoaN, w = .methodLink own ic (Bundle.init0 (zen E)) ∨ ((w ∈ lw_tbl ∧ goodWord w = true) ∨ (w ∈ zNws ∧ w.onTables = true)) := by
  intro w hw
  obtain ⟨h1, h2⟩ := List.mem_filter.mp hw
  unfold Bundle.ownAtoms0 at h1
  rcases List.mem_append.mp h1 with h1 | h1
  · rcases List.mem_append.mp h1 with h1 | h1
    · exact Or.inr (zoa_t w h1 h2)
    · exact Or.inr ((zoa_all E hE).1 w h1 h2)
  · rcases List.mem_cons.mp h1 with rfl | h1
    · exact Or.inl rfl
    · exact Or.inr ((zoa_all E hE).2 w h1 h2)
