/-! The start: the first text. -/
def fpL : List Int := [112, 114, 111, 111, 102, 32, 108, 116, 32, 97, 32, 51, 32, 97, 110, 100, 32, 101, 113, 32, 97, 32, 48, 32, 101, 113, 32, 98, 32, 50, 32, 115, 101, 116, 32, 98, 32, 50, 32, 119, 104, 105, 108, 101, 32, 108, 116, 32, 48, 32, 97, 32, 107, 101, 101, 112, 32, 101, 113, 32, 98, 32, 50, 32, 108, 101, 115, 115, 32, 97, 32, 115, 101, 116, 32, 97, 32, 109, 105, 110, 117, 115, 32, 97, 32, 49, 32, 101, 110, 100, 32, 104, 111, 108, 101]
def fpI (k : Nat) : Int := fpL.getD k 0
theorem fp_len : fpL.length = 95 := by decide
def fpT : PSt := txtP fpI 95 (begS fpI 95 0 (fun _ => 0))
theorem fp_err : fpT.2.1.1 = 0 ∧ fpT.2.2.1.1 = 4 ∧ fpT.2.2.1.2.1 = 0 := by decide +kernel
theorem fp_R : ∀ k : Fin 240, fpT.2.2.1.2.2.1 k.val = upL (fun _ => 0) mRls k.val := by decide +kernel
theorem fp_N : ∀ k : Fin 2342, fpT.2.2.1.2.2.2 k.val = upL (fun _ => 0) mNls k.val := by decide +kernel


