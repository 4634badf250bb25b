/-! PURE READING, 18: the bits of a share -/
def shr9 (k n : Nat) : UInt64 := FP.ddiv (FP.i2d (nI k)) (FP.i2d (nI n))
def chk9 (v : UInt64) : Bool := nn64 v && (match f_X1_bitsOfShare (fun _ => none) v, f_X6_bitsOf (fun _ => none) v with
  | some a, some b => decide (a = b)
  | _, _ => false)
set_option maxRecDepth 100000 in
theorem chk_8 : ∀ n : Fin 8, ∀ k : Fin (n + 2), chk9 (shr9 k (n + 1)) = true := by decide +kernel
