/-! PURE READING, 18: the bits of a share: a number that doubling brings to 1 -/
def shr9 (k n : Nat) : UInt64 := FP.ddiv (FP.i2d (nI k)) (FP.i2d (nI n))
def ge1 (v : UInt64) : Bool := decide (0 ≤ (Op.cmpValue (FP.dcmp v FP.dconst1) .g))
def dbl9 : Nat → UInt64 → Option (Nat × UInt64)
  | 0, _ => none
  | m + 1, v => if ge1 v = true then some (0, v) else if nn64 (FP.dmul v (4611686018427387904 : UInt64)) = true then (dbl9 m (FP.dmul v (4611686018427387904 : UInt64))).map (fun q => (q.1 + 1, q.2)) else none
def chk9 (v : UInt64) : Bool := nn64 v && decide (¬ (Op.cmpValue (FP.dcmp v FP.dconst0) .l) = 0) && (match dbl9 9 v with
  | some q => nn64 (FP.dsub q.2 FP.dconst1) && nn64 (FP.dmul (FP.dsub q.2 FP.dconst1) (4841369599423283200 : UInt64))
  | none => false)
set_option maxRecDepth 100000 in
theorem chk_1 : ∀ n : Fin 40, ∀ k : Fin (n + 1), chk9 (shr9 (k + 1) (n + 1)) = true := by decide +kernel
