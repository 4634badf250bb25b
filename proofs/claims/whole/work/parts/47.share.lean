/-! PURE READING, 18: the bits of a share: a number that doubling brings to 1 -/
def frc {α : Type} (n : Nat) (f : Nat → α) : α := Nat.rec (motive := fun _ => α) (f 0) (fun k _ => f (k + 1)) n
theorem frc_eq {α : Type} (n : Nat) (f : Nat → α) : frc n f = f n := by cases n <;> rfl
def shr9 (k n : Nat) : UInt64 := FP.ddiv (FP.i2d (nI k)) (FP.i2d (nI n))
def ge1 (v : UInt64) : Bool := decide (0 ≤ (Op.cmpValue (FP.dcmp v FP.dconst1) .g))
def dbl9 : Nat → Nat → Option (Nat × Nat)
  | 0, _ => none
  | m + 1, w => if ge1 (.ofNat w) = true then some (0, w) else frc (FP.dmul (.ofNat w) (4611686018427387904 : UInt64)).toNat fun w' => if nn64 (.ofNat w') = true then (dbl9 m w').map (fun q => (q.1 + 1, q.2)) else none
def chk9 (v : UInt64) : Bool := frc v.toNat fun w => nn64 (.ofNat w) && decide (¬ (Op.cmpValue (FP.dcmp (.ofNat w) FP.dconst0) .l) = 0) && (match dbl9 9 w with
  | some q => frc q.2 fun w2 => nn64 (FP.dsub (.ofNat w2) FP.dconst1) && nn64 (FP.dmul (FP.dsub (.ofNat w2) FP.dconst1) (4841369599423283200 : UInt64))
  | none => false)
set_option maxRecDepth 100000 in
theorem chk_1 : ∀ n : Fin 40, ∀ k : Fin (n + 1), chk9 (shr9 (k + 1) (n + 1)) = true := by decide +kernel
