/-! PURE READING, 13: the class's Text -/
def cT (h : PH) (t n : Nat) (cf : Nat → Int32) : Prop := h t = some (.inr (.inr (3, [.ref (t + 1), .int (nI n)]))) ∧ h (t + 1) = some (.inl (60, cf))
def repX (h : PH) (t : Nat) (B : List Nat) : Prop := ∃ cf, cT h t B.length cf ∧ ∀ i c, B[i]? = some c → cf i = nI c
def wfX (B : List Nat) : Prop := B.length ≤ 60 ∧ ∀ c ∈ B, 33 ≤ c ∧ c ≤ 126
def dueN (d c : Nat) : Nat := if d = 0 then (if 97 ≤ c ∧ c ≤ 104 then 2 else if c = 45 then 3 else if c = 60 then 6 else if c = 114 then 1 else 7)
  else if d = 1 then (if c = 54 then 5 else if 49 ≤ c ∧ c ≤ 53 then 4 else if 55 ≤ c ∧ c ≤ 57 then 6 else 7)
  else if d = 2 then (if c = 49 then 4 else if 48 ≤ c ∧ c ≤ 57 then 6 else 7)
  else if d = 3 then (if 97 ≤ c ∧ c ≤ 104 then 6 else 7)
  else if d = 4 then (if 48 ≤ c ∧ c ≤ 57 then 6 else if c = 44 then 0 else 7)
  else if d = 5 then (if c = 48 then 6 else if c = 44 then 0 else 7)
  else if d = 6 then (if c = 44 then 0 else 7)
  else 7
def dueS (B : List Nat) : Nat → Nat
  | 0 => 0
  | n + 1 => dueN (dueS B n) (B.getD n 0)
def numI (B : List Nat) (a : Nat) : Nat → Int32
  | 0 => 0
  | k + 1 => ((10 : Int32) * numI B a k + nI (B.getD (a + k) 0)) - (48 : Int32)
section TextOps
variable {h : PH} {t n : Nat} {cf : Nat → Int32} {B : List Nat}
theorem cT.ok (H : cT h t n cf) : okO h t 3 = true := okO_of H.1
theorem cT.r0 (H : cT h t n cf) : rdR h t 3 0 = some (t + 1) := rdR_of H.1 rfl
theorem cT.r1 (H : cT h t n cf) : rdI h t 3 1 = some (nI n) := rdI_of H.1 rfl
theorem cT.n0 (H : cT h t n cf) : lnA h (t + 1) = some (nI 60) := lnA_I H.2
theorem dueN_le (d c : Nat) : dueN d c ≤ 7 := by
  unfold dueN
  repeat' split
  all_goals omega
theorem dueS_le (B : List Nat) (n : Nat) : dueS B n ≤ 7 := by
  cases n with
  | zero => exact Nat.zero_le _
  | succ n => exact dueN_le _ _
theorem getD_le (W : wfX B) {i : Nat} (hi : i < B.length) : 33 ≤ B.getD i 0 ∧ B.getD i 0 ≤ 126 := by
  rw [List.getD_eq_getElem?_getD, List.getElem?_eq_getElem hi]
  exact W.2 _ (List.getElem_mem hi)
end TextOps
