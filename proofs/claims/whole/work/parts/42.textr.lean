/-! PURE READING, 13: the class's Text -/
def cT (h : PH) (t n : Nat) (cf : Nat → Int32) : Prop := h t = some (.inr (.inr (3, [.ref (t + 1), .int (nI n)]))) ∧ h (t + 1) = some (.inl (60, cf))
def repX (h : PH) (t : Nat) (B : List Nat) : Prop := ∃ cf, cT h t B.length cf ∧ ∀ i c, B[i]? = some c → cf i = nI c
def wfX (B : List Nat) : Prop := B.length ≤ 60 ∧ ∀ c ∈ B, 33 ≤ c ∧ c ≤ 126
def dueN (d c : Nat) : Nat := if d = 0 then (if 97 ≤ c ∧ c ≤ 104 then 2 else if c = 45 then 3 else if c = 60 then 6 else if c = 114 then 1 else 7)
  else if d = 1 then (if c = 54 then 5 else if 49 ≤ c ∧ c ≤ 53 then 4 else if 55 ≤ c ∧ c ≤ 57 then 6 else 7)
  else if d = 2 then (if c = 49 then 4 else if 48 ≤ c ∧ c ≤ 57 then 6 else 7)
  else if d = 3 then (if 97 ≤ c ∧ c ≤ 104 then 6 else 7)
  else if d = 4 then (if 48 ≤ c ∧ c ≤ 57 then 6 else if c = 44 then 0 else 7)
  else if d = 5 then (if c = 48 then 6 else if c = 44 then 0 else 7)
  else if d = 6 then (if c = 44 then 0 else 7)
  else 7
def dueS (B : List Nat) : Nat → Nat
  | 0 => 0
  | n + 1 => dueN (dueS B n) (B.getD n 0)
def numI (B : List Nat) (a : Nat) : Nat → Int32
  | 0 => 0
  | k + 1 => ((10 : Int32) * numI B a k + nI (B.getD (a + k) 0)) - (48 : Int32)
section TextOps
variable {h : PH} {t n : Nat} {cf : Nat → Int32} {B : List Nat}
theorem cT.ok (H : cT h t n cf) : okO h t 3 = true := okO_of H.1
theorem cT.r0 (H : cT h t n cf) : rdR h t 3 0 = some (t + 1) := rdR_of H.1 rfl
theorem cT.r1 (H : cT h t n cf) : rdI h t 3 1 = some (nI n) := rdI_of H.1 rfl
theorem cT.n0 (H : cT h t n cf) : lnA h (t + 1) = some (nI 60) := lnA_I H.2
theorem T_length (H : repX h t B) : f_X4_length h t = some (nI B.length) := by
  obtain ⟨cf, H1, -⟩ := H
  simp only [f_X4_length, H1.ok, H1.r1, if_true, Option.bind_some]
theorem T_isFull (W : wfX B) (H : repX h t B) : f_X4_isFull h t = some (if B.length < 60 then 0 else 1) := by
  obtain ⟨cf, H1, -⟩ := H
  simp only [f_X4_isFull, f_X4_isFull_J17, H1.ok, H1.r0, H1.r1, H1.n0, if_true, Option.bind_some]
  by_cases c : B.length < 60
  · rw [if_pos c, if_pos (nI_lt c (by omega))]
    rfl
  · have := W.1
    rw [if_neg c, if_neg (nI_nlt (by omega) (by omega))]
    rfl
theorem T_codeAt (W : wfX B) (H : repX h t B) {i : Nat} (hi : i < B.length) : f_X4_codeAt h t (nI i) = some (nI (B.getD i 0)) := by
  obtain ⟨cf, H1, H2⟩ := H
  have := W.1
  have c1 : ¬ nI i < 0 := nI_pos (by omega)
  have c2 : ¬ nI B.length ≤ nI i := nI_ge hi (by omega)
  have c3 : ¬ nI 60 ≤ nI i := nI_ge (by omega) (by omega)
  have c4 : cf i = nI (B.getD i 0) := by
    rw [H2 i _ (List.getElem?_eq_getElem hi), List.getD_eq_getElem?_getD, List.getElem?_eq_getElem hi]
    rfl
  simp only [f_X4_codeAt, f_X4_codeAt_J31, H1.ok, H1.r0, H1.r1, H1.n0, if_true, Option.bind_some, if_neg c1, if_neg c2, if_neg c3, ldI_of H1.2 (show i < 60 by omega) (by omega), c4]
theorem dueN_all : ∀ d : Fin 8, ∀ c : Fin 127, f_X4_dueBehind (fun _ => none) (nI d) (nI c) = some (nI (dueN d c)) := by decide +kernel
theorem dueN_le (d c : Nat) : dueN d c ≤ 7 := by
  unfold dueN
  repeat' split
  all_goals omega
theorem dueS_le (B : List Nat) (n : Nat) : dueS B n ≤ 7 := by
  cases n with
  | zero => exact Nat.zero_le _
  | succ n => exact dueN_le _ _
theorem X4_dueBehind {d c : Nat} (hd : d ≤ 7) (hc : c ≤ 126) : f_X4_dueBehind h (nI d) (nI c) = some (nI (dueN d c)) := by
  have h1 := dueN_all ⟨d, by omega⟩ ⟨c, by omega⟩
  exact h1
theorem getD_le (W : wfX B) {i : Nat} (hi : i < B.length) : 33 ≤ B.getD i 0 ∧ B.getD i 0 ≤ 126 := by
  rw [List.getD_eq_getElem?_getD, List.getElem?_eq_getElem hi]
  exact W.2 _ (List.getElem_mem hi)
theorem T_firstWrong (W : wfX B) (H : repX h t B) : f_X4_firstWrong h t = some (nI ((fst9 (fun j => decide (dueS B (j + 1) = 7)) 0 B.length).getD B.length)) := by
  have HH := H
  obtain ⟨cf, H1, -⟩ := H
  have hn := W.1
  have hb : ∀ j, 0 ≤ j → j < 0 + B.length → f_X4_firstWrong_L4 h t ((fun j => (nI (dueS B j), nI j)) j) = some (if (fun j => decide (dueS B (j + 1) = 7)) j = true then .inr ((fun j => (.inr (nI j) : Unit ⊕ Int32)) j) else .inl ((fun j => (nI (dueS B j), nI j)) (j + 1))) := by
    intro j _ hj
    have hj2 : j < B.length := by omega
    have c2 : ¬ nI B.length ≤ nI j := nI_ge hj2 (by omega)
    have h1 := dueS_le B j
    have h3 := dueS_le B (j + 1)
    have h4 : f_X4_dueBehind h (nI (dueS B j)) (nI (B.getD j 0)) = some (nI (dueS B (j + 1))) := X4_dueBehind h1 (getD_le W hj2).2
    simp only [f_X4_firstWrong_L4, H1.r1, Option.bind_some, if_neg c2, T_codeAt W HH hj2, h4, nI_1]
    by_cases hu : dueS B (j + 1) = 7
    · simp only [hu, decide_true, if_true]
      rfl
    · have c5 : ¬ nI (dueS B (j + 1)) = 7 := fun q => hu ((nI_eq (b := 7) (by omega) (by omega)).mp q)
      simp only [hu, decide_false, if_pos c5, Bool.false_eq_true, if_false]
  have he : f_X4_firstWrong_L4 h t ((fun j => (nI (dueS B j), nI j)) (0 + B.length)) = some (.inr (.inl ())) := by
    have c2 : nI B.length ≤ nI B.length := nI_le (Nat.le_refl _) (by omega)
    simp only [Nat.zero_add, f_X4_firstWrong_L4, H1.r1, Option.bind_some, if_pos c2]
  have hw := lpn_find (fun j => (nI (dueS B j), nI j)) (fun j => decide (dueS B (j + 1) = 7)) (fun j => (.inr (nI j) : Unit ⊕ Int32)) (.inl ()) B.length 0 LF hb he (by unfold LF; omega)
  have hw0 : lpn (f_X4_firstWrong_L4 h t) LF (0, 0) = _ := hw
  cases hf : fst9 (fun j => decide (dueS B (j + 1) = 7)) 0 B.length with
  | none =>
    rw [hf] at hw0
    simp only [f_X4_firstWrong, f_X4_firstWrong_J36, H1.ok, H1.r1, if_true, hw0, Option.bind_some]
    rfl
  | some j =>
    rw [hf] at hw0
    simp only [f_X4_firstWrong, H1.ok, if_true, hw0, Option.bind_some]
    rfl
theorem T_isComplete (W : wfX B) (H : repX h t B) : f_X4_isComplete h t = some (bI (decide (dueS B B.length = 4 ∨ dueS B B.length = 5 ∨ dueS B B.length = 6))) := by
  have HH := H
  obtain ⟨cf, H1, -⟩ := H
  have hn := W.1
  have hb : ∀ j, 0 ≤ j → j < 0 + B.length → f_X4_isComplete_L4 h t ((fun j => (nI (dueS B j), nI j)) j) = some (.inl ((fun j => (nI (dueS B j), nI j)) (j + 1))) := by
    intro j _ hj
    have hj2 : j < B.length := by omega
    have c2 : ¬ nI B.length ≤ nI j := nI_ge hj2 (by omega)
    have h4 : f_X4_dueBehind h (nI (dueS B j)) (nI (B.getD j 0)) = some (nI (dueS B (j + 1))) := X4_dueBehind (dueS_le B j) (getD_le W hj2).2
    simp only [f_X4_isComplete_L4, H1.r1, Option.bind_some, if_neg c2, T_codeAt W HH hj2, h4, nI_1]
  have he : f_X4_isComplete_L4 h t ((fun j => (nI (dueS B j), nI j)) (0 + B.length)) = some (.inr (nI (dueS B B.length))) := by
    have c2 : nI B.length ≤ nI B.length := nI_le (Nat.le_refl _) (by omega)
    simp only [Nat.zero_add, f_X4_isComplete_L4, H1.r1, Option.bind_some, if_pos c2]
  have hw := lpn_run (fun j => (nI (dueS B j), nI j)) _ B.length 0 LF hb he (by unfold LF; omega)
  have hw0 : lpn (f_X4_isComplete_L4 h t) LF (0, 0) = some (nI (dueS B B.length)) := hw
  have h7 := dueS_le B B.length
  simp only [f_X4_isComplete, H1.ok, if_true, hw0, Option.bind_some]
  generalize dueS B B.length = d at h7
  have h8 : ∀ d : Fin 8, f_X4_isComplete_J28 (fun _ => none) (nI d) = some (bI (decide ((d : Nat) = 4 ∨ (d : Nat) = 5 ∨ (d : Nat) = 6))) := by decide +kernel
  exact h8 ⟨d, by omega⟩
theorem T_partEnd (W : wfX B) (H : repX h t B) {a : Nat} (ha : a ≤ B.length) : f_X4_partEnd h t (nI a) = some (nI ((fst9 (fun j => decide (B.getD j 0 = 44)) a (B.length - a)).getD B.length)) := by
  have HH := H
  obtain ⟨cf, H1, -⟩ := H
  have hn := W.1
  have hb : ∀ j, a ≤ j → j < a + (B.length - a) → f_X4_partEnd_L2 h t ((fun j => nI j) j) = some (if (fun j => decide (B.getD j 0 = 44)) j = true then .inr ((fun j => (.inr (nI j) : Unit ⊕ Int32)) j) else .inl ((fun j => nI j) (j + 1))) := by
    intro j _ hj
    have hj2 : j < B.length := by omega
    have c2 : ¬ nI B.length ≤ nI j := nI_ge hj2 (by omega)
    have h1 := getD_le W hj2
    simp only [f_X4_partEnd_L2, H1.r1, Option.bind_some, if_neg c2, T_codeAt W HH hj2, nI_1]
    by_cases hu : B.getD j 0 = 44
    · have c5 : nI 44 = (44 : Int32) := rfl
      simp only [hu, c5, decide_true, if_true, not_true_eq_false, if_false]
    · have c5 : ¬ nI (B.getD j 0) = 44 := fun q => hu ((nI_eq (b := 44) (by omega) (by omega)).mp q)
      simp only [hu, decide_false, if_pos c5, Bool.false_eq_true, if_false]
  have he : f_X4_partEnd_L2 h t ((fun j => nI j) (a + (B.length - a))) = some (.inr (.inl ())) := by
    have c2 : nI B.length ≤ nI (a + (B.length - a)) := nI_le (by omega) (by omega)
    simp only [f_X4_partEnd_L2, H1.r1, Option.bind_some, if_pos c2]
  have hw := lpn_find (fun j => nI j) (fun j => decide (B.getD j 0 = 44)) (fun j => (.inr (nI j) : Unit ⊕ Int32)) (.inl ()) (B.length - a) a LF hb he (by unfold LF; omega)
  cases hf : fst9 (fun j => decide (B.getD j 0 = 44)) a (B.length - a) with
  | none =>
    rw [hf] at hw
    simp only [f_X4_partEnd, f_X4_partEnd_J28, H1.ok, H1.r1, if_true, hw, Option.bind_some]
    rfl
  | some j =>
    rw [hf] at hw
    simp only [f_X4_partEnd, H1.ok, if_true, hw, Option.bind_some]
    rfl
end TextOps
