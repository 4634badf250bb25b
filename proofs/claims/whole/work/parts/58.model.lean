/-! PURE READING, 27: the reference's object: its cells -/
def cM (h : PH) (m : Nat) (I : Nat → Int32) (F : Nat → Nat → Int32) (J : Int64) : Prop := h m = some (.inr (.inr (5, [.int (I 0), .ref (m + 1), .ref (m + 2), .ref (m + 3), .int (I 4), .ref (m + 4), .int (I 6), .ref (m + 5), .int (I 8), .ref (m + 6), .int (I 10), .int (I 11), .int (I 12), .int (I 13), .int (I 14), .long J]))) ∧ h (m + 1) = some (.inl (84, F 1)) ∧ h (m + 2) = some (.inl (84, F 2)) ∧ h (m + 3) = some (.inl (84, F 3)) ∧ h (m + 4) = some (.inl (504, F 5)) ∧ h (m + 5) = some (.inl (60, F 7)) ∧ h (m + 6) = some (.inl (18, F 9))
def upF (F : Nat → Nat → Int32) (k : Nat) (f : Nat → Int32) : Nat → Nat → Int32 := fun j => if j = k then f else F j
def onM (m : Nat) (h h' : PH) : Prop := ∀ b, b < m ∨ m + 7 ≤ b → h' b = h b
theorem onM.rf {m : Nat} {h : PH} : onM m h h := fun _ _ => rfl
theorem onM.tr {m : Nat} {h h' h'' : PH} (a : onM m h h') (b : onM m h' h'') : onM m h h'' := fun q hq => (b q hq).trans (a q hq)
section ModelCells
variable {h : PH} {m : Nat} {I : Nat → Int32} {F : Nat → Nat → Int32} {J : Int64}
theorem cM.ok (H : cM h m I F J) : okO h m 5 = true := okO_of H.1
theorem cM.i0 (H : cM h m I F J) : rdI h m 5 0 = some (I 0) := rdI_of H.1 rfl
theorem cM.i4 (H : cM h m I F J) : rdI h m 5 4 = some (I 4) := rdI_of H.1 rfl
theorem cM.i6 (H : cM h m I F J) : rdI h m 5 6 = some (I 6) := rdI_of H.1 rfl
theorem cM.i8 (H : cM h m I F J) : rdI h m 5 8 = some (I 8) := rdI_of H.1 rfl
theorem cM.i10 (H : cM h m I F J) : rdI h m 5 10 = some (I 10) := rdI_of H.1 rfl
theorem cM.i11 (H : cM h m I F J) : rdI h m 5 11 = some (I 11) := rdI_of H.1 rfl
theorem cM.i12 (H : cM h m I F J) : rdI h m 5 12 = some (I 12) := rdI_of H.1 rfl
theorem cM.i13 (H : cM h m I F J) : rdI h m 5 13 = some (I 13) := rdI_of H.1 rfl
theorem cM.i14 (H : cM h m I F J) : rdI h m 5 14 = some (I 14) := rdI_of H.1 rfl
theorem cM.j (H : cM h m I F J) : rdJ h m 5 15 = some J := rdJ_of H.1 rfl
theorem cM.r1 (H : cM h m I F J) : rdR h m 5 1 = some (m + 1) := rdR_of H.1 rfl
theorem cM.l1 (H : cM h m I F J) {i : Nat} (hi : i < 84) : ldI h (m + 1) (nI i) = some (F 1 i) := ldI_of H.2.1 hi (by omega)
theorem cM.r2 (H : cM h m I F J) : rdR h m 5 2 = some (m + 2) := rdR_of H.1 rfl
theorem cM.l2 (H : cM h m I F J) {i : Nat} (hi : i < 84) : ldI h (m + 2) (nI i) = some (F 2 i) := ldI_of H.2.2.1 hi (by omega)
theorem cM.r3 (H : cM h m I F J) : rdR h m 5 3 = some (m + 3) := rdR_of H.1 rfl
theorem cM.l3 (H : cM h m I F J) {i : Nat} (hi : i < 84) : ldI h (m + 3) (nI i) = some (F 3 i) := ldI_of H.2.2.2.1 hi (by omega)
theorem cM.r5 (H : cM h m I F J) : rdR h m 5 5 = some (m + 4) := rdR_of H.1 rfl
theorem cM.l5 (H : cM h m I F J) {i : Nat} (hi : i < 504) : ldI h (m + 4) (nI i) = some (F 5 i) := ldI_of H.2.2.2.2.1 hi (by omega)
theorem cM.r7 (H : cM h m I F J) : rdR h m 5 7 = some (m + 5) := rdR_of H.1 rfl
theorem cM.l7 (H : cM h m I F J) {i : Nat} (hi : i < 60) : ldI h (m + 5) (nI i) = some (F 7 i) := ldI_of H.2.2.2.2.2.1 hi (by omega)
theorem cM.r9 (H : cM h m I F J) : rdR h m 5 9 = some (m + 6) := rdR_of H.1 rfl
theorem cM.l9 (H : cM h m I F J) {i : Nat} (hi : i < 18) : ldI h (m + 6) (nI i) = some (F 9 i) := ldI_of H.2.2.2.2.2.2 hi (by omega)
theorem cM.w0 (H : cM h m I F J) (v : Int32) : ∃ h', wrF h m 5 0 (.int v) = some h' ∧ cM h' m (upd I 0 v) F J ∧ onM m h h' := ⟨_, wrF_of (.int v) H.1 (by simp), ⟨pu_s, (pu_n (by omega)).trans H.2.1, (pu_n (by omega)).trans H.2.2.1, (pu_n (by omega)).trans H.2.2.2.1, (pu_n (by omega)).trans H.2.2.2.2.1, (pu_n (by omega)).trans H.2.2.2.2.2.1, (pu_n (by omega)).trans H.2.2.2.2.2.2⟩, fun b hb => pu_n (by omega)⟩
theorem cM.w4 (H : cM h m I F J) (v : Int32) : ∃ h', wrF h m 5 4 (.int v) = some h' ∧ cM h' m (upd I 4 v) F J ∧ onM m h h' := ⟨_, wrF_of (.int v) H.1 (by simp), ⟨pu_s, (pu_n (by omega)).trans H.2.1, (pu_n (by omega)).trans H.2.2.1, (pu_n (by omega)).trans H.2.2.2.1, (pu_n (by omega)).trans H.2.2.2.2.1, (pu_n (by omega)).trans H.2.2.2.2.2.1, (pu_n (by omega)).trans H.2.2.2.2.2.2⟩, fun b hb => pu_n (by omega)⟩
theorem cM.w6 (H : cM h m I F J) (v : Int32) : ∃ h', wrF h m 5 6 (.int v) = some h' ∧ cM h' m (upd I 6 v) F J ∧ onM m h h' := ⟨_, wrF_of (.int v) H.1 (by simp), ⟨pu_s, (pu_n (by omega)).trans H.2.1, (pu_n (by omega)).trans H.2.2.1, (pu_n (by omega)).trans H.2.2.2.1, (pu_n (by omega)).trans H.2.2.2.2.1, (pu_n (by omega)).trans H.2.2.2.2.2.1, (pu_n (by omega)).trans H.2.2.2.2.2.2⟩, fun b hb => pu_n (by omega)⟩
theorem cM.w8 (H : cM h m I F J) (v : Int32) : ∃ h', wrF h m 5 8 (.int v) = some h' ∧ cM h' m (upd I 8 v) F J ∧ onM m h h' := ⟨_, wrF_of (.int v) H.1 (by simp), ⟨pu_s, (pu_n (by omega)).trans H.2.1, (pu_n (by omega)).trans H.2.2.1, (pu_n (by omega)).trans H.2.2.2.1, (pu_n (by omega)).trans H.2.2.2.2.1, (pu_n (by omega)).trans H.2.2.2.2.2.1, (pu_n (by omega)).trans H.2.2.2.2.2.2⟩, fun b hb => pu_n (by omega)⟩
theorem cM.w10 (H : cM h m I F J) (v : Int32) : ∃ h', wrF h m 5 10 (.int v) = some h' ∧ cM h' m (upd I 10 v) F J ∧ onM m h h' := ⟨_, wrF_of (.int v) H.1 (by simp), ⟨pu_s, (pu_n (by omega)).trans H.2.1, (pu_n (by omega)).trans H.2.2.1, (pu_n (by omega)).trans H.2.2.2.1, (pu_n (by omega)).trans H.2.2.2.2.1, (pu_n (by omega)).trans H.2.2.2.2.2.1, (pu_n (by omega)).trans H.2.2.2.2.2.2⟩, fun b hb => pu_n (by omega)⟩
theorem cM.w11 (H : cM h m I F J) (v : Int32) : ∃ h', wrF h m 5 11 (.int v) = some h' ∧ cM h' m (upd I 11 v) F J ∧ onM m h h' := ⟨_, wrF_of (.int v) H.1 (by simp), ⟨pu_s, (pu_n (by omega)).trans H.2.1, (pu_n (by omega)).trans H.2.2.1, (pu_n (by omega)).trans H.2.2.2.1, (pu_n (by omega)).trans H.2.2.2.2.1, (pu_n (by omega)).trans H.2.2.2.2.2.1, (pu_n (by omega)).trans H.2.2.2.2.2.2⟩, fun b hb => pu_n (by omega)⟩
theorem cM.w12 (H : cM h m I F J) (v : Int32) : ∃ h', wrF h m 5 12 (.int v) = some h' ∧ cM h' m (upd I 12 v) F J ∧ onM m h h' := ⟨_, wrF_of (.int v) H.1 (by simp), ⟨pu_s, (pu_n (by omega)).trans H.2.1, (pu_n (by omega)).trans H.2.2.1, (pu_n (by omega)).trans H.2.2.2.1, (pu_n (by omega)).trans H.2.2.2.2.1, (pu_n (by omega)).trans H.2.2.2.2.2.1, (pu_n (by omega)).trans H.2.2.2.2.2.2⟩, fun b hb => pu_n (by omega)⟩
theorem cM.w13 (H : cM h m I F J) (v : Int32) : ∃ h', wrF h m 5 13 (.int v) = some h' ∧ cM h' m (upd I 13 v) F J ∧ onM m h h' := ⟨_, wrF_of (.int v) H.1 (by simp), ⟨pu_s, (pu_n (by omega)).trans H.2.1, (pu_n (by omega)).trans H.2.2.1, (pu_n (by omega)).trans H.2.2.2.1, (pu_n (by omega)).trans H.2.2.2.2.1, (pu_n (by omega)).trans H.2.2.2.2.2.1, (pu_n (by omega)).trans H.2.2.2.2.2.2⟩, fun b hb => pu_n (by omega)⟩
theorem cM.w14 (H : cM h m I F J) (v : Int32) : ∃ h', wrF h m 5 14 (.int v) = some h' ∧ cM h' m (upd I 14 v) F J ∧ onM m h h' := ⟨_, wrF_of (.int v) H.1 (by simp), ⟨pu_s, (pu_n (by omega)).trans H.2.1, (pu_n (by omega)).trans H.2.2.1, (pu_n (by omega)).trans H.2.2.2.1, (pu_n (by omega)).trans H.2.2.2.2.1, (pu_n (by omega)).trans H.2.2.2.2.2.1, (pu_n (by omega)).trans H.2.2.2.2.2.2⟩, fun b hb => pu_n (by omega)⟩
theorem cM.wJ (H : cM h m I F J) (v : Int64) : ∃ h', wrF h m 5 15 (.long v) = some h' ∧ cM h' m I F v ∧ onM m h h' := ⟨_, wrF_of (.long v) H.1 (by simp), ⟨pu_s, (pu_n (by omega)).trans H.2.1, (pu_n (by omega)).trans H.2.2.1, (pu_n (by omega)).trans H.2.2.2.1, (pu_n (by omega)).trans H.2.2.2.2.1, (pu_n (by omega)).trans H.2.2.2.2.2.1, (pu_n (by omega)).trans H.2.2.2.2.2.2⟩, fun b hb => pu_n (by omega)⟩
theorem cM.s1 (H : cM h m I F J) {i : Nat} (hi : i < 84) (x : Int32) : ∃ h', stI h (m + 1) (nI i) x = some h' ∧ cM h' m I (upF F 1 (upd (F 1) i x)) J ∧ onM m h h' := ⟨_, stI_of x H.2.1 hi (by omega), ⟨(pu_n (by omega)).trans H.1, pu_s, (pu_n (by omega)).trans H.2.2.1, (pu_n (by omega)).trans H.2.2.2.1, (pu_n (by omega)).trans H.2.2.2.2.1, (pu_n (by omega)).trans H.2.2.2.2.2.1, (pu_n (by omega)).trans H.2.2.2.2.2.2⟩, fun b hb => pu_n (by omega)⟩
theorem cM.s2 (H : cM h m I F J) {i : Nat} (hi : i < 84) (x : Int32) : ∃ h', stI h (m + 2) (nI i) x = some h' ∧ cM h' m I (upF F 2 (upd (F 2) i x)) J ∧ onM m h h' := ⟨_, stI_of x H.2.2.1 hi (by omega), ⟨(pu_n (by omega)).trans H.1, (pu_n (by omega)).trans H.2.1, pu_s, (pu_n (by omega)).trans H.2.2.2.1, (pu_n (by omega)).trans H.2.2.2.2.1, (pu_n (by omega)).trans H.2.2.2.2.2.1, (pu_n (by omega)).trans H.2.2.2.2.2.2⟩, fun b hb => pu_n (by omega)⟩
theorem cM.s3 (H : cM h m I F J) {i : Nat} (hi : i < 84) (x : Int32) : ∃ h', stI h (m + 3) (nI i) x = some h' ∧ cM h' m I (upF F 3 (upd (F 3) i x)) J ∧ onM m h h' := ⟨_, stI_of x H.2.2.2.1 hi (by omega), ⟨(pu_n (by omega)).trans H.1, (pu_n (by omega)).trans H.2.1, (pu_n (by omega)).trans H.2.2.1, pu_s, (pu_n (by omega)).trans H.2.2.2.2.1, (pu_n (by omega)).trans H.2.2.2.2.2.1, (pu_n (by omega)).trans H.2.2.2.2.2.2⟩, fun b hb => pu_n (by omega)⟩
theorem cM.s5 (H : cM h m I F J) {i : Nat} (hi : i < 504) (x : Int32) : ∃ h', stI h (m + 4) (nI i) x = some h' ∧ cM h' m I (upF F 5 (upd (F 5) i x)) J ∧ onM m h h' := ⟨_, stI_of x H.2.2.2.2.1 hi (by omega), ⟨(pu_n (by omega)).trans H.1, (pu_n (by omega)).trans H.2.1, (pu_n (by omega)).trans H.2.2.1, (pu_n (by omega)).trans H.2.2.2.1, pu_s, (pu_n (by omega)).trans H.2.2.2.2.2.1, (pu_n (by omega)).trans H.2.2.2.2.2.2⟩, fun b hb => pu_n (by omega)⟩
theorem cM.s7 (H : cM h m I F J) {i : Nat} (hi : i < 60) (x : Int32) : ∃ h', stI h (m + 5) (nI i) x = some h' ∧ cM h' m I (upF F 7 (upd (F 7) i x)) J ∧ onM m h h' := ⟨_, stI_of x H.2.2.2.2.2.1 hi (by omega), ⟨(pu_n (by omega)).trans H.1, (pu_n (by omega)).trans H.2.1, (pu_n (by omega)).trans H.2.2.1, (pu_n (by omega)).trans H.2.2.2.1, (pu_n (by omega)).trans H.2.2.2.2.1, pu_s, (pu_n (by omega)).trans H.2.2.2.2.2.2⟩, fun b hb => pu_n (by omega)⟩
theorem cM.s9 (H : cM h m I F J) {i : Nat} (hi : i < 18) (x : Int32) : ∃ h', stI h (m + 6) (nI i) x = some h' ∧ cM h' m I (upF F 9 (upd (F 9) i x)) J ∧ onM m h h' := ⟨_, stI_of x H.2.2.2.2.2.2 hi (by omega), ⟨(pu_n (by omega)).trans H.1, (pu_n (by omega)).trans H.2.1, (pu_n (by omega)).trans H.2.2.1, (pu_n (by omega)).trans H.2.2.2.1, (pu_n (by omega)).trans H.2.2.2.2.1, (pu_n (by omega)).trans H.2.2.2.2.2.1, pu_s⟩, fun b hb => pu_n (by omega)⟩
theorem cM.only (H : cM h m I F J) {h' : PH} (ho : ∀ b, m ≤ b → b < m + 7 → h' b = h b) : cM h' m I F J := ⟨(ho m (by omega) (by omega)).trans H.1, (ho _ (by omega) (by omega)).trans H.2.1, (ho _ (by omega) (by omega)).trans H.2.2.1, (ho _ (by omega) (by omega)).trans H.2.2.2.1, (ho _ (by omega) (by omega)).trans H.2.2.2.2.1, (ho _ (by omega) (by omega)).trans H.2.2.2.2.2.1, (ho _ (by omega) (by omega)).trans H.2.2.2.2.2.2⟩
theorem upF_upF (F : Nat → Nat → Int32) (k : Nat) (a b : Nat → Int32) : upF (upF F k a) k b = upF F k b := by
  funext j
  show (if j = k then b else (if j = k then a else F j)) = (if j = k then b else F j)
  by_cases hj : j = k
  · rw [if_pos hj, if_pos hj]
  · rw [if_neg hj, if_neg hj, if_neg hj]
theorem upd_upd (f : Nat → Int32) (k : Nat) (a b : Int32) : upd (upd f k a) k b = upd f k b := by
  funext j
  show (if j = k then b else (if j = k then a else f j)) = (if j = k then b else f j)
  by_cases hj : j = k
  · rw [if_pos hj, if_pos hj]
  · rw [if_neg hj, if_neg hj, if_neg hj]
theorem upF_self (F : Nat → Nat → Int32) (k : Nat) : upF F k (F k) = F := by
  funext j
  show (if j = k then F k else F j) = F j
  by_cases hj : j = k
  · rw [if_pos hj, hj]
  · rw [if_neg hj]
end ModelCells
-- what is asked of arguments
theorem z0 (a : Int32) : (0 : Int32) + a = a := Int32.zero_add a
theorem M_of (h : PH) (r w : Nat) : f_X6_of h (nI r) (nI w) = some (nI (12 + 18 * r + w)) := by
  have e1 : (18 : Int32) * nI r = nI (18 * r) := nI_mul 18 r
  have e2 : (12 : Int32) + nI (18 * r) = nI (12 + 18 * r) := nI_add 12 _
  simp only [f_X6_of, e1, e2, nI_add]
theorem M_of0 (h : PH) (r : Nat) : f_X6_of h (nI r) 0 = some (nI (12 + 18 * r)) := M_of h r 0
theorem M_of1 (h : PH) (r : Nat) : f_X6_of h (nI r) 1 = some (nI (13 + 18 * r)) := by
  have e1 : f_X6_of h (nI r) 1 = some (nI (12 + 18 * r + 1)) := M_of h r 1
  rw [e1, show 12 + 18 * r + 1 = 13 + 18 * r by omega]
theorem M_of2 (h : PH) (r k : Nat) : f_X6_of h (nI r) ((2 : Int32) + nI k) = some (nI (14 + 18 * r + k)) := by
  have e0 : (2 : Int32) + nI k = nI (2 + k) := nI_add 2 k
  rw [e0, M_of, show 12 + 18 * r + (2 + k) = 14 + 18 * r + k by omega]
theorem M_of10 (h : PH) (r k : Nat) : f_X6_of h (nI r) ((10 : Int32) + nI k) = some (nI (22 + 18 * r + k)) := by
  have e0 : (10 : Int32) + nI k = nI (10 + k) := nI_add 10 k
  rw [e0, M_of, show 12 + 18 * r + (10 + k) = 22 + 18 * r + k by omega]
theorem bI_z01 (b : Bool) : z01 (bI b) = true := by cases b <;> rfl
theorem bI_0 (b : Bool) : bI b = 0 ↔ b = false := by
  cases b
  · exact ⟨fun _ => rfl, fun _ => rfl⟩
  · exact ⟨fun h => absurd h (by decide), fun h => by cases h⟩
theorem M_in (h : PH) (a lo hi : Int32) : f_X6_in h a lo hi = some (bI (decide (lo ≤ a ∧ a ≤ hi))) := by
  by_cases c1 : a < lo
  · have e1 : decide (lo ≤ a ∧ a ≤ hi) = false := decide_eq_false (fun q => absurd q.1 (Int32.not_le.mpr c1))
    rw [e1]
    simp only [f_X6_in, f_X6_in_J14, f_X6_in_J15, if_pos c1]
    rfl
  · by_cases c2 : hi < a
    · have e1 : decide (lo ≤ a ∧ a ≤ hi) = false := decide_eq_false (fun q => absurd q.2 (Int32.not_le.mpr c2))
      rw [e1]
      simp only [f_X6_in, f_X6_in_J14, f_X6_in_J15, if_neg c1, if_pos c2]
      rfl
    · have e1 : decide (lo ≤ a ∧ a ≤ hi) = true := decide_eq_true ⟨Int32.not_lt.mp c1, Int32.not_lt.mp c2⟩
      rw [e1]
      simp only [f_X6_in, f_X6_in_J15, if_neg c1, if_neg c2]
      rfl
theorem M_btw (h : PH) (a : Int32) {lo hi : Nat} (h1 : lo ≤ hi + 1) (h2 : hi < 2 ^ 31 - 1) : f_X6_in h a (nI lo) (nI hi) = some (bI (btw lo hi a).isSome) := by
  rw [M_in]
  congr 2
  cases hb : btw lo hi a with
  | none =>
    refine decide_eq_false (fun q => ?_)
    rcases btw_none h1 h2 hb with c | ⟨c1, c2⟩
    · exact absurd q.1 (Int32.not_le.mpr c)
    · exact c2 q.2
  | some n =>
    obtain ⟨b1, b2, rfl⟩ := btw_some h2 hb
    exact decide_eq_true ⟨nI_le b1 (by omega), nI_le b2 (by omega)⟩
theorem M_rng (h : PH) (a : Int32) {n : Nat} (h2 : n < 2 ^ 31) : f_X6_in h a 0 (nI n - 1) = some (bI (rng n a).isSome) := by
  rw [M_in]
  congr 2
  cases hb : rng n a with
  | none =>
    refine decide_eq_false (fun q => ?_)
    rcases rng_none hb with c | ⟨c1, c2⟩
    · exact absurd q.1 (Int32.not_le.mpr c)
    · by_cases hn : n = 0
      · subst hn
        have e1 : nI 0 - 1 = (-1 : Int32) := by decide
        rw [e1] at q
        exact absurd (Int32.le_trans q.1 q.2) (by decide)
      · have e1 : nI n - 1 = nI (n - 1) := nI_sub (b := 1) (by omega)
        rw [e1] at q
        obtain ⟨j, hj, rfl⟩ := nI_of c1
        have h3 := (nI_leI hj (by omega)).mp q.2
        have h4 := (nI_leI h2 hj).mp c2
        omega
  | some u =>
    obtain ⟨b1, rfl⟩ := rng_some h2 hb
    have e1 : nI n - 1 = nI (n - 1) := nI_sub (b := 1) (by omega)
    rw [e1]
    exact decide_eq_true ⟨nI_pos' (by omega), nI_le (by omega) (by omega)⟩
theorem M_isHue (h : PH) (a : Int32) : f_X6_isHue h a = some (bI (rng 8 a).isSome) := by
  have e1 : f_X6_in h a 0 (7 : Int32) = some (bI (rng 8 a).isSome) := M_rng h a (n := 8) (by omega)
  simp only [f_X6_isHue, e1, Option.bind_some, bI_z01, if_true]
/-- a rope in the cells of the row -/
def repQ (s : Nat → Int32) (i : Nat) (X : Nat × List (Nat × Nat)) : Prop := s (12 + 18 * i) = nI X.1 ∧ s (13 + 18 * i) = nI X.2.length ∧ (∀ k q, X.2[k]? = some q → s (14 + 18 * i + k) = nI q.1) ∧ ∀ u, u < 8 → s (22 + 18 * i + u) = oI (phs X.2 u)
def repA (s : Nat → Int32) (T : TTt) : Prop := (∀ u, u < 8 → s u = nI (T.1 u)) ∧ s 8 = nI T.2.1.length ∧ (s 9 = T.2.2.1 ∧ s 10 = T.2.2.2.1 ∧ s 11 = T.2.2.2.2) ∧ ∀ i X, T.2.1[i]? = some X → repQ s i X
def repM (h : PH) (m : Nat) (t : Int32) (A : AAt) : Prop := ∃ I F J, cM h m I F J ∧ I 0 = t ∧ repA (F 1) A.1 ∧ (I 4 = bI A.2.2.1.isSome ∧ ∀ T, A.2.2.1 = some T → repA (F 3) T) ∧ (I 6 = nI A.2.1.length ∧ ∀ k T, A.2.1[k]? = some T → repA (fun j => F 5 (84 * k + j)) T) ∧ I 8 = nI A.2.2.2.length ∧ ∀ i c, A.2.2.2[i]? = some c → F 7 i = nI c
/-- what a rope is, as far as the reference's cells tell it -/
def wfQ (g : Nat → Nat) (L : List (Nat × Nat)) : Prop := (L.map Prod.fst).Nodup ∧ ∀ q ∈ L, q.1 < 8 ∧ q.2 < g q.1
theorem wfR.q {g : Nat → Nat} {len : Nat} {L : List (Nat × Nat)} (W : wfR g len L) : wfQ g L := ⟨W.2.1, fun q hq => ⟨(W.2.2.1 q hq).1, (W.2.2.1 q hq).2.2⟩⟩
theorem wfQ.le8 {g : Nat → Nat} {L : List (Nat × Nat)} (W : wfQ g L) : L.length ≤ 8 := by
  have h1 : (L.map Prod.fst) ⊆ List.range 8 := by
    intro u hu
    obtain ⟨q, hq, rfl⟩ := List.mem_map.mp hu
    exact List.mem_range.mpr (W.2 q hq).1
  have h2 := List.Nodup.length_le_of_subset W.1 h1
  rw [List.length_map, List.length_range] at h2
  exact h2
theorem phs_lt {g : Nat → Nat} (hg : wfg g) {L : List (Nat × Nat)} (W : wfQ g L) {u p : Nat} (h : phs L u = some p) : p < g u ∧ g u ≤ 20 := ⟨(W.2 _ (phs_mem h)).2, (hg u).2⟩
/-- a hue takes a place -/
def tkU (g : Nat → Nat) (L : List (Nat × Nat)) (u i : Nat) : Bool := match phs L u with
  | none => false
  | some p => tkb g (u, p) i
theorem tkU_mem {g : Nat → Nat} {L : List (Nat × Nat)} {u i : Nat} (h : tkU g L u i = true) : ∃ p, (u, p) ∈ L ∧ tkb g (u, p) i = true := by
  unfold tkU at h
  cases hp : phs L u with
  | none => rw [hp] at h; cases h
  | some p => rw [hp] at h; exact ⟨p, phs_mem hp, h⟩
theorem tkU_of {g : Nat → Nat} {L : List (Nat × Nat)} (hn : (L.map Prod.fst).Nodup) {q : Nat × Nat} (hq : q ∈ L) {i : Nat} : tkU g L q.1 i = tkb g q i := by
  unfold tkU
  rw [phs_of hn (show (q.1, q.2) ∈ L from hq)]
section ModelReads
variable {h : PH} {m : Nat} {I : Nat → Int32} {F : Nat → Nat → Int32} {J : Int64} {g : Nat → Nat} {i : Nat} {X : Nat × List (Nat × Nat)}
theorem M_isRope (H : cM h m I F J) {n : Nat} (hn : n ≤ 4) (h8 : F 1 8 = nI n) (a : Int32) : f_X6_isRope h m a = some (bI (rng n a).isSome) := by
  have e1 : ldI h (m + 1) (8 : Int32) = some (F 1 8) := H.l1 (i := 8) (by omega)
  simp only [f_X6_isRope, H.ok, H.r1, if_true, e1, h8, M_rng h a (show n < 2 ^ 31 by omega), Option.bind_some, bI_z01]
theorem M_isPhase (H : cM h m I F J) {u : Nat} (hu : u < 8) (hG : F 1 u = nI (g u)) (hg : g u ≤ 20) (a : Int32) : f_X6_isPhase h m (nI u) a = some (bI (rng (g u) a).isSome) := by
  simp only [f_X6_isPhase, H.ok, H.r1, if_true, z0, H.l1 (show u < 84 by omega), hG, M_rng h a (show g u < 2 ^ 31 by omega), Option.bind_some, bI_z01]
theorem M_phaseOf (H : cM h m I F J) (hi : i < 4) (HQ : repQ (F 1) i X) {u : Nat} (hu : u < 8) : f_X6_phaseOf h m (nI i) (nI u) = some (oI (phs X.2 u)) := by
  simp only [f_X6_phaseOf, H.ok, H.r1, if_true, M_of10, H.l1 (show 22 + 18 * i + u < 84 by omega), HQ.2.2.2 u hu, Option.bind_some]
theorem oI_neg (x : Option Nat) (hx : ∀ n, x = some n → n < 2 ^ 31) : (oI x < 0) ↔ x = none := by
  cases x with
  | none => exact ⟨fun _ => rfl, fun _ => by decide⟩
  | some n => exact ⟨fun q => absurd q (nI_pos (hx n rfl)), fun q => by cases q⟩
theorem M_isLaid (H : cM h m I F J) (hi : i < 4) (HQ : repQ (F 1) i X) (hg : wfg g) (W : wfQ g X.2) {u : Nat} (hu : u < 8) : f_X6_isLaid h m (nI i) (nI u) = some (bI (phs X.2 u).isSome) := by
  have e1 := oI_neg (phs X.2 u) (fun n hn => by have := phs_lt hg W hn; omega)
  simp only [f_X6_isLaid, f_X6_isLaid_J14, H.ok, if_true, M_phaseOf H hi HQ hu, Option.bind_some]
  cases hp : phs X.2 u with
  | none =>
    rw [hp] at e1
    rw [if_pos (e1.mpr rfl)]
    rfl
  | some p =>
    rw [hp] at e1
    rw [if_neg (fun q => by cases e1.mp q)]
    rfl
theorem M_takes (H : cM h m I F J) (hi : i < 4) (HQ : repQ (F 1) i X) (hG : ∀ u, u < 8 → F 1 u = nI (g u)) (hg : wfg g) (W : wfQ g X.2) {u p : Nat} (hu : u < 8) (hp : p ≤ 1000) : f_X6_takes h m (nI i) (nI u) (nI p) = some (bI (tkU g X.2 u p)) := by
  have hgu := hg u
  have e1 := oI_neg (phs X.2 u) (fun n hn => by have := phs_lt hg W hn; omega)
  simp only [f_X6_takes, f_X6_takes_J39, f_X6_takes_J40, H.ok, H.r1, if_true, M_phaseOf H hi HQ hu, Option.bind_some, z0, H.l1 (show u < 84 by omega), hG u hu]
  unfold tkU
  cases hq : phs X.2 u with
  | none =>
    rw [hq] at e1
    rw [if_pos (e1.mpr rfl)]
    rfl
  | some p0 =>
    rw [hq] at e1
    show _ = some (bI (tkb g (u, p0) p))
    rw [if_neg (fun q => by cases e1.mp q)]
    have h1 := phs_lt hg W hq
    have b0 : ¬ nI (g u) = 0 := nI_ne0 (by omega) (by omega)
    show (if nI p < nI p0 then _ else _) = _
    by_cases hlt : p < p0
    · have e2 : tkb g (u, p0) p = false := decide_eq_false (fun q => by omega)
      rw [if_pos (nI_lt hlt (by omega)), e2]
      rfl
    · rw [if_neg (nI_nlt (by omega) (by omega)), if_pos b0]
      show (if ¬ nI p - nI p0 - (nI p - nI p0) / nI (g u) * nI (g u) = 0 then _ else _) = _
      rw [nI_sub (by omega), nI_rem (by omega) (by omega) (by omega)]
      have hlt2 := Nat.mod_lt (p - p0) (show 0 < g u by omega)
      by_cases hz : (p - p0) % g u = 0
      · have e2 : tkb g (u, p0) p = true := decide_eq_true ⟨by omega, hz⟩
        rw [hz, e2]
        rfl
      · have e2 : tkb g (u, p0) p = false := decide_eq_false (fun q => hz q.2)
        rw [if_pos (nI_ne0 (by omega) (by omega)), e2]
        rfl
theorem M_hueAt' (H : cM h m I F J) (hi : i < 4) (HQ : repQ (F 1) i X) (hG : ∀ u, u < 8 → F 1 u = nI (g u)) (hg : wfg g) (W : wfQ g X.2) {p : Nat} (hp : p ≤ 1000) : f_X6_hueAt h m (nI i) (nI p) = some (oI (lst9 (fun u => tkU g X.2 u p) 8)) := by
  have hb : ∀ j, 0 ≤ j → j < 0 + 8 → f_X6_hueAt_L5 h m (nI i) (nI p) ((fun j => (oI (lst9 (fun u => tkU g X.2 u p) j), nI j)) j) = some (.inl ((fun j => (oI (lst9 (fun u => tkU g X.2 u p) j), nI j)) (j + 1))) := by
    intro j _ hj
    have b1 : ¬ (8 : Int32) ≤ nI j := nI_ge (b := 8) (by omega) (by omega)
    simp only [f_X6_hueAt_L5, f_X6_hueAt_J29, if_neg b1, M_takes H hi HQ hG hg W (show j < 8 by omega) hp, Option.bind_some, lst9, nI_1]
    by_cases ht : tkU g X.2 j p = true
    · simp only [ht, if_true]
      rfl
    · have ht : tkU g X.2 j p = false := by simpa using ht
      simp only [ht, bI, Bool.false_eq_true, if_false, if_true]
  have he : f_X6_hueAt_L5 h m (nI i) (nI p) ((fun j => (oI (lst9 (fun u => tkU g X.2 u p) j), nI j)) (0 + 8)) = some (.inr (oI (lst9 (fun u => tkU g X.2 u p) 8))) := by
    have b1 : (8 : Int32) ≤ nI 8 := nI_le (a := 8) (Nat.le_refl _) (by omega)
    simp only [Nat.zero_add, f_X6_hueAt_L5, if_pos b1]
  have hw := lpn_run (fun j => (oI (lst9 (fun u => tkU g X.2 u p) j), nI j)) _ 8 0 LF hb he (by unfold LF; omega)
  have hw0 : lpn (f_X6_hueAt_L5 h m (nI i) (nI p)) LF (-1, 0) = _ := hw
  simp only [f_X6_hueAt, f_X6_hueAt_J36, H.ok, if_true, hw0, Option.bind_some]
theorem tkU_col {len p : Nat} {L : List (Nat × Nat)} (W : wfR g len L) (hp : p < len) : lst9 (fun u => tkU g L u p) 8 = col g L p := by
  cases hc : col g L p with
  | none =>
    have h1 := col_none.mp hc
    cases hl : lst9 (fun u => tkU g L u p) 8 with
    | none => rfl
    | some u =>
      obtain ⟨-, h2, -⟩ := lst9_some hl
      obtain ⟨q, m1, m2⟩ := tkU_mem h2
      rw [h1 _ m1] at m2
      cases m2
  | some u =>
    obtain ⟨p0, m1, m2⟩ := col_mem hc
    refine lst9_of (col_lt W hc) ((tkU_of W.2.1 m1).trans m2) (fun v h1 h2 => ?_)
    cases ht : tkU g L v p with
    | false => rfl
    | true =>
      obtain ⟨q, n1, n2⟩ := tkU_mem ht
      have h3 := W.2.2.2 _ m1 _ n1 p hp m2 n2
      have h4 : u = v := congrArg Prod.fst h3
      omega
theorem M_hueAt (H : cM h m I F J) (hi : i < 4) (HQ : repQ (F 1) i X) (hG : ∀ u, u < 8 → F 1 u = nI (g u)) (hg : wfg g) (W : wfR g X.1 X.2) {p : Nat} (hp : p < X.1) : f_X6_hueAt h m (nI i) (nI p) = some (oI (col g X.2 p)) := by
  have := W.1.2
  rw [M_hueAt' H hi HQ hG hg W.q (by omega), tkU_col W hp]
theorem cnt_perm {L : List (Nat × Nat)} (hn : (L.map Prod.fst).Nodup) (P : Nat → Bool) : ∀ n, cnt9 (fun u => (L.map Prod.fst).contains u && P u) n = (L.filter (fun q => decide (q.1 < n) && P q.1)).length := by
  intro n
  induction n with
  | zero =>
    symm
    show _ = 0
    rw [List.length_eq_zero_iff, List.filter_eq_nil_iff]
    intro q _
    simp
  | succ n ih =>
    simp only [cnt9]
    rw [ih]
    have h1 : ∀ L : List (Nat × Nat), (L.map Prod.fst).Nodup → (L.filter (fun q => decide (q.1 < n + 1) && P q.1)).length = (L.filter (fun q => decide (q.1 < n) && P q.1)).length + (if ((L.map Prod.fst).contains n && P n) = true then 1 else 0) := by
      intro L
      induction L with
      | nil => intro _; rfl
      | cons a L ih2 =>
        intro hn2
        rw [List.map_cons, List.nodup_cons] at hn2
        have h2 := ih2 hn2.2
        by_cases ha : a.1 = n
        · have h3 : (L.map Prod.fst).contains n = false := by
            rw [← ha]
            simpa using hn2.1
          rw [h3] at h2
          have h4 : ((a :: L).map Prod.fst).contains n = true := by
            rw [List.map_cons, List.contains_cons, ha]
            simp
          rw [h4]
          have h5 : (decide (a.1 < n) && P a.1) = false := by rw [ha]; simp
          rw [List.filter_cons, List.filter_cons, h5]
          by_cases hP : P n = true
          · have h6 : (decide (a.1 < n + 1) && P a.1) = true := by rw [ha, hP]; simp
            rw [h6, hP]
            simp only [if_true, List.length_cons, Bool.true_and, Bool.false_and, Bool.false_eq_true, if_false] at h2 ⊢
            omega
          · have h6 : (decide (a.1 < n + 1) && P a.1) = false := by rw [ha]; simp [hP]
            have h7 : P n = false := by simpa using hP
            rw [h6, h7]
            rw [h7] at h2
            simp only [Bool.and_false, Bool.false_eq_true, if_false] at h2 ⊢
            omega
        · have h4 : ((a :: L).map Prod.fst).contains n = (L.map Prod.fst).contains n := by
            rw [List.map_cons, List.contains_cons]
            have : (n == a.1) = false := by simpa using fun q => ha q.symm
            rw [this, Bool.false_or]
          have h5 : decide (a.1 < n + 1) = decide (a.1 < n) := by
            by_cases h9 : a.1 < n
            · simp [h9]; omega
            · have : ¬ a.1 < n + 1 := by omega
              simp [h9, this]
          rw [h4, List.filter_cons, List.filter_cons, h5]
          by_cases h6 : (decide (a.1 < n) && P a.1) = true
          · rw [if_pos h6, if_pos h6, List.length_cons, List.length_cons, h2]
            omega
          · rw [if_neg h6, if_neg h6, h2]
    exact (h1 L hn).symm
theorem tkU_cnt {L : List (Nat × Nat)} (W : wfQ g L) (p : Nat) : cnt9 (fun u => tkU g L u p) 8 = cntT g L p := by
  have h1 := cnt_perm W.1 (fun u => tkU g L u p) 8
  rw [cnt9_congr (Q := fun u => tkU g L u p) (fun u _ => ?_)] at h1
  · rw [h1]
    unfold cntT
    congr 1
    refine List.filter_congr (fun q hq => ?_)
    have h2 := (W.2 q hq).1
    rw [tkU_of W.1 hq]
    simp [h2]
  · cases ht : tkU g L u p with
    | false => rw [Bool.and_false]
    | true =>
      obtain ⟨q, m1, -⟩ := tkU_mem ht
      have h3 : (L.map Prod.fst).contains u = true := by
        rw [List.contains_iff_mem]
        exact List.mem_map.mpr ⟨_, m1, rfl⟩
      rw [h3, Bool.true_and]
theorem M_takers (H : cM h m I F J) (hi : i < 4) (HQ : repQ (F 1) i X) (hG : ∀ u, u < 8 → F 1 u = nI (g u)) (hg : wfg g) (W : wfQ g X.2) {p : Nat} (hp : p ≤ 1000) : f_X6_takers h m (nI i) (nI p) = some (nI (cntT g X.2 p)) := by
  have hb : ∀ j, 0 ≤ j → j < 0 + 8 → f_X6_takers_L5 h m (nI i) (nI p) ((fun j => (nI (cnt9 (fun u => tkU g X.2 u p) j), nI j)) j) = some (.inl ((fun j => (nI (cnt9 (fun u => tkU g X.2 u p) j), nI j)) (j + 1))) := by
    intro j _ hj
    have b1 : ¬ (8 : Int32) ≤ nI j := nI_ge (b := 8) (by omega) (by omega)
    have a0 : nI (cnt9 (fun u => tkU g X.2 u p) j) + (0 : Int32) = nI (cnt9 (fun u => tkU g X.2 u p) j + 0) := nI_add _ 0
    simp only [f_X6_takers_L5, f_X6_takers_J29, if_neg b1, M_takes H hi HQ hG hg W (show j < 8 by omega) hp, Option.bind_some, cnt9, nI_1]
    by_cases ht : tkU g X.2 j p = true
    · simp only [ht, if_true]
      rfl
    · have ht : tkU g X.2 j p = false := by simpa using ht
      simp only [ht, bI, Bool.false_eq_true, if_false, if_true, a0]
  have he : f_X6_takers_L5 h m (nI i) (nI p) ((fun j => (nI (cnt9 (fun u => tkU g X.2 u p) j), nI j)) (0 + 8)) = some (.inr (nI (cnt9 (fun u => tkU g X.2 u p) 8))) := by
    have b1 : (8 : Int32) ≤ nI 8 := nI_le (a := 8) (Nat.le_refl _) (by omega)
    simp only [Nat.zero_add, f_X6_takers_L5, if_pos b1]
  have hw := lpn_run (fun j => (nI (cnt9 (fun u => tkU g X.2 u p) j), nI j)) _ 8 0 LF hb he (by unfold LF; omega)
  have hw0 : lpn (f_X6_takers_L5 h m (nI i) (nI p)) LF (0, 0) = _ := hw
  simp only [f_X6_takers, f_X6_takers_J37, H.ok, if_true, hw0, Option.bind_some]
  rw [tkU_cnt W]
theorem M_clash (H : cM h m I F J) (hi : i < 4) (HQ : repQ (F 1) i X) (hG : ∀ u, u < 8 → F 1 u = nI (g u)) (hg : wfg g) (W : wfQ g X.2) : f_X6_clash h m (nI i) = some (nI (clashA g X.2)) := by
  have hb : ∀ j, 0 ≤ j → j < 0 + 60 → f_X6_clash_L2 h m (nI i) ((fun j => nI j) j) = some (if (fun p => decide (2 ≤ cntT g X.2 p)) j = true then .inr ((fun j => nI j) j) else .inl ((fun j => nI j) (j + 1))) := by
    intro j _ hj
    have b1 : ¬ (60 : Int32) ≤ nI j := nI_ge (b := 60) (by omega) (by omega)
    have h8 := W.le8
    have h9 := cntT_len (g := g) (L := X.2) (i := j)
    simp only [f_X6_clash_L2, if_neg b1, M_takers H hi HQ hG hg W (show j ≤ 1000 by omega), Option.bind_some, nI_1]
    by_cases hc : 2 ≤ cntT g X.2 j
    · have b2 : (2 : Int32) ≤ nI (cntT g X.2 j) := nI_le (a := 2) hc (by omega)
      simp only [if_pos b2, hc, decide_true, if_true]
    · have b2 : ¬ (2 : Int32) ≤ nI (cntT g X.2 j) := nI_ge (b := 2) (by omega) (by omega)
      simp only [if_neg b2, hc, decide_false, Bool.false_eq_true, if_false]
  have he : f_X6_clash_L2 h m (nI i) ((fun j => nI j) (0 + 60)) = some (.inr (nI 60)) := by
    have b1 : (60 : Int32) ≤ nI 60 := nI_le (a := 60) (Nat.le_refl _) (by omega)
    simp only [Nat.zero_add, f_X6_clash_L2, if_pos b1]
  have hw := lpn_find (fun j => nI j) (fun p => decide (2 ≤ cntT g X.2 p)) (fun j => nI j) (nI 60) 60 0 LF hb he (by unfold LF; omega)
  have hw0 : lpn (f_X6_clash_L2 h m (nI i)) LF 0 = _ := hw
  simp only [f_X6_clash, f_X6_clash_J24, H.ok, if_true, hw0, Option.bind_some]
  unfold clashA
  cases fst9 (fun p => decide (2 ≤ cntT g X.2 p)) 0 60 <;> rfl
theorem M_placesOf (H : cM h m I F J) (hi : i < 4) (HQ : repQ (F 1) i X) (hG : ∀ u, u < 8 → F 1 u = nI (g u)) (hg : wfg g) (W : wfQ g X.2) (h60 : X.1 ≤ 60) {q : Nat × Nat} (hq : q ∈ X.2) : f_X6_placesOf h m (nI i) (nI q.1) = some (nI (stp9 X.1 q.2 (g q.1))) := by
  have hu := (W.2 q hq).1
  have hb : ∀ j, 0 ≤ j → j < 0 + X.1 → f_X6_placesOf_L5 h m (nI i) (nI q.1) ((fun j => (nI (cnt9 (fun p => tkb g q p) j), nI j)) j) = some (.inl ((fun j => (nI (cnt9 (fun p => tkb g q p) j), nI j)) (j + 1))) := by
    intro j _ hj
    have b1 : ¬ nI X.1 ≤ nI j := nI_ge (by omega) (by omega)
    have a0 : nI (cnt9 (fun p => tkb g q p) j) + (0 : Int32) = nI (cnt9 (fun p => tkb g q p) j + 0) := nI_add _ 0
    have e1 := M_takes H hi HQ hG hg W hu (show j ≤ 1000 by omega)
    rw [tkU_of W.1 hq] at e1
    simp only [f_X6_placesOf_L5, f_X6_placesOf_J37, H.r1, M_of0, H.l1 (show 12 + 18 * i < 84 by omega), HQ.1, if_neg b1, e1, Option.bind_some, cnt9, nI_1]
    by_cases ht : tkb g q j = true
    · simp only [ht, if_true]
      rfl
    · have ht : tkb g q j = false := by simpa using ht
      simp only [ht, bI, Bool.false_eq_true, if_false, if_true, a0]
  have he : f_X6_placesOf_L5 h m (nI i) (nI q.1) ((fun j => (nI (cnt9 (fun p => tkb g q p) j), nI j)) (0 + X.1)) = some (.inr (nI (cnt9 (fun p => tkb g q p) X.1))) := by
    have b1 : nI X.1 ≤ nI X.1 := nI_le (Nat.le_refl _) (by omega)
    simp only [Nat.zero_add, f_X6_placesOf_L5, H.r1, M_of0, H.l1 (show 12 + 18 * i < 84 by omega), HQ.1, Option.bind_some, if_pos b1]
  have hw := lpn_run (fun j => (nI (cnt9 (fun p => tkb g q p) j), nI j)) _ X.1 0 LF hb he (by unfold LF; omega)
  have hw0 : lpn (f_X6_placesOf_L5 h m (nI i) (nI q.1)) LF (0, 0) = _ := hw
  simp only [f_X6_placesOf, f_X6_placesOf_J45, H.ok, if_true, hw0, Option.bind_some]
  rw [cnt9_tkb hg q]
theorem M_lastOf (H : cM h m I F J) (hi : i < 4) (HQ : repQ (F 1) i X) (hG : ∀ u, u < 8 → F 1 u = nI (g u)) (hg : wfg g) (W : wfQ g X.2) (h60 : X.1 ≤ 60) {q : Nat × Nat} (hq : q ∈ X.2) (hl : q.2 < X.1) : f_X6_lastOf h m (nI i) (nI q.1) = some (nI (lst q.2 (g q.1) X.1)) := by
  have hu := (W.2 q hq).1
  have hb : ∀ j, 0 ≤ j → j < 0 + X.1 → f_X6_lastOf_L5 h m (nI i) (nI q.1) ((fun j => (oI (lst9 (fun p => tkb g q p) j), nI j)) j) = some (.inl ((fun j => (oI (lst9 (fun p => tkb g q p) j), nI j)) (j + 1))) := by
    intro j _ hj
    have b1 : ¬ nI X.1 ≤ nI j := nI_ge (by omega) (by omega)
    have e1 := M_takes H hi HQ hG hg W hu (show j ≤ 1000 by omega)
    rw [tkU_of W.1 hq] at e1
    simp only [f_X6_lastOf_L5, f_X6_lastOf_J37, H.r1, M_of0, H.l1 (show 12 + 18 * i < 84 by omega), HQ.1, if_neg b1, e1, Option.bind_some, lst9, nI_1]
    by_cases ht : tkb g q j = true
    · simp only [ht, if_true]
      rfl
    · have ht : tkb g q j = false := by simpa using ht
      simp only [ht, bI, Bool.false_eq_true, if_false, if_true]
  have he : f_X6_lastOf_L5 h m (nI i) (nI q.1) ((fun j => (oI (lst9 (fun p => tkb g q p) j), nI j)) (0 + X.1)) = some (.inr (oI (lst9 (fun p => tkb g q p) X.1))) := by
    have b1 : nI X.1 ≤ nI X.1 := nI_le (Nat.le_refl _) (by omega)
    simp only [Nat.zero_add, f_X6_lastOf_L5, H.r1, M_of0, H.l1 (show 12 + 18 * i < 84 by omega), HQ.1, Option.bind_some, if_pos b1]
  have hw := lpn_run (fun j => (oI (lst9 (fun p => tkb g q p) j), nI j)) _ X.1 0 LF hb he (by unfold LF; omega)
  have hw0 : lpn (f_X6_lastOf_L5 h m (nI i) (nI q.1)) LF (-1, 0) = _ := hw
  simp only [f_X6_lastOf, f_X6_lastOf_J44, H.ok, if_true, hw0, Option.bind_some]
  rw [lst9_tkb hg q hl]
  rfl
end ModelReads
