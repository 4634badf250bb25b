/-! PURE READING, 11: the class's History -/
def cH (h : PH) (y n : Nat) (qf : Nat → Option Nat) : Prop := h y = some (.inr (.inr (0, [.ref (y + 1), .int (nI n)]))) ∧ h (y + 1) = some (.inr (.inl (1, 6, qf)))
def setH (h : PH) (y n : Nat) (qf : Nat → Option Nat) : PH := fun b => if b = y then some (.inr (.inr (0, [.ref (y + 1), .int (nI n)]))) else if b = y + 1 then some (.inr (.inl (1, 6, qf))) else h b
section HistoryCells
variable {h : PH} {y n : Nat} {qf : Nat → Option Nat}
theorem cH.ok (H : cH h y n qf) : okO h y 0 = true := okO_of H.1
theorem cH.r0 (H : cH h y n qf) : rdR h y 0 0 = some (y + 1) := rdR_of H.1 rfl
theorem cH.r1 (H : cH h y n qf) : rdI h y 0 1 = some (nI n) := rdI_of H.1 rfl
theorem cH.n0 (H : cH h y n qf) : lnA h (y + 1) = some (nI 6) := lnA_Q H.2
theorem setH_c : cH (setH h y n qf) y n qf := by
  refine ⟨if_pos rfl, ?_⟩
  show (if y + 1 = y then _ else _) = _
  rw [if_neg (by omega), if_pos rfl]
theorem setH_n {b : Nat} (hb : b < y ∨ y + 2 ≤ b) : setH h y n qf b = h b := by
  show (if b = y then _ else _) = _
  rw [if_neg (by omega), if_neg (by omega)]
theorem setH_eq (H : cH h y n qf) : setH h y n qf = h := by
  funext b
  show (if b = y then _ else _) = _
  by_cases h0 : b = y
  · rw [if_pos h0, h0, H.1]
  · rw [if_neg h0]
    by_cases h1 : b = y + 1
    · rw [if_pos h1, h1, H.2]
    · rw [if_neg h1]
theorem pu_H0 (n' : Nat) : pu (setH h y n qf) y (.inr (.inr (0, [.ref (y + 1), .int (nI n')]))) = setH h y n' qf := by
  funext b
  by_cases h0 : b = y
  · subst h0
    rw [pu_s]
    exact (if_pos rfl).symm
  · rw [pu_n h0]
    show (if b = y then _ else _) = (if b = y then _ else _)
    rw [if_neg h0, if_neg h0]
theorem pu_H1 (qf' : Nat → Option Nat) : pu (setH h y n qf) (y + 1) (.inr (.inl (1, 6, qf'))) = setH h y n qf' := by
  funext b
  by_cases h0 : b = y + 1
  · subst h0
    rw [pu_s]
    show _ = (if y + 1 = y then _ else _)
    rw [if_neg (by omega), if_pos rfl]
  · rw [pu_n h0]
    show (if b = y then _ else _) = (if b = y then _ else _)
    rw [if_neg h0, if_neg h0]
theorem wr_H1 (n' : Nat) : wrF (setH h y n qf) y 0 1 (.int (nI n')) = some (setH h y n' qf) := by
  rw [wrF_of _ setH_c.1 (by simp)]
  exact congrArg some (pu_H0 _)
theorem st_H1 {i r : Nat} (hi : i < 6) (hr : okO (setH h y n qf) r 2 = true) : stQ (setH h y n qf) (y + 1) (nI i) r = some (setH h y n (va_up qf i (some r))) := by
  rw [stQ_of setH_c.2 hi (by omega) (Or.inr ⟨rfl, hr⟩), pu_H1]
theorem setH_same {s : Nat} (hs : y + 2 ≤ s) : sameS s h (setH h y n qf) := fun b h1 _ => setH_n (by omega)
theorem cH.only {s : Nat} {h' : PH} (H : cH h y n qf) (ho : onlyS s h h') (hs : y + 2 ≤ s) : cH h' y n qf := ⟨(ho _ (by omega)).trans H.1, (ho _ (by omega)).trans H.2⟩
theorem X0_rowAt (H : cH h y n qf) {k : Nat} (hk : k < 6) : f_X0_rowAt h y (nI k) = some (qf k) := by
  have e1 : ¬ nI k < 0 := nI_pos (by omega)
  have e2 : ¬ nI 6 ≤ nI k := nI_ge hk (by omega)
  simp only [f_X0_rowAt, f_X0_rowAt_J23, H.ok, H.r0, H.n0, if_true, Option.bind_some, if_neg e1, if_neg e2, ldQ_of H.2 hk (by omega)]
end HistoryCells
/-- a saved state: gaps, ropes, layings, joins, cuts -/
def repT (h : PH) (s : Nat) (T : (Nat → Nat) × List (Nat × List (Nat × Nat)) × Int32 × Int32 × Int32) : Prop := repS h s T.1 T.2.1 T.2.2.1 T.2.2.2.1 T.2.2.2.2
def wfT (T : (Nat → Nat) × List (Nat × List (Nat × Nat)) × Int32 × Int32 × Int32) : Prop := wfS T.1 T.2.1
def repH (h : PH) (y : Nat) (S : List ((Nat → Nat) × List (Nat × List (Nat × Nat)) × Int32 × Int32 × Int32)) : Prop := ∃ (qf : Nat → Option Nat) (ρ : Nat → Nat), cH h y S.length qf ∧ (∀ k, k < 6 → ρ k < 6 ∧ qf k = some (y + 2 + 15 * ρ k) ∧ jS h (y + 2 + 15 * k)) ∧ (∀ i j, i < 6 → j < 6 → ρ i = ρ j → i = j) ∧ ∀ k T, S[k]? = some T → repT h (y + 2 + 15 * ρ k) T
/-- only what lies between y and y + 92 changed -/
def onlyH (y : Nat) (h h' : PH) : Prop := ∀ b, b < y ∨ y + 92 ≤ b → h' b = h b
section HistoryOps
variable {h : PH} {y : Nat} {S : List ((Nat → Nat) × List (Nat × List (Nat × Nat)) × Int32 × Int32 × Int32)}
theorem H_size (H : repH h y S) : f_X0_size h y = some (nI S.length) := by
  obtain ⟨qf, ρ, H1, -⟩ := H
  simp only [f_X0_size, H1.ok, H1.r1, if_true, Option.bind_some]
theorem repH.same {h' : PH} (W : ∀ T ∈ S, wfT T) (hS : S.length ≤ 6) (H : repH h y S) (h1 : ∀ b, y ≤ b → b < y + 92 → h' b = h b) : repH h' y S := by
  obtain ⟨qf, ρ, H1, H3, H4, H5⟩ := H
  refine ⟨qf, ρ, ⟨(h1 _ (by omega) (by omega)).trans H1.1, (h1 _ (by omega) (by omega)).trans H1.2⟩, fun k hk => ⟨(H3 k hk).1, (H3 k hk).2.1, ((H3 k hk).2.2).same (fun b b1 b2 => h1 b (by omega) (by omega))⟩, H4, fun k T hk => ?_⟩
  have hk2 := (List.getElem?_eq_some_iff.mp hk).1
  have := (H3 k (by omega)).1
  exact repS.same (W T (List.mem_of_getElem? hk)).2.1 (H5 k T hk) (fun b b1 b2 => h1 b (by omega) (by omega))
theorem H_restoreLatest {s : Nat} (W : ∀ T ∈ S, wfT T) (hS : S.length ≤ 6) (H : repH h y S) (J : jS h s) (hd : s + 15 ≤ y ∨ y + 92 ≤ s) {n : Nat} {T : (Nat → Nat) × List (Nat × List (Nat × Nat)) × Int32 × Int32 × Int32} (hn : S.length = n + 1) (hT : S[n]? = some T) : ∃ h', f_X0_restoreLatest h y s = some h' ∧ repH h' y (S.take n) ∧ repT h' s T ∧ ∀ b, (b < s ∨ s + 15 ≤ b) → (b < y ∨ y + 92 ≤ b) → h' b = h b := by
  have H0 := H
  obtain ⟨qf, ρ, H1, H3, H4, H5⟩ := H
  obtain ⟨p1, p2, p3⟩ := H3 n (by omega)
  obtain ⟨h1, m1, m2, m3⟩ := S_copyFrom J (W T (List.mem_of_getElem? hT)) (H5 n T hT) (by omega)
  have e1 : nI S.length - 1 = nI n := by rw [hn, nI_pred]
  have e2 := X0_rowAt H1 (show n < 6 by omega)
  rw [p2] at e2
  have K : cH h1 y S.length qf := ⟨(m3 _ (by omega)).trans H1.1, (m3 _ (by omega)).trans H1.2⟩
  have e3 := wr_H1 (h := h1) (y := y) (n := S.length) (qf := qf) n
  rw [setH_eq K] at e3
  have hK : ∀ b, (b < y ∨ y + 2 ≤ b) → setH h1 y n qf b = h1 b := fun b hb => setH_n hb
  refine ⟨setH h1 y n qf, ?_, ⟨qf, ρ, ?_, fun k hk => ⟨(H3 k hk).1, (H3 k hk).2.1, ((H3 k hk).2.2).same (fun b b1 b2 => (hK b (by omega)).trans (m3 b (by omega)))⟩, H4, fun k T' hk => ?_⟩, repS.same (W T (List.mem_of_getElem? hT)).2.1 m2 (fun b b1 b2 => hK b (by omega)), fun b b1 b2 => (hK b (by omega)).trans (m3 b (by omega))⟩
  · simp only [f_X0_restoreLatest, H1.ok, H1.r1, if_true, Option.bind_some, e1, e2, m1, K.r1, e3]
    try rfl
  · rw [List.length_take, hn, Nat.min_eq_left (by omega)]
    exact setH_c
  · rw [List.getElem?_take] at hk
    split at hk
    · have hk2 := (List.getElem?_eq_some_iff.mp hk).1
      have := (H3 k (by omega)).1
      exact repS.same (W T' (List.mem_of_getElem? hk)).2.1 (H5 k T' hk) (fun b b1 b2 => (hK b (by omega)).trans (m3 b (by omega)))
    · cases hk
end HistoryOps
