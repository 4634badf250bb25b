/-! PURE READING, 12: the class's History: saving -/
section HistoryOps2
variable {h : PH} {y : Nat} {S : List ((Nat → Nat) × List (Nat × List (Nat × Nat)) × Int32 × Int32 × Int32)}
theorem H_dropOldest (W : ∀ T ∈ S, wfT T) (hS : S.length = 6) (H : repH h y S) : ∃ h', f_X0_dropOldest h y = some h' ∧ repH h' y (S.drop 1) ∧ ∀ b, (b < y ∨ y + 2 ≤ b) → h' b = h b := by
  obtain ⟨qf, ρ, H1, H3, H4, H5⟩ := H
  rw [hS] at H1
  have hok : ∀ m qf' k, k < 6 → okO (setH h y m qf') (y + 2 + 15 * k) 2 = true := fun m qf' k hk => (((H3 k hk).2.2).same (setH_same (by omega))).ok
  have K : ∀ {m : Nat} {qf' : Nat → Option Nat}, cH (setH h y m qf') y m qf' := setH_c
  obtain ⟨p1, p2, -⟩ := H3 0 (by omega)
  have hb : ∀ x1, ∀ t, 0 ≤ t → t < 0 + 5 → f_X0_dropOldest_L8 y x1 ((fun t => (nI (t + 1), setH h y 6 (shlQ qf 0 (0 + t)))) t) = some (.inl ((fun t => (nI (t + 1), setH h y 6 (shlQ qf 0 (0 + t)))) (t + 1))) := by
    intro x1 t _ ht
    have b1 : ¬ nI 6 ≤ nI (t + 1) := nI_ge (by omega) (by omega)
    obtain ⟨a1, a2, a3⟩ := H3 (0 + t + 1) (by omega)
    have b3 := st_H1 (h := h) (y := y) (n := 6) (qf := shlQ qf 0 (0 + t)) (i := 0 + t) (r := y + 2 + 15 * ρ (0 + t + 1)) (by omega) (hok _ _ _ a1)
    rw [← a2, shlQ_s] at b3
    have b4 : shlQ qf 0 (0 + t) (t + 1) = qf (0 + t + 1) := by
      rw [shlQ_hi qf (show 0 + t ≤ t + 1 by omega), Nat.zero_add]
    rw [Nat.zero_add] at a2
    simp only [f_X0_dropOldest_L8, K.r0, K.n0, Option.bind_some, if_neg b1, ldQ_of K.2 (show t + 1 < 6 by omega) (by omega), b4, a2, nI_pred, nI_1]
    rw [Nat.zero_add] at b3 ⊢
    rw [a2]
    show (stQ (setH h y 6 (shlQ qf 0 t)) (y + 1) (nI t) (y + 2 + 15 * ρ (t + 1))).bind _ = _
    rw [b3]
    rfl
  have he : ∀ x1, f_X0_dropOldest_L8 y x1 ((fun t => (nI (t + 1), setH h y 6 (shlQ qf 0 (0 + t)))) (0 + 5)) = some (.inr (setH h y 6 (shlQ qf 0 5))) := by
    intro x1
    have b1 : nI 6 ≤ nI (0 + 5 + 1) := nI_le (by omega) (by omega)
    simp only [f_X0_dropOldest_L8, K.r0, K.n0, Option.bind_some, if_pos b1]
  have hw0 : ∀ x1, lpn (f_X0_dropOldest_L8 y x1) LF (1, h) = some (setH h y 6 (shlQ qf 0 5)) := by
    intro x1
    have hw := lpn_run (fun t => (nI (t + 1), setH h y 6 (shlQ qf 0 (0 + t)))) _ 5 0 LF (hb x1) (he x1) (by unfold LF; omega)
    rw [← hw]
    show _ = lpn _ LF (nI 1, setH h y 6 (shlQ qf 0 0))
    rw [shlQ_0, setH_eq H1]
    rfl
  have e0 := X0_rowAt H1 (k := 0) (by omega)
  have e0' : f_X0_rowAt h y 0 = some (qf 0) := e0
  rw [p2] at e0'
  have e1 : nI 6 - 1 = nI 5 := nI_pred 5
  have e2 : ¬ nI 5 < 0 := nI_pos (by omega)
  have e3 : ¬ nI 6 ≤ nI 5 := nI_ge (by omega) (by omega)
  have e4 := st_H1 (h := h) (y := y) (n := 5) (qf := shlQ qf 0 5) (i := 5) (r := y + 2 + 15 * ρ 0) (by omega) (hok _ _ _ p1)
  refine ⟨setH h y 5 (va_up (shlQ qf 0 5) 5 (some (y + 2 + 15 * ρ 0))), ?_, ?_, fun b hb => setH_n hb⟩
  · simp only [f_X0_dropOldest, f_X0_dropOldest_J37, f_X0_dropOldest_J77, H1.ok, if_true, e0', Option.bind_some, hw0, K.r0, K.r1, K.n0, e1, wr_H1, if_neg e2, if_neg e3, e4]
  · refine ⟨va_up (shlQ qf 0 5) 5 (some (y + 2 + 15 * ρ 0)), fun k => if k < 5 then ρ (k + 1) else ρ 0, ?_, fun k hk => ⟨?_, ?_, ((H3 k hk).2.2).same (setH_same (by omega))⟩, fun i j hi hj he => ?_, fun k T hk => ?_⟩
    · rw [List.length_drop, hS]
      exact setH_c
    · show (if k < 5 then _ else _) < 6
      split
      · exact (H3 (k + 1) (by omega)).1
      · exact p1
    · show (if k = 5 then some (y + 2 + 15 * ρ 0) else (if 0 ≤ k ∧ k < 5 then qf (k + 1) else qf k)) = some (y + 2 + 15 * (if k < 5 then ρ (k + 1) else ρ 0))
      by_cases c : k = 5
      · rw [if_pos c, if_neg (by omega)]
      · rw [if_neg c, if_pos (by omega), if_pos (by omega)]
        exact (H3 (k + 1) (by omega)).2.1
    · have he2 : (if i < 5 then ρ (i + 1) else ρ 0) = (if j < 5 then ρ (j + 1) else ρ 0) := he
      split at he2 <;> split at he2
      · have := H4 (i + 1) (j + 1) (by omega) (by omega) he2; omega
      · have := H4 (i + 1) 0 (by omega) (by omega) he2; omega
      · have := H4 0 (j + 1) (by omega) (by omega) he2; omega
      · omega
    · rw [List.getElem?_drop] at hk
      have hk2 := (List.getElem?_eq_some_iff.mp hk).1
      have hk3 : S[k + 1]? = some T := by rw [Nat.add_comm]; exact hk
      show repT _ (y + 2 + 15 * (if k < 5 then ρ (k + 1) else ρ 0)) T
      rw [if_pos (by omega)]
      exact repS.same (W T (List.mem_of_getElem? hk3)).2.1 (H5 (k + 1) T hk3) (setH_same (by omega))
theorem H_save16 {s : Nat} {T : (Nat → Nat) × List (Nat × List (Nat × Nat)) × Int32 × Int32 × Int32} (W : ∀ T ∈ S, wfT T) (hS : S.length < 6) (H : repH h y S) (WT : wfT T) (HT : repT h s T) (hd : s + 15 ≤ y ∨ y + 92 ≤ s) : ∃ h', f_X0_save_J16 h y s = some h' ∧ repH h' y (S ++ [T]) ∧ onlyH y h h' := by
  obtain ⟨qf, ρ, H1, H3, H4, H5⟩ := H
  obtain ⟨p1, p2, p3⟩ := H3 S.length hS
  have q3 := (H3 (ρ S.length) p1).2.2
  obtain ⟨h1, m1, m2, m3⟩ := S_copyFrom q3 WT HT (by omega)
  have e2 := X0_rowAt H1 hS
  rw [p2] at e2
  have K : cH h1 y S.length qf := ⟨(m3 _ (by omega)).trans H1.1, (m3 _ (by omega)).trans H1.2⟩
  have e3 := wr_H1 (h := h1) (y := y) (n := S.length) (qf := qf) (S.length + 1)
  rw [setH_eq K] at e3
  have hK : ∀ b, (b < y ∨ y + 2 ≤ b) → setH h1 y (S.length + 1) qf b = h1 b := fun b hb => setH_n hb
  refine ⟨setH h1 y (S.length + 1) qf, ?_, ⟨qf, ρ, ?_, fun k hk => ⟨(H3 k hk).1, (H3 k hk).2.1, ?_⟩, H4, fun k T' hk => ?_⟩, fun b hb => (hK b (by omega)).trans (m3 b (by omega))⟩
  · simp only [f_X0_save_J16, f_X0_save_J44, H1.r1, Option.bind_some, e2, m1, K.r1, nI_1, e3]
  · rw [List.length_append]
    exact setH_c
  · by_cases e : k = ρ S.length
    · subst e
      exact (repS.j m2).same (fun b b1 b2 => hK b (by omega))
    · exact ((H3 k hk).2.2).same (fun b b1 b2 => (hK b (by omega)).trans (m3 b (by omega)))
  · rcases Nat.lt_trichotomy k S.length with c | c | c
    · rw [List.getElem?_append_left c] at hk
      have e9 : ¬ ρ k = ρ S.length := fun q => by have := H4 k S.length (by omega) hS q; omega
      exact repS.same (W T' (List.mem_of_getElem? hk)).2.1 (H5 k T' hk) (fun b b1 b2 => (hK b (by omega)).trans (m3 b (by omega)))
    · subst c
      rw [List.getElem?_append_right (Nat.le_refl _), Nat.sub_self] at hk
      cases hk
      exact repS.same WT.2.1 m2 (fun b b1 b2 => hK b (by omega))
    · rw [List.getElem?_eq_none (by rw [List.length_append]; exact c)] at hk
      cases hk
/-- the saved states after a save -/
def savA (S : List ((Nat → Nat) × List (Nat × List (Nat × Nat)) × Int32 × Int32 × Int32)) (T : (Nat → Nat) × List (Nat × List (Nat × Nat)) × Int32 × Int32 × Int32) : List ((Nat → Nat) × List (Nat × List (Nat × Nat)) × Int32 × Int32 × Int32) := (if S.length < 6 then S else S.drop 1) ++ [T]
theorem H_save {s : Nat} {T : (Nat → Nat) × List (Nat × List (Nat × Nat)) × Int32 × Int32 × Int32} (W : ∀ T ∈ S, wfT T) (hS : S.length ≤ 6) (H : repH h y S) (WT : wfT T) (HT : repT h s T) (hd : s + 15 ≤ y ∨ y + 92 ≤ s) : ∃ h', f_X0_save h y s = some h' ∧ repH h' y (savA S T) ∧ onlyH y h h' := by
  have H0 := H
  obtain ⟨qf, ρ, H1, -⟩ := H
  unfold savA
  by_cases c : S.length < 6
  · obtain ⟨h', e1, e2, e3⟩ := H_save16 W c H0 WT HT hd
    have b1 : nI S.length < nI 6 := nI_lt c (by omega)
    rw [if_pos c]
    refine ⟨h', ?_, e2, e3⟩
    simp only [f_X0_save, H1.ok, H1.r0, H1.r1, H1.n0, if_true, Option.bind_some, if_pos b1, e1]
  · obtain ⟨h1, d1, d2, d3⟩ := H_dropOldest W (by omega) H0
    have HT1 : repT h1 s T := repS.same WT.2.1 HT (fun b b1 b2 => d3 b (by omega))
    obtain ⟨h', e1, e2, e3⟩ := H_save16 (fun T' hT' => W T' (List.mem_of_mem_drop hT')) (by rw [List.length_drop]; omega) d2 WT HT1 hd
    have b1 : ¬ nI S.length < nI 6 := nI_nlt (by omega) (by omega)
    rw [if_neg c]
    refine ⟨h', ?_, e2, fun b hb => (e3 b hb).trans (d3 b (by omega))⟩
    simp only [f_X0_save, H1.ok, H1.r0, H1.r1, H1.n0, if_true, Option.bind_some, if_neg b1, d1, e1]
end HistoryOps2
