/-! THE LAW, 6: with which phases a hue can be laid -/
theorem fst9_end {P : Nat → Bool} (n : Nat) : fst9 P 0 (n + 1) = match fst9 P 0 n with | some j => some j | none => if P n = true then some n else none := by
  cases h : fst9 P 0 n with
  | some j =>
    obtain ⟨h1, h2, h3, h4⟩ := fst9_some h
    exact fst9_of h1 (by omega) h3 h4
  | none =>
    have h1 := fst9_none h
    by_cases hp : P n = true
    · dsimp only
      rw [if_pos hp]
      exact fst9_of (Nat.zero_le _) (by omega) hp (fun i h2 h3 => h1 i h2 (by omega))
    · dsimp only
      rw [if_neg hp]
      refine fst9_of_none (fun i h2 h3 => ?_)
      by_cases e : i = n
      · rw [e]; exact Bool.eq_false_iff.mpr hp
      · exact h1 i h2 (by omega)
theorem fil_fst {P : Nat → Bool} {w : Nat → Nat} (anti : ∀ a b, a ≤ b → w b ≤ w a) (pos : ∀ a, P a = true → 0 < w a) : ∀ n, (fil9 P w n).1 = fst9 P 0 n ∧ (∀ p, fst9 P 0 n = some p → (fil9 P w n).2 = w p) ∧ (fst9 P 0 n = none → (fil9 P w n).2 = 0) := by
  intro n
  induction n with
  | zero => exact ⟨rfl, fun p h => (by cases h), fun _ => rfl⟩
  | succ n ih =>
    obtain ⟨i1, i2, i3⟩ := ih
    have e := fst9_end (P := P) n
    cases h : fst9 P 0 n with
    | some p =>
      rw [h] at e i1
      have h2 := i2 p h
      have h3 := (fst9_some h).2.1
      have h4 := anti p n (by omega)
      rw [e]
      simp only [fil9]
      rw [if_pos (by omega)]
      exact ⟨i1, fun q hq => (by cases hq; exact h2), fun hq => (by cases hq)⟩
    | none =>
      rw [h] at e i1
      have h2 := i3 h
      rw [e]
      simp only [fil9]
      rw [h2]
      by_cases hp : P n = true
      · have h5 := pos n hp
        rw [if_neg (by omega), if_pos hp, if_pos hp]
        exact ⟨rfl, fun q hq => (by cases hq; rfl), fun hq => (by cases hq)⟩
      · rw [if_neg hp, if_neg hp]
        refine ⟨?_, fun q hq => (by cases hq), fun _ => ?_⟩
        · split <;> exact i1
        · split <;> exact h2
section Law6
variable {h : PH} {x : Nat} {A : AAt}
set_option maxHeartbeats 2000000 in
theorem L_arePhases (W : wfA A) (H : repC h x A) {i u : Nat} (hi : i < A.1.2.1.length) (hu : u < 8) : f_L_arePhases h x (nI i) (nI u) = some 1 := by
  have hR := W.1.2.1
  have hg := W.1.1 u
  have WR := W.1.2.2 _ (atR_mem hi)
  have h60 := WR.1.2
  obtain ⟨g, hgd⟩ : ∃ g, g = A.1.1 u := ⟨_, rfl⟩
  obtain ⟨P, hP⟩ : ∃ P : Nat → Bool, P = fun p => decide (whyA A.1.1 (atR A.1.2.1 i).1 (atR A.1.2.1 i).2 u p = 0) := ⟨_, rfl⟩
  have e0 := V_gapOf W H hu
  have e1 : okL9 (f_X5_phases h x (nI i) (nI u) (0 : Int32)) = some (nI (cnt9 P g)) := by
    rw [hP, hgd]
    exact V_phases W H hi hu (w := 0) (by omega)
  have e2 : okL9 (f_X5_phases h x (nI i) (nI u) (1 : Int32)) = some (oI (fst9 P 0 g)) := by
    rw [hP, hgd]
    exact V_phases W H hi hu (w := 1) (by omega)
  have e3 : okL9 (f_X5_phases h x (nI i) (nI u) (2 : Int32)) = some (oI (fst9 P 0 g)) := by
    have q := V_phases W H hi hu (w := 2) (by omega)
    have q2 := (fil_fst (P := P) (w := fun p => stp9 (atR A.1.2.1 i).1 p (A.1.1 u)) (fun a b hab => Nat.div_le_div_right (by omega)) (fun a ha => by
      rw [hP] at ha
      have q3 := (why_0 (of_decide_eq_true ha)).2
      show 0 < stp9 _ _ _
      rw [stp_pos q3 (by omega)]
      exact Nat.succ_pos _) g).1
    rw [hP, hgd] at q2
    rw [hP, hgd, ← q2]
    exact q
  have rf : ∀ p, p < g → okL9 (f_X5_refusal h x (nI i) (nI u) (nI p)) = some (nI (whyA A.1.1 (atR A.1.2.1 i).1 (atR A.1.2.1 i).2 u p)) := fun p hp => V_refusal W H hi hu (by rw [← hgd]; exact hp)
  rw [← hgd] at e0 hg
  have z0 : nI 0 = (0 : Int32) := rfl
  have hb : ∀ k, 0 ≤ k → k < 0 + g → f_L_arePhases_L14 h x (nI i) (nI u) ((fun k => (nI (cnt9 (fun j => P (g - k + j)) k), oI (fst9 P (g - k) k), nI (g - k) - 1)) k) = some (.inl ((fun k => (nI (cnt9 (fun j => P (g - k + j)) k), oI (fst9 P (g - k) k), nI (g - k) - 1)) (k + 1))) := by
    intro k _ hk
    have hk : k < g := by omega
    obtain ⟨m, hm⟩ : ∃ m, g - k = m + 1 := ⟨g - k - 1, by omega⟩
    have hm2 : g - (k + 1) = m := by omega
    have d1 : nI (m + 1) - (1 : Int32) = nI m := nI_pred m
    have d2 : nI m + (-1) = nI m - (1 : Int32) := (Int32.sub_eq_add_neg (nI m) 1).symm
    have b1 : ¬ nI m < 0 := nI_pos (by omega)
    have wle := whyA_le A.1.1 (atR A.1.2.1 i).1 (atR A.1.2.1 i).2 u m
    have c1 : cnt9 (fun j => P (m + j)) (k + 1) = (if P m = true then 1 else 0) + cnt9 (fun j => P (m + 1 + j)) k := by
      have q1 := cnt9_add (P := fun j => P (m + j)) (n := 1) k
      have q2 : cnt9 (fun j => P (m + (1 + j))) k = cnt9 (fun j => P (m + 1 + j)) k := cnt9_congr (fun j _ => by rw [show m + (1 + j) = m + 1 + j by omega])
      have q3 : cnt9 (fun j => P (m + j)) 1 = (if P m = true then 1 else 0) := Nat.zero_add _
      rw [show k + 1 = 1 + k by omega, q1, q3]
      exact congrArg (_ + ·) q2
    by_cases hp : whyA A.1.1 (atR A.1.2.1 i).1 (atR A.1.2.1 i).2 u m = 0
    · have hPm : P m = true := by rw [hP]; exact decide_eq_true hp
      rw [hPm, if_pos rfl] at c1
      have one0 : ¬ (1 : Int32) = 0 := by decide
      have b2 : ¬ ¬ nI (whyA A.1.1 (atR A.1.2.1 i).1 (atR A.1.2.1 i).2 u m) = 0 := by rw [hp]; exact fun q => q rfl
      have d3 : nI (cnt9 (fun j => P (m + 1 + j)) k) + (1 : Int32) = nI (cnt9 (fun j => P (m + j)) (k + 1)) := by rw [c1, nI_1, Nat.add_comm]
      simp only [f_L_arePhases_L14, hm, hm2, d1, if_neg b1, rf m (by omega), bs9, if_neg b2, f_L_arePhases_J35, if_neg one0, f_L_arePhases_J48, f_L_arePhases_J62, d2, d3, fst9, hPm, if_true, oI]
    · have hPm : P m = false := by rw [hP]; exact decide_eq_false hp
      rw [hPm, if_neg Bool.false_ne_true] at c1
      have b2 : ¬ nI (whyA A.1.1 (atR A.1.2.1 i).1 (atR A.1.2.1 i).2 u m) = 0 := nI_ne0 (by omega) (by omega)
      have d3 : nI (cnt9 (fun j => P (m + 1 + j)) k) + (0 : Int32) = nI (cnt9 (fun j => P (m + j)) (k + 1)) := by rw [c1, Int32.add_zero, Nat.zero_add]
      simp only [f_L_arePhases_L14, hm, hm2, d1, if_neg b1, rf m (by omega), bs9, if_pos b2, f_L_arePhases_J35, if_true, f_L_arePhases_J48, f_L_arePhases_J62, d2, d3, fst9, hPm, Bool.false_eq_true, if_false]
  have he : f_L_arePhases_L14 h x (nI i) (nI u) ((fun k => (nI (cnt9 (fun j => P (g - k + j)) k), oI (fst9 P (g - k) k), nI (g - k) - 1)) (0 + g)) = some (.inr (nI (cnt9 P g), oI (fst9 P 0 g))) := by
    have b1 : nI 0 - (1 : Int32) < 0 := by decide
    have c1 : cnt9 (fun j => P (0 + j)) g = cnt9 P g := cnt9_congr (fun j _ => by show P (0 + j) = P j; rw [Nat.zero_add])
    simp only [Nat.zero_add, Nat.sub_self, f_L_arePhases_L14, if_pos b1] at c1 ⊢
  have hw := lpn_run (fun k => (nI (cnt9 (fun j => P (g - k + j)) k), oI (fst9 P (g - k) k), nI (g - k) - 1)) _ g 0 LF hb he (by unfold LF; omega)
  have hw : lpn (f_L_arePhases_L14 h x (nI i) (nI u)) LF ((0 : Int32), ((-1) : Int32), nI g - (1 : Int32)) = some (nI (cnt9 P g), oI (fst9 P 0 g)) := hw
  simp only [f_L_arePhases, e0, bs9, hw, f_L_arePhases_J70, e1, e2, e3, not_true_eq_false, if_false, f_L_arePhases_J110, z01_1, if_true]
end Law6
