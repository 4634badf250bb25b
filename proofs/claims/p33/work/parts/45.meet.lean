/-! PURE READING, 16: where two hues meet -/
def cmb (g p g2 p2 k : Nat) : Bool := decide ((p ≤ k ∧ (k - p) % g = 0) ∧ p2 ≤ k ∧ (k - p2) % g2 = 0)
def meetA (g p g2 p2 : Nat) : Option Nat := fst9 (cmb g p g2 p2) 0 800
theorem step_iff {g p k : Nat} : (p ≤ k ∧ (k - p) % g = 0) ↔ ∃ j, k = p + j * g := by
  constructor
  · rintro ⟨h1, h2⟩
    refine ⟨(k - p) / g, ?_⟩
    have h3 := Nat.div_add_mod (k - p) g
    rw [h2, Nat.add_zero, Nat.mul_comm] at h3
    omega
  · rintro ⟨j, rfl⟩
    refine ⟨Nat.le_add_right _ _, ?_⟩
    rw [Nat.add_sub_cancel_left]
    exact Nat.mul_mod_left _ _
theorem cmb_iff {g p g2 p2 k : Nat} (h2 : p2 < g2) : cmb g p g2 p2 k = true ↔ (∃ j, k = p + j * g) ∧ k % g2 = p2 := by
  unfold cmb
  rw [decide_eq_true_iff, step_iff, step_iff]
  constructor
  · rintro ⟨h3, i, hi⟩
    refine ⟨h3, ?_⟩
    rw [hi, Nat.add_mul_mod_self_right, Nat.mod_eq_of_lt h2]
  · rintro ⟨h3, h4⟩
    refine ⟨h3, k / g2, ?_⟩
    have := Nat.div_add_mod k g2
    rw [h4, Nat.mul_comm] at this
    omega
theorem cmb_small {g p g2 p2 j : Nat} (h : (p + j * g) % g2 = p2) : (p + (j % g2) * g) % g2 = p2 := by
  rw [← h, Nat.add_mod p (j % g2 * g), Nat.add_mod p (j * g), Nat.mul_mod (j % g2), Nat.mul_mod j, Nat.mod_mod]
theorem add_dvd_mod {d g p j : Nat} (h : d ∣ g) : (p + j * g) % d = p % d := by
  obtain ⟨a, rfl⟩ := h
  rw [Nat.mul_left_comm]
  exact Nat.add_mul_mod_self_left _ _ _
theorem rem_all : ∀ p : Fin 20, ∀ q : Fin 20, ∀ d : Fin 20, (nI p - nI q - (nI p - nI q) / nI (d + 1) * nI (d + 1) = 0) ↔ ((p : Nat) % (d + 1) = (q : Nat) % (d + 1)) := by decide +kernel
section Meet
variable {h : PH}
theorem X1_meetByRemainders {g p g2 p2 : Nat} (hg : 2 ≤ g ∧ g ≤ 20) (hg2 : 2 ≤ g2 ∧ g2 ≤ 20) (hp : p < g) (hp2 : p2 < g2) : f_X1_meetByRemainders h (nI g) (nI p) (nI g2) (nI p2) = some (oI (meetA g p g2 p2)) := by
  have hd0 : 0 < Nat.gcd g g2 := Nat.gcd_pos_of_pos_left _ (by omega)
  have hd1 : Nat.gcd g g2 ≤ g := Nat.gcd_le_left _ (by omega)
  have e0 : f_X1_remainder h (nI p - nI p2) (nI (Nat.gcd g g2)) = some (nI p - nI p2 - (nI p - nI p2) / nI (Nat.gcd g g2) * nI (Nat.gcd g g2)) := by
    have e1 : ¬ nI (Nat.gcd g g2) ≤ 0 := nI_nle hd0 (by omega)
    have e2 : ¬ nI (Nat.gcd g g2) = 0 := nI_ne0 hd0 (by omega)
    simp only [f_X1_remainder, f_X1_remainder_J11, if_neg e1, if_pos e2]
  have e1 := rem_all ⟨p, by omega⟩ ⟨p2, by omega⟩ ⟨Nat.gcd g g2 - 1, by omega⟩
  have e2 : Nat.gcd g g2 - 1 + 1 = Nat.gcd g g2 := by omega
  simp only [e2] at e1
  simp only [f_X1_meetByRemainders, X1_gcd (h := h) (show g < 2 ^ 31 by omega) hg2.2, Option.bind_some, e0]
  by_cases hc : p % Nat.gcd g g2 = p2 % Nat.gcd g g2
  · rw [if_pos (e1.mpr hc)]
    have hb : ∀ j, 0 ≤ j → j < 0 + g2 → f_X1_meetByRemainders_L26 h (nI g) (nI g2) (nI p2) ((fun j => (nI (p + j * g), nI j)) j) = some (if (fun j => decide ((p + j * g) % g2 = p2)) j = true then .inr ((fun j => (.inr (nI (p + j * g)) : Unit ⊕ Int32)) j) else .inl ((fun j => (nI (p + j * g), nI j)) (j + 1))) := by
      intro j _ hj
      have h9 : j * g ≤ 20 * 20 := Nat.mul_le_mul (by omega) hg.2
      have c1 : ¬ nI g2 ≤ nI j := nI_ge (by omega) (by omega)
      simp only [f_X1_meetByRemainders_L26, f_X1_meetByRemainders_J51, if_neg c1]
      by_cases hu : (p + j * g) % g2 = p2
      · have h8 : p2 ≤ p + j * g := by rw [← hu]; exact Nat.mod_le _ _
        have c2 : ¬ nI (p + j * g) < nI p2 := nI_nlt h8 (by omega)
        simp only [if_neg c2, X1_remainder (h := h) (show p + j * g < 2 ^ 31 by omega) (show g2 < 2 ^ 31 by omega) (by omega), Option.bind_some, hu, not_true_eq_false, if_false, decide_true, if_true]
      · have c4 : ¬ nI ((p + j * g) % g2) = nI p2 := fun q => hu ((nI_eq (by have := Nat.mod_le (p + j * g) g2; omega) (by omega)).mp q)
        by_cases h8 : p + j * g < p2
        · have c2 : nI (p + j * g) < nI p2 := nI_lt h8 (by omega)
          simp only [if_pos c2, nI_1, nI_step, hu, decide_false, Bool.false_eq_true, if_false]
        · have c2 : ¬ nI (p + j * g) < nI p2 := nI_nlt (by omega) (by omega)
          simp only [if_neg c2, X1_remainder (h := h) (show p + j * g < 2 ^ 31 by omega) (show g2 < 2 ^ 31 by omega) (by omega), Option.bind_some, if_pos c4, nI_1, nI_step, hu, decide_false, Bool.false_eq_true, if_false]
    have he : f_X1_meetByRemainders_L26 h (nI g) (nI g2) (nI p2) ((fun j => (nI (p + j * g), nI j)) (0 + g2)) = some (.inr (.inl ())) := by
      have c1 : nI g2 ≤ nI (0 + g2) := nI_le (by omega) (by omega)
      simp only [f_X1_meetByRemainders_L26, if_pos c1]
    have hw := lpn_find (fun j => (nI (p + j * g), nI j)) (fun j => decide ((p + j * g) % g2 = p2)) (fun j => (.inr (nI (p + j * g)) : Unit ⊕ Int32)) (.inl ()) g2 0 LF hb he (by unfold LF; omega)
    have h0 : (fun j => (nI (p + j * g), nI j)) 0 = (nI p, (0 : Int32)) := by
      show (nI (p + 0 * g), nI 0) = _
      rw [Nat.zero_mul, Nat.add_zero, nI_0]
    have hw0 : lpn (f_X1_meetByRemainders_L26 h (nI g) (nI g2) (nI p2)) LF (nI p, (0 : Int32)) = _ := (congrArg (lpn _ LF) h0.symm).trans hw
    cases hf : fst9 (fun j => decide ((p + j * g) % g2 = p2)) 0 g2 with
    | none =>
      rw [hf] at hw0
      have h5 : meetA g p g2 p2 = none := by
        refine fst9_of_none (fun k _ _ => ?_)
        cases h6 : cmb g p g2 p2 k with
        | false => rfl
        | true =>
          obtain ⟨⟨j, rfl⟩, h8⟩ := (cmb_iff hp2).mp h6
          have h9 := fst9_none hf (j % g2) (Nat.zero_le _) (by have := Nat.mod_lt j (show 0 < g2 by omega); omega)
          have h10 := cmb_small h8
          simp [h10] at h9
      rw [h5]
      simp only [hw0, Option.bind_some, f_X1_meetByRemainders_J63]
      rfl
    | some j =>
      rw [hf] at hw0
      obtain ⟨-, f2, f3, f4⟩ := fst9_some hf
      have h9 : j * g ≤ 19 * 20 := Nat.mul_le_mul (by omega) hg.2
      have h5 : meetA g p g2 p2 = some (p + j * g) := by
        refine fst9_of (Nat.zero_le _) (by omega) ((cmb_iff hp2).mpr ⟨⟨j, rfl⟩, by simpa using f3⟩) (fun k _ hk => ?_)
        cases h6 : cmb g p g2 p2 k with
        | false => rfl
        | true =>
          obtain ⟨⟨i, rfl⟩, h8⟩ := (cmb_iff hp2).mp h6
          have h10 : i < j := by
            rcases Nat.lt_or_ge i j with q | q
            · exact q
            · have := Nat.mul_le_mul_right g q
              omega
          have := f4 i (Nat.zero_le _) h10
          simp [h8] at this
      rw [h5]
      simp only [hw0, Option.bind_some, f_X1_meetByRemainders_J48]
      rfl
  · rw [if_neg (fun q => hc (e1.mp q))]
    have h5 : meetA g p g2 p2 = none := by
      refine fst9_of_none (fun k _ _ => ?_)
      cases h6 : cmb g p g2 p2 k with
      | false => rfl
      | true =>
        obtain ⟨⟨j, h7⟩, h8⟩ := (cmb_iff hp2).mp h6
        have h9 : k % Nat.gcd g g2 = p % Nat.gcd g g2 := by
          rw [h7]
          exact add_dvd_mod (Nat.gcd_dvd_left g g2)
        have h10 : k % Nat.gcd g g2 = p2 % Nat.gcd g g2 := by
          rw [← h8, Nat.mod_mod_of_dvd _ (Nat.gcd_dvd_right g g2)]
        exact absurd (h9.symm.trans h10) hc
    rw [h5]
    rfl
end Meet
