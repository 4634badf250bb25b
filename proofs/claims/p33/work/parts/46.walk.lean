/-! PURE READING, 17: two hues that go along -/
section Walk
variable {h : PH}
theorem walk_loop {g p g2 p2 : Nat} (hg : 2 ≤ g ∧ g ≤ 20) (hg2 : 2 ≤ g2 ∧ g2 ≤ 20) : ∀ m i j st k, st + m = 800 → m < k → 2 * st ≤ (p + i * g) + (p2 + j * g2) → (p + i * g < 840 ∧ p2 + j * g2 < 840) → (∀ c, cmb g p g2 p2 c = true → p + i * g ≤ c ∧ p2 + j * g2 ≤ c) →
    lpn (f_X1_meetByWalking_L9 h (nI g) (nI g2)) k (nI (p + i * g), nI (p2 + j * g2), nI st) = some (match meetA g p g2 p2 with | some c => (.inr (nI c) : Unit ⊕ Int32) | none => .inl ()) := by
  have hno : ∀ i j, (∀ c, cmb g p g2 p2 c = true → p + i * g ≤ c ∧ p2 + j * g2 ≤ c) → (800 ≤ p + i * g ∨ 800 ≤ p2 + j * g2) → meetA g p g2 p2 = none := by
    intro i j hc h8
    refine fst9_of_none (fun c _ h9 => ?_)
    cases h6 : cmb g p g2 p2 c with
    | false => rfl
    | true =>
      have := hc c h6
      omega
  intro m
  induction m with
  | zero =>
    intro i j st k h1 h2 h3 h4 hc
    obtain ⟨q, rfl⟩ : ∃ q, k = q + 1 := ⟨k - 1, by omega⟩
    rw [hno i j hc (by omega)]
    have c1 : (800 : Int32) ≤ nI st := nI_le (a := 800) (by omega) (by omega)
    show (f_X1_meetByWalking_L9 h (nI g) (nI g2) _).bind _ = _
    simp only [f_X1_meetByWalking_L9, if_pos c1, Option.bind_some]
  | succ m ih =>
    intro i j st k h1 h2 h3 h4 hc
    obtain ⟨q, rfl⟩ : ∃ q, k = q + 1 := ⟨k - 1, by omega⟩
    have c1 : ¬ (800 : Int32) ≤ nI st := nI_ge (b := 800) (by omega) (by omega)
    show (f_X1_meetByWalking_L9 h (nI g) (nI g2) _).bind _ = _
    by_cases ha : 800 ≤ p + i * g
    · rw [hno i j hc (Or.inl ha)]
      have c2 : (800 : Int32) ≤ nI (p + i * g) := nI_le (a := 800) ha (by omega)
      simp only [f_X1_meetByWalking_L9, if_neg c1, if_pos c2, Option.bind_some]
    · have c2 : ¬ (800 : Int32) ≤ nI (p + i * g) := nI_ge (b := 800) (by omega) (by omega)
      by_cases hb : 800 ≤ p2 + j * g2
      · rw [hno i j hc (Or.inr hb)]
        have c3 : (800 : Int32) ≤ nI (p2 + j * g2) := nI_le (a := 800) hb (by omega)
        simp only [f_X1_meetByWalking_L9, if_neg c1, if_neg c2, if_pos c3, Option.bind_some]
      · have c3 : ¬ (800 : Int32) ≤ nI (p2 + j * g2) := nI_ge (b := 800) (by omega) (by omega)
        by_cases he : p + i * g = p2 + j * g2
        · have h5 : meetA g p g2 p2 = some (p + i * g) := by
            refine fst9_of (Nat.zero_le _) (by omega) ?_ (fun c _ h9 => ?_)
            · unfold cmb
              rw [decide_eq_true_iff]
              exact ⟨step_iff.mpr ⟨i, rfl⟩, step_iff.mpr ⟨j, he⟩⟩
            · cases h6 : cmb g p g2 p2 c with
              | false => rfl
              | true =>
                have := hc c h6
                omega
          rw [h5]
          have c4 : nI (p + i * g) = nI (p2 + j * g2) := by rw [he]
          simp only [f_X1_meetByWalking_L9, if_neg c1, if_neg c2, if_neg c3, c4, not_true_eq_false, if_false, Option.bind_some]
        · have c4 : ¬ nI (p + i * g) = nI (p2 + j * g2) := fun q9 => he ((nI_eq (by omega) (by omega)).mp q9)
          by_cases hl : p2 + j * g2 ≤ p + i * g
          · have c5 : nI (p2 + j * g2) ≤ nI (p + i * g) := nI_le hl (by omega)
            simp only [f_X1_meetByWalking_L9, f_X1_meetByWalking_J65, if_neg c1, if_neg c2, if_neg c3, if_pos c4, if_pos c5, Option.bind_some, nI_step, nI_1]
            refine ih i (j + 1) (st + 1) q (by omega) (by omega) (by rw [Nat.add_mul]; omega) ⟨h4.1, by rw [Nat.add_mul]; omega⟩ (fun c h6 => ?_)
            obtain ⟨h7, h8⟩ := hc c h6
            refine ⟨h7, ?_⟩
            unfold cmb at h6
            rw [decide_eq_true_iff, step_iff, step_iff] at h6
            obtain ⟨-, j', hj'⟩ := h6
            rcases Nat.lt_or_ge j j' with q9 | q9
            · have := Nat.mul_le_mul_right g2 (show j + 1 ≤ j' from q9)
              omega
            · have := Nat.mul_le_mul_right g2 q9
              omega
          · have c5 : ¬ nI (p2 + j * g2) ≤ nI (p + i * g) := nI_ge (by omega) (by omega)
            simp only [f_X1_meetByWalking_L9, f_X1_meetByWalking_J65, if_neg c1, if_neg c2, if_neg c3, if_pos c4, if_neg c5, Option.bind_some, nI_step, nI_1]
            refine ih (i + 1) j (st + 1) q (by omega) (by omega) (by rw [Nat.add_mul]; omega) ⟨by rw [Nat.add_mul]; omega, h4.2⟩ (fun c h6 => ?_)
            obtain ⟨h7, h8⟩ := hc c h6
            refine ⟨?_, h8⟩
            unfold cmb at h6
            rw [decide_eq_true_iff, step_iff, step_iff] at h6
            obtain ⟨⟨i', hi'⟩, -⟩ := h6
            rcases Nat.lt_or_ge i i' with q9 | q9
            · have := Nat.mul_le_mul_right g (show i + 1 ≤ i' from q9)
              omega
            · have := Nat.mul_le_mul_right g q9
              omega
theorem X1_meetByWalking {g p g2 p2 : Nat} (hg : 2 ≤ g ∧ g ≤ 20) (hg2 : 2 ≤ g2 ∧ g2 ≤ 20) (hp : p < g) (hp2 : p2 < g2) : f_X1_meetByWalking h (nI g) (nI p) (nI g2) (nI p2) = some (oI (meetA g p g2 p2)) := by
  have h1 := walk_loop (h := h) (p := p) (p2 := p2) hg hg2 800 0 0 0 LF (by omega) (by unfold LF; omega) (by omega) (by omega) (fun c h6 => by
    unfold cmb at h6
    rw [decide_eq_true_iff] at h6
    omega)
  rw [Nat.zero_mul, Nat.add_zero, Nat.zero_mul, Nat.add_zero, nI_0] at h1
  simp only [f_X1_meetByWalking]
  cases hm : meetA g p g2 p2 with
  | none =>
    rw [hm] at h1
    simp only [h1, Option.bind_some]
    rfl
  | some c =>
    rw [hm] at h1
    simp only [h1, Option.bind_some]
    rfl
end Walk
