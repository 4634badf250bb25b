/-! PURE READING, 15: sums without a state -/
theorem nI_mul (a b : Nat) : nI a * nI b = nI (a * b) := by
  unfold nI
  rw [Int32.ofNat_mul]
theorem nI_sub {a b : Nat} (h : b ≤ a) : nI a - nI b = nI (a - b) := by
  have h1 : nI a = nI (a - b) + nI b := by rw [nI_add, Nat.sub_add_cancel h]
  rw [h1, Int32.add_sub_cancel]
theorem nI_rem {a b : Nat} (ha : a < 2 ^ 31) (h0 : 0 < b) (hb : b < 2 ^ 31) : nI a - nI a / nI b * nI b = nI (a % b) := by
  rw [pk_div ha h0 hb, nI_mul, nI_sub (Nat.div_mul_le_self a b)]
  congr 1
  have := Nat.div_add_mod a b
  rw [Nat.mul_comm] at this
  omega
section Sums
variable {h : PH}
theorem X1_remainder {a b : Nat} (ha : a < 2 ^ 31) (hb : b < 2 ^ 31) (h0 : 0 < b) : f_X1_remainder h (nI a) (nI b) = some (nI (a % b)) := by
  have e1 : ¬ nI b ≤ 0 := nI_nle h0 hb
  have e2 : ¬ nI b = 0 := nI_ne0 h0 hb
  simp only [f_X1_remainder, f_X1_remainder_J11, if_neg e1, if_pos e2, nI_rem ha h0 hb]
theorem gcd_loop : ∀ b a st k : Nat, a < 2 ^ 31 → b < 2 ^ 31 → st + b < 64 → b < k → lpn (f_X1_greatestCommonDivisor_L7 h) k (nI a, nI b, nI st) = some (nI (Nat.gcd a b)) := by
  intro b
  induction b using Nat.strongRecOn with
  | ind b ih =>
    intro a st k ha hb hs hk
    obtain ⟨q, rfl⟩ : ∃ q, k = q + 1 := ⟨k - 1, by omega⟩
    have c1 : ¬ (64 : Int32) ≤ nI st := nI_ge (b := 64) (by omega) (by omega)
    show (f_X1_greatestCommonDivisor_L7 h (nI a, nI b, nI st)).bind _ = _
    by_cases hb0 : b = 0
    · subst hb0
      have c2 : nI 0 ≤ 0 := by decide
      simp only [f_X1_greatestCommonDivisor_L7, if_neg c1, if_pos c2, Option.bind_some, Nat.gcd_zero_right]
    · have c2 : ¬ nI b ≤ 0 := nI_nle (by omega) hb
      have c3 : ¬ nI b = 0 := nI_ne0 (by omega) hb
      have h1 : a % b < b := Nat.mod_lt _ (by omega)
      simp only [f_X1_greatestCommonDivisor_L7, if_neg c1, if_neg c2, if_pos c3, Option.bind_some, nI_rem ha (show 0 < b by omega) hb, nI_1]
      rw [ih (a % b) h1 b (st + 1) q hb (by omega) (by omega) (by omega)]
      congr 2
      rw [Nat.gcd_comm b, ← Nat.gcd_rec, Nat.gcd_comm]
theorem X1_gcd {a b : Nat} (ha : a < 2 ^ 31) (hb : b ≤ 20) : f_X1_greatestCommonDivisor h (nI a) (nI b) = some (nI (Nat.gcd a b)) := by
  have h1 := gcd_loop (h := h) b a 0 LF ha (by omega) (by omega) (by unfold LF; omega)
  have h2 : lpn (f_X1_greatestCommonDivisor_L7 h) LF (nI a, nI b, 0) = some (nI (Nat.gcd a b)) := h1
  simp only [f_X1_greatestCommonDivisor, f_X1_greatestCommonDivisor_J34, h2, Option.bind_some]
theorem X1_lcm {a b : Nat} (ha : a < 2 ^ 31) (hb : b ≤ 20) (hb0 : 0 < b) : f_X1_leastCommonMultiple h (nI a) (nI b) = some (nI (Nat.lcm a b)) := by
  have h1 : 0 < Nat.gcd a b := Nat.gcd_pos_of_pos_right a hb0
  have h2 : Nat.gcd a b ≤ b := Nat.gcd_le_right a hb0
  have e1 : ¬ nI (Nat.gcd a b) ≤ 0 := nI_nle h1 (by omega)
  have e2 : ¬ nI (Nat.gcd a b) = 0 := nI_ne0 h1 (by omega)
  simp only [f_X1_leastCommonMultiple, f_X1_leastCommonMultiple_J19, X1_gcd ha hb, Option.bind_some, if_neg e1, if_pos e2, pk_div ha h1 (show Nat.gcd a b < 2 ^ 31 by omega), nI_mul]
  congr 2
  unfold Nat.lcm
  rw [Nat.mul_comm a b, Nat.mul_div_assoc b (Nat.gcd_dvd_left a b), Nat.mul_comm]
end Sums
