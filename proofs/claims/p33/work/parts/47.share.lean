/-! PURE READING, 18: the bits of a share: a number that doubling brings to 1 -/
def okv (v : UInt64) (j : Nat) : Prop := ∃ (c : Nat) (q : Int), FP.Core.val64 v = .fin false c q ∧ 2 ^ 52 ≤ c ∧ c < 2 ^ 53 ∧ -52 ≤ q + j ∧ (0 < j → q + j = -52)
theorem nn64_of {v : UInt64} (h : FP.Core.val64 v ≠ .nan) : nn64 v = true := by
  unfold nn64
  rw [decide_eq_true_iff, UInt64.le_iff_toNat_le, UInt64.toNat_and]
  have e1 : (0x7fffffffffffffff : UInt64).toNat = 2 ^ 63 - 1 := by decide
  have e2 : (0x7ff0000000000000 : UInt64).toNat = 2047 * 2 ^ 52 := by decide
  rw [e1, e2, Nat.and_two_pow_sub_one_eq_mod]
  have e3 : FP.Core.b64.tails = 2 ^ 52 := by decide
  have e4 : FP.Core.b64.exps = 2 ^ 11 := by decide
  unfold FP.Core.val64 FP.Core.decode at h
  have e5 : FP.Core.fieldE FP.Core.b64 v.toNat = v.toNat / 2 ^ 52 % 2 ^ 11 := by unfold FP.Core.fieldE; rw [e3, e4]
  have e6 : FP.Core.fieldT FP.Core.b64 v.toNat = v.toNat % 2 ^ 52 := by unfold FP.Core.fieldT; rw [e3]
  rw [e5, e6, e4] at h
  generalize v.toNat = n at h ⊢
  by_cases h1 : n / 2 ^ 52 % 2 ^ 11 = 2 ^ 11 - 1
  · rw [if_pos h1] at h
    by_cases h2 : n % 2 ^ 52 = 0
    · omega
    · rw [if_neg h2] at h
      exact absurd rfl h
  · omega
theorem okv_nn {v : UInt64} {j : Nat} (h : okv v j) : nn64 v = true := by
  obtain ⟨c, q, h1, -⟩ := h
  exact nn64_of (by rw [h1]; simp)
theorem val_two : FP.Core.val64 (4611686018427387904 : UInt64) = .fin false (2 ^ 52) (-51) := by decide +kernel
theorem val_big : FP.Core.val64 (4841369599423283200 : UInt64) = .fin false (2 ^ 52) 0 := by decide +kernel
theorem fits_ok {c : Nat} {q : Int} (h1 : 2 ^ 52 ≤ c) (h2 : c < 2 ^ 53) (h3 : -200 ≤ q) (h4 : q ≤ 200) : FP.Core.fits FP.Core.b64 (.fin false c q) := by
  have e1 : FP.Core.b64.qmin = -1074 := by decide
  have e2 : FP.Core.b64.qmax = 971 := by decide
  have e3 : FP.Core.b64.tails = 2 ^ 52 := by decide
  have e4 : FP.Core.b64.p = 53 := rfl
  unfold FP.Core.fits
  rw [e1, e2, e3, e4]
  exact ⟨h2, by omega, by omega, Or.inr h1⟩
theorem okv_dbl {v : UInt64} {j : Nat} (h : okv v (j + 1)) (hj : j < 100) : okv (FP.dmul v (4611686018427387904 : UInt64)) j := by
  obtain ⟨c, q, h1, h2, h3, h4, h5⟩ := h
  have h6 := h5 (by omega)
  refine ⟨c, q + 1, ?_, h2, h3, by omega, fun _ => by omega⟩
  show FP.Core.val64 (FP.Core.dmul v (4611686018427387904 : UInt64)) = _
  rw [FP.Core.val64_dmul, h1, val_two]
  show FP.Core.roundRatio FP.Core.b64 false (c * 2 ^ 52) 1 (q + -51) = _
  refine FP.Core.roundRatio_exact FP.Core.good_b64 (by decide) (fits_ok h2 h3 (by omega) (by omega)) ?_
  rw [show (q + -51 - (q + 1)).toNat = 0 by omega, show (q + 1 - (q + -51)).toNat = 52 by omega]
  omega
theorem ge1_of {v : UInt64} {c : Nat} {q : Int} (h1 : FP.Core.val64 v = .fin false c q) (h2 : 2 ^ 52 ≤ c) (h3 : c < 2 ^ 53) : (0 ≤ (Op.cmpValue (FP.dcmp v FP.dconst1) .g)) ↔ -52 ≤ q := by
  have e0 : FP.dcmp v FP.dconst1 = FP.Core.order (.fin false c q) (.fin false (2 ^ 52) (-52)) := by
    show FP.Core.order (FP.Core.val64 v) (FP.Core.val64 FP.Core.dconst1) = _
    rw [h1, FP.Core.val64_dconst1]
  rw [e0]
  show 0 ≤ Op.cmpValue (some (compare ((FP.Core.inUnits c q (min q (-52)) : Nat) : Int) ((FP.Core.inUnits (2 ^ 52) (-52) (min q (-52)) : Nat) : Int))) .g ↔ _
  unfold FP.Core.inUnits
  by_cases hq : -52 ≤ q
  · rw [show min q (-52) = -52 by omega, show ((-52 : Int) - -52).toNat = 0 by omega]
    have h5 : 2 ^ 52 * 2 ^ 0 ≤ c * 2 ^ (q - -52).toNat := by
      have := Nat.mul_le_mul h2 (Nat.one_le_two_pow (n := (q - -52).toNat))
      omega
    generalize c * 2 ^ (q - -52).toNat = x at h5
    constructor
    · intro _; exact hq
    · intro _
      rcases Int.lt_trichotomy ((2 ^ 52 * 2 ^ 0 : Nat) : Int) ((x : Nat) : Int) with h6 | h6 | h6
      · rw [show compare ((x : Nat) : Int) ((2 ^ 52 * 2 ^ 0 : Nat) : Int) = .gt from Int.compare_eq_gt.mpr h6]
        decide
      · rw [h6, show compare ((x : Nat) : Int) ((x : Nat) : Int) = .eq from Int.compare_eq_eq.mpr rfl]
        decide
      · omega
  · rw [show min q (-52) = q by omega, show (q - q).toNat = 0 by omega]
    have h5 : c * 2 ^ 0 < 2 ^ 52 * 2 ^ (-52 - q).toNat := by
      obtain ⟨k, hk⟩ : ∃ k, (-52 - q).toNat = k + 1 := ⟨(-52 - q).toNat - 1, by omega⟩
      rw [hk, Nat.pow_succ]
      have := Nat.mul_le_mul (Nat.le_refl (2 ^ 53)) (Nat.one_le_two_pow (n := k))
      omega
    generalize 2 ^ 52 * 2 ^ (-52 - q).toNat = x at h5
    rw [show compare ((c * 2 ^ 0 : Nat) : Int) ((x : Nat) : Int) = .lt from Int.compare_eq_lt.mpr (by omega)]
    constructor
    · intro h; exact absurd h (by decide)
    · intro h; exact absurd h hq
theorem okv_lt {v : UInt64} {j : Nat} (h : okv v (j + 1)) : ¬ 0 ≤ (Op.cmpValue (FP.dcmp v FP.dconst1) .g) := by
  obtain ⟨c, q, h1, h2, h3, h4, h5⟩ := h
  have h6 := h5 (by omega)
  rw [ge1_of h1 h2 h3]
  omega
theorem okv_ge {v : UInt64} (h : okv v 0) : 0 ≤ (Op.cmpValue (FP.dcmp v FP.dconst1) .g) := by
  obtain ⟨c, q, h1, h2, h3, h4⟩ := h
  rw [ge1_of h1 h2 h3]
  omega
theorem round_nn {c : Nat} {s : Bool} {q : Int} : FP.Core.round FP.Core.b64 (.fin s c q) ≠ .nan := by
  show FP.Core.roundRatio _ _ _ _ _ ≠ _
  unfold FP.Core.roundRatio FP.Core.roundAt FP.Core.settle FP.Core.bound
  split
  · simp
  · split <;> split <;> simp
theorem okv_sub {v : UInt64} {j : Nat} (h : okv v j) : nn64 (FP.dsub v FP.dconst1) = true ∧ nn64 (FP.dmul (FP.dsub v FP.dconst1) (4841369599423283200 : UInt64)) = true := by
  obtain ⟨c, q, h1, h2, h3, h4⟩ := h
  have e1 : FP.Core.val64 (FP.dsub v FP.dconst1) = FP.Core.round FP.Core.b64 (FP.Core.exactSum (.fin false c q) (FP.Core.negate (.fin false (2 ^ 52) (-52)))) := by
    show FP.Core.val64 (FP.Core.dsub v FP.Core.dconst1) = _
    rw [FP.Core.val64_dsub, h1, FP.Core.val64_dconst1]
  have n1 : FP.Core.val64 (FP.dsub v FP.dconst1) ≠ .nan := by rw [e1]; exact round_nn
  refine ⟨nn64_of n1, nn64_of ?_⟩
  show FP.Core.val64 (FP.Core.dmul _ _) ≠ _
  rw [FP.Core.val64_dmul, val_big]
  cases hx : FP.Core.val64 (FP.dsub v FP.dconst1) with
  | nan => exact absurd hx n1
  | inf s => simp [FP.Core.exactProduct, FP.Core.round]
  | fin s c9 q9 => exact round_nn
def e9 : Nat → Int64
  | 0 => 1023
  | n + 1 => e9 n - 1
def shf9 : Nat → Bool
  | 0 => true
  | n + 1 => decide (e9 n <<< (((52 : Int32)).toInt64 &&& 63) = e9 n * (4503599627370496 : Int64)) && shf9 n
theorem shf_all : shf9 64 = true := by decide +kernel
theorem shf_of : ∀ n i, shf9 n = true → i < n → e9 i <<< (((52 : Int32)).toInt64 &&& 63) = e9 i * (4503599627370496 : Int64) := by
  intro n
  induction n with
  | zero => intro i _ hi; omega
  | succ n ih =>
    intro i h hi
    simp only [shf9, Bool.and_eq_true, decide_eq_true_eq] at h
    by_cases h1 : i = n
    · rw [h1]; exact h.1
    · exact ih i h.2 (by omega)
section Share
variable {h h2 : PH}
theorem okv_cmp0 {v : UInt64} {j : Nat} (hv : okv v j) : ¬ (Op.cmpValue (FP.dcmp v FP.dconst0) .l) = 0 := by
  obtain ⟨c, q, h1, h2, h3, h4⟩ := hv
  have e0 : FP.dcmp v FP.dconst0 = FP.Core.order (.fin false c q) (.fin false 0 FP.Core.b64.qmin) := by
    show FP.Core.order (FP.Core.val64 v) (FP.Core.val64 FP.Core.dconst0) = _
    rw [h1, FP.Core.val64_dconst0]
  rw [e0]
  show ¬ Op.cmpValue (some (compare ((FP.Core.inUnits c q (min q FP.Core.b64.qmin) : Nat) : Int) ((FP.Core.inUnits 0 FP.Core.b64.qmin (min q FP.Core.b64.qmin) : Nat) : Int))) .l = 0
  unfold FP.Core.inUnits
  rw [Nat.zero_mul]
  have h5 : 0 < c * 2 ^ (q - min q FP.Core.b64.qmin).toNat := Nat.mul_pos (by omega) (Nat.two_pow_pos _)
  generalize c * 2 ^ (q - min q FP.Core.b64.qmin).toNat = x at h5
  rw [show compare ((x : Nat) : Int) ((0 : Nat) : Int) = .gt from Int.compare_eq_gt.mpr (by omega)]
  decide
theorem dbl_zero : FP.dmul FP.dconst0 (4611686018427387904 : UInt64) = FP.dconst0 := by decide +kernel
end Share
/-- the datum of a whole number below 2 ^ 53 -/
theorem val_nat {n : Nat} (h0 : 0 < n) (hn : n < 2 ^ 31) : ∃ (c : Nat) (q : Int), FP.Core.val64 (FP.i2d (nI n)) = .fin false c q ∧ 2 ^ 52 ≤ c ∧ c < 2 ^ 53 ∧ -52 ≤ q ∧ q ≤ -21 := by
  have e1 : FP.Core.val64 (FP.i2d (nI n)) = FP.Core.roundRatio FP.Core.b64 false n 1 0 := by
    show FP.Core.val64 (FP.Core.i2d (nI n)) = _
    rw [FP.Core.val64_i2d, nI_toInt hn]
    show FP.Core.roundRatio _ (decide ((n : Int) < 0)) (n : Int).natAbs 1 0 = _
    rw [decide_eq_false (by omega), Int.natAbs_natCast]
  have a1 : 2 ^ n.log2 ≤ n := Nat.log2_self_le (by omega)
  have a2 : n < 2 ^ (n.log2 + 1) := Nat.lt_log2_self
  have a3 : n.log2 < 31 := (Nat.log2_lt (by omega)).mpr hn
  obtain ⟨l, hl⟩ : ∃ l, l = n.log2 := ⟨_, rfl⟩
  rw [← hl] at a1 a2 a3
  have b1 : 2 ^ l * 2 ^ (52 - l) = 2 ^ 52 := by rw [← Nat.pow_add]; congr 1; omega
  have b2 : 2 ^ (l + 1) * 2 ^ (52 - l) = 2 ^ 53 := by rw [← Nat.pow_add]; congr 1; omega
  have b3 := Nat.mul_le_mul_right (2 ^ (52 - l)) a1
  have b4 := Nat.mul_lt_mul_of_pos_right a2 (Nat.two_pow_pos (52 - l))
  refine ⟨n * 2 ^ (52 - l), (l : Int) - 52, ?_, by omega, by omega, by omega, by omega⟩
  rw [e1]
  refine FP.Core.roundRatio_exact FP.Core.good_b64 (by decide) (fits_ok (by omega) (by omega) (by omega) (by omega)) ?_
  rw [show (0 - ((l : Int) - 52)).toNat = 52 - l by omega, show ((l : Int) - 52 - 0).toNat = 0 by omega]
  omega
theorem lead_ge {a b : Nat} (ha : 2 ^ 52 ≤ a) (hb : b < 2 ^ 53) (hb0 : 2 ^ 52 ≤ b) (ha2 : a < 2 ^ 53) : -1 ≤ FP.Core.leading a b := by
  have e1 : a.log2 = 52 := (Nat.log2_eq_iff (by omega)).mpr ⟨ha, ha2⟩
  have e2 : b.log2 = 52 := (Nat.log2_eq_iff (by omega)).mpr ⟨hb0, hb⟩
  unfold FP.Core.leading
  rw [e1, e2]
  dsimp only
  split <;> omega
theorem lead_le {a b : Nat} (ha : 2 ^ 52 ≤ a) (hb : b < 2 ^ 53) (hb0 : 2 ^ 52 ≤ b) (ha2 : a < 2 ^ 53) : FP.Core.leading a b ≤ 0 := by
  have e1 : a.log2 = 52 := (Nat.log2_eq_iff (by omega)).mpr ⟨ha, ha2⟩
  have e2 : b.log2 = 52 := (Nat.log2_eq_iff (by omega)).mpr ⟨hb0, hb⟩
  unfold FP.Core.leading
  rw [e1, e2]
  dsimp only
  split <;> omega
theorem share_ok {k n : Nat} (hk : 0 < k) (hk2 : k < 2 ^ 31) (h0 : 0 < n) (hn : n < 2 ^ 31) : ∃ j, j < 60 ∧ okv (FP.ddiv (FP.i2d (nI k)) (FP.i2d (nI n))) j := by
  obtain ⟨a, p, a1, a2, a3, a4, a5⟩ := val_nat hk hk2
  obtain ⟨b, q, b1, b2, b3, b4, b5⟩ := val_nat h0 hn
  have e1 : FP.Core.val64 (FP.ddiv (FP.i2d (nI k)) (FP.i2d (nI n))) = FP.Core.roundRatio FP.Core.b64 false a b (p - q) := by
    show FP.Core.val64 (FP.Core.ddiv _ _) = _
    rw [FP.Core.val64_ddiv, a1, b1]
    show (if b = 0 then _ else _) = _
    rw [if_neg (by omega)]
    rfl
  have l1 := lead_ge a2 b3 b2 a3
  have l2 := lead_le a2 b3 b2 a3
  have f1 := FP.Core.roundRatio_fits FP.Core.good_b64 false a (B := b) (by omega) (p - q)
  have m1 : FP.Core.b64.qmin = -1074 := by decide
  have m2 : FP.Core.b64.qmax = 971 := by decide
  have m3 : FP.Core.b64.tails = 2 ^ 52 := by decide
  have m4 : FP.Core.b64.p = 53 := rfl
  have q1 : -84 ≤ FP.Core.quantum FP.Core.b64 a b (p - q) ∧ FP.Core.quantum FP.Core.b64 a b (p - q) ≤ -21 := by
    unfold FP.Core.quantum
    rw [m1, m4]
    omega
  have e2 : ∃ c9 q9, FP.Core.roundRatio FP.Core.b64 false a b (p - q) = .fin false c9 q9 ∧ -84 ≤ q9 ∧ q9 ≤ -20 := by
    unfold FP.Core.roundRatio FP.Core.roundAt FP.Core.settle FP.Core.bound
    rw [if_neg (by omega), m2]
    split
    · rw [if_pos (by omega)]
      exact ⟨_, _, rfl, by omega, by omega⟩
    · rw [if_pos (by omega)]
      exact ⟨_, _, rfl, by omega, by omega⟩
  obtain ⟨c9, q9, e3, e4, e5⟩ := e2
  rw [e3] at f1 e1
  unfold FP.Core.fits at f1
  rw [m1, m2, m3, m4] at f1
  obtain ⟨f2, f3, f4, f5⟩ := f1
  have f6 : 2 ^ 52 ≤ c9 := f5.resolve_left (by omega)
  exact ⟨(-52 - q9).toNat, by omega, c9, q9, e1, f6, f2, by omega, fun _ => by omega⟩
theorem share_zero {n : Nat} (h0 : 0 < n) (hn : n < 2 ^ 31) : FP.ddiv (FP.i2d (nI 0)) (FP.i2d (nI n)) = FP.dconst0 := by
  obtain ⟨b, q, b1, b2, b3, b4, b5⟩ := val_nat h0 hn
  have z1 : FP.Core.val64 (FP.i2d (nI 0)) = .fin false 0 (FP.Core.b64.qmin) := by decide +kernel
  have e1 : FP.Core.val64 (FP.ddiv (FP.i2d (nI 0)) (FP.i2d (nI n))) = .fin false 0 (FP.Core.b64.qmin) := by
    show FP.Core.val64 (FP.Core.ddiv _ _) = _
    rw [FP.Core.val64_ddiv, z1, b1]
    show (if b = 0 then _ else FP.Core.roundRatio FP.Core.b64 (false != false) 0 b _) = _
    rw [if_neg (by omega)]
    rfl
  refine FP.Core.val64_inj (by rw [e1]; simp) ?_
  rw [e1]
  exact FP.Core.val64_dconst0.symm
theorem okv_one : okv FP.dconst1 0 := ⟨2 ^ 52, -52, FP.Core.val64_dconst1, by omega, by omega, by omega, fun h => by omega⟩
