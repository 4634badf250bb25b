/-! PURE READING, 26: helpers; the share is a number; greatest, fullness -/
theorem bs9 {α β : Type} (x : α) (f : α → Option β) : (some x).bind f = f x := by rw [Option.bind_some]
theorem upd_s (f : Nat → Int32) (k : Nat) (x : Int32) : upd f k x k = x := if_pos rfl
theorem upd_n (f : Nat → Int32) {k j : Nat} (x : Int32) (h : ¬ j = k) : upd f k x j = f j := if_neg h
theorem lpn_l {σ ρ : Type} {b : σ → Option (σ ⊕ ρ)} {k : Nat} {x y : σ} (h : b x = some (.inl y)) : lpn b (k + 1) x = lpn b k y := by
  show (b x).bind _ = _
  rw [h]
  rfl
theorem lpn_r {σ ρ : Type} {b : σ → Option (σ ⊕ ρ)} {k : Nat} {x : σ} {z : ρ} (h : b x = some (.inr z)) : lpn b (k + 1) x = some z := by
  show (b x).bind _ = _
  rw [h]
  rfl
theorem okv_self {v : UInt64} {c : Nat} {q : Int} (h : FP.Core.val64 v = .fin false c q) : Op.cmpValue (FP.dcmp v v) .l = 0 := by
  have e0 : FP.dcmp v v = FP.Core.order (.fin false c q) (.fin false c q) := by
    show FP.Core.order (FP.Core.val64 v) (FP.Core.val64 v) = _
    rw [h]
  rw [e0]
  show Op.cmpValue (some (compare ((FP.Core.inUnits c q (min q q) : Nat) : Int) ((FP.Core.inUnits c q (min q q) : Nat) : Int))) .l = 0
  generalize ((FP.Core.inUnits c q (min q q) : Nat) : Int) = x
  rw [show compare x x = .eq from Int.compare_eq_eq.mpr rfl]
  decide
theorem share_num {k n : Nat} (hk2 : k < 2 ^ 31) (h0 : 0 < n) (hn : n < 2 ^ 31) : nn64 (FP.ddiv (FP.i2d (nI k)) (FP.i2d (nI n))) = true ∧ Op.cmpValue (FP.dcmp (FP.ddiv (FP.i2d (nI k)) (FP.i2d (nI n))) (FP.ddiv (FP.i2d (nI k)) (FP.i2d (nI n)))) .l = 0 := by
  by_cases hk : k = 0
  · rw [hk, share_zero h0 hn]
    exact ⟨by decide +kernel, okv_self FP.Core.val64_dconst0⟩
  · obtain ⟨j, hj, hv⟩ := share_ok (show 0 < k by omega) hk2 h0 hn
    refine ⟨okv_nn hv, ?_⟩
    obtain ⟨c, q, h1, -⟩ := hv
    exact okv_self h1
section MainOps7
variable {h : PH} {x : Nat} {A : AAt}
theorem shrA_num (W : wfA A) : nn64 (shrA A) = true ∧ Op.cmpValue (FP.dcmp (shrA A) (shrA A)) .l = 0 := by
  have h1 := lenAt_le W.1
  unfold shrA
  by_cases h0 : sum9 (lenAt A.1.2.1) A.1.2.1.length = 0
  · rw [if_pos h0]
    exact ⟨okv_nn okv_one, okv_self FP.Core.val64_dconst1⟩
  · rw [if_neg h0]
    exact share_num (by omega) (by omega) (by omega)
theorem C_fullness (W : wfA A) (H : repC h x A) : f_X5_fullness h x = some (shrA A) := by
  obtain ⟨H1, H2, -⟩ := id H
  have h1 := lenAt_le W.1
  have h2 := hol_le (g := A.1.1) (R := A.1.2.1)
  have h3 := (shrA_num W).1
  unfold shrA at h3 ⊢
  by_cases h0 : sum9 (lenAt A.1.2.1) A.1.2.1.length = 0
  · rw [if_pos h0]
    have e1 := S_places W.1 H2
    rw [h0] at e1
    have c1 : nI 0 ≤ 0 := by decide
    simp only [f_X5_fullness, f_X5_fullness_J31, H1.ok, H1.r0, if_true, e1, S_holes W.1 H2, if_pos c1, Option.bind_some]
  · rw [if_neg h0] at h3 ⊢
    have c1 : ¬ nI (sum9 (lenAt A.1.2.1) A.1.2.1.length) ≤ 0 := nI_nle (by omega) (by omega)
    simp only [f_X5_fullness, f_X5_fullness_J31, H1.ok, H1.r0, if_true, S_places W.1 H2, S_holes W.1 H2, if_neg c1, nI_sub h2, h3, Option.bind_some]
theorem C_great (W : wfA A) (H : repC h x A) (a : Int32) : f_X5_greatest h x a = some (outL [eIO] (sp_greatest A a)) := by
  obtain ⟨H1, H2, -⟩ := id H
  have hR := W.1.2.1
  unfold sp_greatest
  cases hv : rng A.1.2.1.length a with
  | none =>
    simp only [f_X5_greatest, H1.ok, if_true, C_existing_no H1 H2 hv, Option.bind_some]
    rfl
  | some i =>
    obtain ⟨v1, rfl⟩ := rng_some (by omega) hv
    dsimp only
    obtain ⟨r, e1, e3, e4, e5, e6⟩ := C_existing H1 W.1 H2 (atR_get v1)
    have WR := W.1.2.2 _ (atR_mem v1)
    simp only [f_X5_greatest, H1.ok, if_true, e1, C_greatest W.1.1 H1 H2 WR e4, Option.bind_some]
    rfl
end MainOps7
