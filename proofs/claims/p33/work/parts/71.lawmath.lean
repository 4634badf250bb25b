/-! THE LAW, 2: holes and what is taken; numbers of the law's lines -/
def takL (g : Nat → Nat) (len : Nat) : List (Nat × Nat) → Nat
  | [] => 0
  | q :: L => stp9 len q.2 (g q.1) + takL g len L
theorem takL_app {g : Nat → Nat} {len : Nat} : ∀ (L M : List (Nat × Nat)), takL g len (L ++ M) = takL g len L + takL g len M := by
  intro L M
  induction L with
  | nil => simp [takL]
  | cons q L ih => simp only [List.cons_append, takL, ih]; omega
theorem takL_s {g : Nat → Nat} (hg : wfg g) {n : Nat} : ∀ (L : List (Nat × Nat)), takL g (n + 1) L = takL g n L + cntT g L n := by
  intro L
  induction L with
  | nil => simp [takL, cntT]
  | cons q L ih =>
    have h1 := cnt9_tkb hg q (n + 1)
    have h2 := cnt9_tkb hg q n
    simp only [cnt9] at h1
    unfold cntT at ih ⊢
    simp only [takL, ih, ← h1, h2, List.filter_cons]
    by_cases h : tkb g q n = true
    · rw [if_pos h, if_pos h, List.length_cons]; omega
    · rw [if_neg h, if_neg h]; omega
theorem takL_0 {g : Nat → Nat} (hg : wfg g) : ∀ (L : List (Nat × Nat)), takL g 0 L = 0 := by
  intro L
  induction L with
  | nil => rfl
  | cons q L ih =>
    have h1 := cnt9_tkb hg q 0
    simp only [cnt9] at h1
    simp only [takL, ih, ← h1]
theorem cntT_0 {g : Nat → Nat} {L : List (Nat × Nat)} {i : Nat} : cntT g L i = 0 ↔ col g L i = none := by
  unfold cntT
  rw [List.length_eq_zero_iff, List.filter_eq_nil_iff, col_none]
  constructor
  · intro h q hq
    exact Bool.eq_false_iff.mpr (h q hq)
  · intro h q hq
    rw [h q hq]
    exact Bool.false_ne_true
theorem hol_tak {g : Nat → Nat} (hg : wfg g) {len : Nat} {L : List (Nat × Nat)} (W : wfR g len L) : holL g len L + takL g len L = len := by
  have key : ∀ n, n ≤ len → cnt9 (fun i => decide (col g L i = none)) n + takL g n L = n := by
    intro n
    induction n with
    | zero => intro _; rw [takL_0 hg]; rfl
    | succ n ih =>
      intro hn
      have h1 := ih (by omega)
      have h2 := cntT_le W (show n < len by omega)
      rw [takL_s hg]
      simp only [cnt9]
      by_cases h3 : col g L n = none
      · have h4 := cntT_0.mpr h3
        rw [if_pos (decide_eq_true h3)]
        omega
      · have h4 : ¬ cntT g L n = 0 := fun q => h3 (cntT_0.mp q)
        rw [if_neg (by simp [h3])]
        omega
  exact key len (Nat.le_refl _)
theorem n0_e : nI 0 = (0 : Int32) := rfl
theorem n1_e : nI 1 = (1 : Int32) := rfl
theorem n2_e : nI 2 = (2 : Int32) := rfl
theorem n3_e : nI 3 = (3 : Int32) := rfl
theorem dueL {len p g : Nat} (hp : p < len) (hl : len ≤ 60) (h0 : 0 < g) (hg : g ≤ 20) : (nI len - nI p + nI g - (1 : Int32)) / nI g = nI (stp9 len p g) := by
  rw [← n1_e, nI_sub (show p ≤ len by omega), nI_add, nI_sub (show 1 ≤ len - p + g by omega), pk_div (by omega) h0 (by omega)]
  rfl
theorem stp_pos {len p g : Nat} (hp : p < len) (h0 : 0 < g) : stp9 len p g = (len - 1 - p) / g + 1 := by
  unfold stp9
  rw [show len - p + g - 1 = (len - 1 - p) + g by omega, Nat.add_div_right _ h0]
theorem lst_stp {len p g : Nat} (hp : p < len) (h0 : 0 < g) : lst p g len = p + (stp9 len p g - 1) * g := by
  rw [stp_pos hp h0]
  rfl
theorem why_0 {g : Nat → Nat} {len : Nat} {L : List (Nat × Nat)} {u p : Nat} (h : whyA g len L u p = 0) : phs L u = none ∧ p < len := by
  unfold whyA at h
  split at h
  · omega
  · rename_i h1
    split at h
    · omega
    · rename_i h2
      refine ⟨?_, by omega⟩
      cases hx : phs L u with
      | none => rfl
      | some v => rw [hx] at h1; exact absurd rfl h1
theorem why_1 {g : Nat → Nat} {len : Nat} {L : List (Nat × Nat)} {u p : Nat} (h : whyA g len L u p = 1) : ∃ q, phs L u = some q := by
  unfold whyA at h
  split at h
  · rename_i h1
    exact Option.isSome_iff_exists.mp h1
  · split at h
    · omega
    · split at h <;> omega
theorem why_2 {g : Nat → Nat} {len : Nat} {L : List (Nat × Nat)} {u p : Nat} (h : whyA g len L u p = 2) : len ≤ p := by
  unfold whyA at h
  split at h
  · omega
  · split at h
    · assumption
    · split at h <;> omega
theorem why_n1 {g : Nat → Nat} {len : Nat} {L : List (Nat × Nat)} {u p : Nat} (h : ¬ whyA g len L u p = 1) : phs L u = none := by
  unfold whyA at h
  split at h
  · exact absurd rfl h
  · rename_i h1
    cases hx : phs L u with
    | none => rfl
    | some v => rw [hx] at h1; exact absurd rfl h1
theorem why_y {g : Nat → Nat} {len : Nat} {L : List (Nat × Nat)} {u q : Nat} (h : phs L u = some q) (p : Nat) : whyA g len L u p = 1 := by
  unfold whyA
  rw [if_pos (by rw [h]; rfl)]
theorem atR_set {R : RRt} {i : Nat} (hi : i < R.length) (X : Nat × List (Nat × Nat)) : atR (R.set i X) i = X := by
  unfold atR
  rw [List.getD_eq_getElem?_getD, List.getElem?_set_self hi]
  rfl
theorem phs_app {L : List (Nat × Nat)} {u p : Nat} (h : phs L u = none) : phs (L ++ [(u, p)]) u = some p := by
  have h1 := phs_none.mp h
  unfold phs
  rw [List.find?_append, List.find?_eq_none.mpr (fun q hq => by simp [h1 q hq])]
  simp
theorem z01_1 : z01 (1 : Int32) = true := by decide
/-- a check of the law holds, and leaves a good state, with the same snapshot -/
def Gd (f : Option (Int32 × PH)) (x : Nat) (A : AAt) : Prop := ∃ h' A', f = some (1, h') ∧ repC h' x A' ∧ wfA A' ∧ A'.2.2 = A.2.2
section Law2
variable {h : PH} {x : Nat} {A : AAt}
set_option maxHeartbeats 2000000 in
theorem L_lays (W : wfA A) (H : repC h x A) {i u p : Nat} (hi : i < A.1.2.1.length) (hu : u < 8) (hp : p < A.1.1 u) : Gd (f_L_lays h x (nI i) (nI u) (nI p)) x A := by
  have hR := W.1.2.1
  have hg := W.1.1 u
  have WR := W.1.2.2 _ (atR_mem hi)
  have h60 := WR.1.2
  have wle := whyA_le A.1.1 (atR A.1.2.1 i).1 (atR A.1.2.1 i).2 u p
  have e1 := V_refusal W H hi hu hp
  have e2 := V_count4 W H
  have e3 := V_rope2 W H hi
  have e4 := V_gapOf W H hu
  by_cases hw : whyA A.1.1 (atR A.1.2.1 i).1 (atR A.1.2.1 i).2 u p = 0
  · obtain ⟨hn, hpl⟩ := why_0 hw
    obtain ⟨h', k1, k2, k3⟩ := K_lay W H hi hu hp hw
    have hi2 : i < (A.1.2.1.set i ((atR A.1.2.1 i).1, (atR A.1.2.1 i).2 ++ [(u, p)])).length := by rw [List.length_set]; exact hi
    have e5 := V_rope0 W H hi
    have e6 := V_rope1 W H hi
    have f1 := V_count4 k3 k2
    have f2 := V_rope2 k3 k2 hi2
    have f3 := V_hue0 k3 k2 hi2 hu
    have f4 := V_hue3 k3 k2 hi2 hu
    have at2 := atR_set hi ((atR A.1.2.1 i).1, (atR A.1.2.1 i).2 ++ [(u, p)])
    have WL := wf_lay W.1.1 WR hu hp hw
    have ph2 := phs_app (p := p) hn
    dsimp only at f1 f2 f3 f4
    rw [at2] at f2 f3 f4
    dsimp only at f2 f3 f4
    rw [hn_0 ph2] at f3
    rw [hn_3 ph2, ixo_of WL (k := (atR A.1.2.1 i).2.length) (u := u) (p := p) (by simp)] at f4
    have c1 : nI (whyA A.1.1 (atR A.1.2.1 i).1 (atR A.1.2.1 i).2 u p) ≤ 0 := by rw [hw]; decide
    have c2 : ¬ nI (A.1.1 u) = 0 := nI_ne0 (by omega) (by omega)
    have d1 := dueL hpl h60 (show 0 < A.1.1 u by omega) hg.2
    have t1 := hol_tak W.1.1 WR
    have t2 := hol_tak W.1.1 WL
    rw [takL_app] at t2
    simp only [takL] at t2
    have d2 : nI (holL A.1.1 (atR A.1.2.1 i).1 (atR A.1.2.1 i).2) - nI (stp9 (atR A.1.2.1 i).1 p (A.1.1 u)) = nI (holL A.1.1 (atR A.1.2.1 i).1 ((atR A.1.2.1 i).2 ++ [(u, p)])) := by
      rw [nI_sub (by omega)]
      congr 1
      omega
    refine ⟨h', _, ?_, k2, k3, rfl⟩
    simp only [f_L_lays, e1, e2, e3, e4, e5, e6, bs9, if_pos c1, if_pos c2, k1, d1, f1, f2, d2, f3, f4, oI, not_true_eq_false, if_false, f_L_lays_J199, z01_1, if_true]
  · have c1 : ¬ nI (whyA A.1.1 (atR A.1.2.1 i).1 (atR A.1.2.1 i).2 u p) ≤ 0 := nI_nle (by omega) (by omega)
    refine ⟨h, A, ?_, H, W, rfl⟩
    by_cases hw1 : whyA A.1.1 (atR A.1.2.1 i).1 (atR A.1.2.1 i).2 u p = 1
    · obtain ⟨q, hq⟩ := why_1 hw1
      have e5 := V_hue0 W H hi hu
      rw [hn_0 hq] at e5
      have hq2 := (WR.2.2.1 _ (phs_mem hq)).2.1
      have c2 : nI (whyA A.1.1 (atR A.1.2.1 i).1 (atR A.1.2.1 i).2 u p) = (1 : Int32) := by rw [hw1]; rfl
      have c3 : ¬ nI q < 0 := nI_pos (by omega)
      simp only [f_L_lays, e1, e2, e3, e4, bs9, if_neg (show ¬ (1 : Int32) ≤ 0 by decide), c2, not_true_eq_false, if_false, e5, if_neg c3, f_L_lays_J106, z01_1, if_true]
    · have hn := why_n1 hw1
      have c2 : ¬ nI (whyA A.1.1 (atR A.1.2.1 i).1 (atR A.1.2.1 i).2 u p) = (1 : Int32) := fun q => hw1 (nI_same (by omega) (by omega) q)
      by_cases hw2 : whyA A.1.1 (atR A.1.2.1 i).1 (atR A.1.2.1 i).2 u p = 2
      · have e5 := V_rope0 W H hi
        have c3 : nI (whyA A.1.1 (atR A.1.2.1 i).1 (atR A.1.2.1 i).2 u p) = (2 : Int32) := by rw [hw2]; rfl
        have c4 : ¬ nI p < nI (atR A.1.2.1 i).1 := nI_nlt (why_2 hw2) (by omega)
        simp only [f_L_lays, e1, e2, e3, e4, bs9, if_neg c1, if_pos c2, if_neg (show ¬ ¬ nI (whyA A.1.1 (atR A.1.2.1 i).1 (atR A.1.2.1 i).2 u p) = (2 : Int32) from fun q => q c3), e5, if_neg c4, f_L_lays_J106, z01_1, if_true]
      · have hw3 : whyA A.1.1 (atR A.1.2.1 i).1 (atR A.1.2.1 i).2 u p = 3 := by omega
        have e5 := V_hue0 W H hi hu
        rw [hn_no hn] at e5
        have c3 : ¬ nI (whyA A.1.1 (atR A.1.2.1 i).1 (atR A.1.2.1 i).2 u p) = (2 : Int32) := fun q => hw2 (nI_same (by omega) (by omega) q)
        have c4 : ¬ ¬ nI (whyA A.1.1 (atR A.1.2.1 i).1 (atR A.1.2.1 i).2 u p) = (3 : Int32) := by rw [hw3]; exact fun q => q rfl
        simp only [f_L_lays, e1, e2, e3, e4, bs9, if_neg c1, if_pos c2, if_pos c3, if_neg c4, e5, not_true_eq_false, if_false, f_L_lays_J106, z01_1, if_true]
theorem L_stretches (W : wfA A) (H : repC h x A) {i n : Nat} (hi : i < A.1.2.1.length) (h1 : 1 ≤ n) (h2 : n ≤ 60) (hc : n ≤ clashA A.1.1 (atR A.1.2.1 i).2) : Gd (f_L_stretches h x (nI i) (nI n)) x A := by
  have hR := W.1.2.1
  have WR := W.1.2.2 _ (atR_mem hi)
  have e1 := V_rope1 W H hi
  obtain ⟨h', k1, k2, k3⟩ := K_stretch W H hi h1 h2 hc
  have hi2 : i < (A.1.2.1.set i (n, fltA n (atR A.1.2.1 i).2)).length := by rw [List.length_set]; exact hi
  have f1 := V_rope0 k3 k2 hi2
  have f2 := V_rope1 k3 k2 hi2
  have at2 := atR_set hi (n, fltA n (atR A.1.2.1 i).2)
  dsimp only at f1 f2
  rw [at2] at f1 f2
  dsimp only at f1 f2
  have l1 : (fltA n (atR A.1.2.1 i).2).length ≤ (atR A.1.2.1 i).2.length := List.length_filter_le _ _
  have d1 : nI (atR A.1.2.1 i).2.length - nI ((atR A.1.2.1 i).2.length - (fltA n (atR A.1.2.1 i).2).length) = nI (fltA n (atR A.1.2.1 i).2).length := by
    rw [nI_sub (by omega)]
    congr 1
    omega
  refine ⟨h', _, ?_, k2, k3, rfl⟩
  simp only [f_L_stretches, e1, bs9, k1, f1, f2, d1, not_true_eq_false, if_false, f_L_stretches_J43, z01_1, if_true]
end Law2
