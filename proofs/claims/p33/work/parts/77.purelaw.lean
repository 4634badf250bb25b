/-! THE LAW, 8: hues that meet; all that is told; the turns -/
theorem cmb_sym (g p g2 p2 k : Nat) : cmb g2 p2 g p k = cmb g p g2 p2 k := by
  unfold cmb
  rw [decide_eq_decide]
  exact And.comm
theorem meet_sym (g p g2 p2 : Nat) : meetA g2 p2 g p = meetA g p g2 p2 := fst9_congr (fun k _ _ => cmb_sym g p g2 p2 k)
section Law8
variable {h : PH} {x : Nat} {A : AAt}
set_option maxHeartbeats 2000000 in
theorem L_meets (W : wfA A) (H : repC h x A) (a : Int32) : f_L_meets h x a = some 1 := by
  obtain ⟨u, hu, u2⟩ := low_n (h := h) (a := a) (m := (8 : Int32)) (n := 8) rfl (by omega) (by omega)
  obtain ⟨v, hv, v2⟩ := low_n (h := h) (a := a >>> ((3 : Int32) &&& 31)) (m := (8 : Int32)) (n := 8) rfl (by omega) (by omega)
  have hgu := W.1.1 u
  have hgv := W.1.1 v
  obtain ⟨p, hp, p2⟩ := low_n (h := h) (a := a >>> ((6 : Int32) &&& 31)) (m := nI (A.1.1 u)) rfl (by omega) (by omega)
  obtain ⟨q, hq, q2⟩ := low_n (h := h) (a := a >>> ((11 : Int32) &&& 31)) (m := nI (A.1.1 v)) rfl (by omega) (by omega)
  have e1 := V_gapOf W H hu
  have e2 := V_gapOf W H hv
  have e3 := V_meet W H hu hv hp hq
  have e4 := (V_meet W H hv hu hq hp).1
  rw [meet_sym] at e4
  obtain ⟨g, hg⟩ : ∃ g, g = A.1.1 u := ⟨_, rfl⟩
  obtain ⟨g2, hg2⟩ : ∃ g, g = A.1.1 v := ⟨_, rfl⟩
  rw [← hg] at e1 hgu hp p2 e3 e4
  rw [← hg2] at e2 hgv hq q2 e3 e4
  obtain ⟨C, hC⟩ : ∃ C, C = cmb g p g2 q := ⟨_, rfl⟩
  have c1 : ¬ nI g = 0 := nI_ne0 (by omega) (by omega)
  have c2 : ¬ nI g2 = 0 := nI_ne0 (by omega) (by omega)
  have hb : ∀ m, 0 ≤ m → m < 0 + 800 → f_L_meets_L64 h x (nI u) (nI v) (nI p) (nI q) (oI (meetA g p g2 q)) ((fun m => (oI (fst9 C (800 - m) m), nI (800 - m) - 1)) m) = some (.inl ((fun m => (oI (fst9 C (800 - m) m), nI (800 - m) - 1)) (m + 1))) := by
    intro m _ hm
    obtain ⟨k, hk⟩ : ∃ k, 800 - m = k + 1 := ⟨800 - m - 1, by omega⟩
    have hk2 : 800 - (m + 1) = k := by omega
    have d1 : nI (k + 1) - (1 : Int32) = nI k := nI_pred k
    have d2 : nI k + (-1) = nI k - (1 : Int32) := (Int32.sub_eq_add_neg (nI k) 1).symm
    have b1 : ¬ nI k < 0 := nI_pos (by omega)
    have no : C k = false → fst9 C k (m + 1) = fst9 C (k + 1) m := fun hc => by
      simp only [fst9, hc, Bool.false_eq_true, if_false]
    have cd : C k = decide ((p ≤ k ∧ (k - p) % g = 0) ∧ q ≤ k ∧ (k - q) % g2 = 0) := by rw [hC]; rfl
    by_cases hpk : k < p
    · have b2 : nI k < nI p := nI_lt hpk (by omega)
      have hc := no (by rw [cd]; exact decide_eq_false (by omega))
      simp only [f_L_meets_L64, hk, hk2, d1, if_neg b1, if_pos b2, f_L_meets_J116, f_L_meets_J118, d2, hc]
    · have b2 : ¬ nI k < nI p := nI_nlt (by omega) (by omega)
      by_cases hqk : k < q
      · have b3 : nI k < nI q := nI_lt hqk (by omega)
        have hc := no (by rw [cd]; exact decide_eq_false (by omega))
        simp only [f_L_meets_L64, hk, hk2, d1, if_neg b1, if_neg b2, if_pos b3, f_L_meets_J116, f_L_meets_J118, d2, hc]
      · have b3 : ¬ nI k < nI q := nI_nlt (by omega) (by omega)
        have s1 : nI k - nI p = nI (k - p) := nI_sub (by omega)
        have s2 : nI k - nI q = nI (k - q) := nI_sub (by omega)
        have r1 : nI (k - p) - nI (k - p) / nI g * nI g = nI ((k - p) % g) := nI_rem (by omega) (by omega) (by omega)
        have r2 : nI (k - q) - nI (k - q) / nI g2 * nI g2 = nI ((k - q) % g2) := nI_rem (by omega) (by omega) (by omega)
        have m1 := Nat.mod_lt (k - p) (show 0 < g by omega)
        have m2 := Nat.mod_lt (k - q) (show 0 < g2 by omega)
        by_cases z1 : (k - p) % g = 0
        · have t1 : ¬ ¬ nI ((k - p) % g) = 0 := by rw [z1]; exact fun w => w rfl
          by_cases z2 : (k - q) % g2 = 0
          · have t2 : ¬ ¬ nI ((k - q) % g2) = 0 := by rw [z2]; exact fun w => w rfl
            have hc : fst9 C k (m + 1) = some k := by
              have : C k = true := by rw [cd]; exact decide_eq_true ⟨⟨by omega, z1⟩, by omega, z2⟩
              simp only [fst9, this, if_true]
            simp only [f_L_meets_L64, hk, hk2, d1, if_neg b1, if_neg b2, if_neg b3, e1, e2, bs9, if_pos c1, if_pos c2, s1, s2, r1, r2, if_neg t1, if_neg t2, f_L_meets_J118, d2, hc, oI]
          · have t2 : ¬ nI ((k - q) % g2) = 0 := nI_ne0 (by omega) (by omega)
            have hc := no (by rw [cd]; exact decide_eq_false (fun w => z2 w.2.2))
            simp only [f_L_meets_L64, hk, hk2, d1, if_neg b1, if_neg b2, if_neg b3, e1, e2, bs9, if_pos c1, if_pos c2, s1, s2, r1, r2, if_neg t1, if_pos t2, f_L_meets_J116, f_L_meets_J118, d2, hc]
        · have t1 : ¬ nI ((k - p) % g) = 0 := nI_ne0 (by omega) (by omega)
          have hc := no (by rw [cd]; exact decide_eq_false (fun w => z1 w.1.2))
          simp only [f_L_meets_L64, hk, hk2, d1, if_neg b1, if_neg b2, if_neg b3, e1, bs9, if_pos c1, s1, r1, if_pos t1, f_L_meets_J116, f_L_meets_J118, d2, hc]
  have he : f_L_meets_L64 h x (nI u) (nI v) (nI p) (nI q) (oI (meetA g p g2 q)) ((fun m => (oI (fst9 C (800 - m) m), nI (800 - m) - 1)) (0 + 800)) = some (.inr (oI (fst9 C 0 800))) := by
    have b1 : nI 0 - (1 : Int32) < 0 := by decide
    simp only [Nat.zero_add, Nat.sub_self, f_L_meets_L64, if_pos b1]
  have hw := lpn_run (fun m => (oI (fst9 C (800 - m) m), nI (800 - m) - 1)) _ 800 0 LF hb he (by unfold LF; omega)
  have s0 : (oI (fst9 C (800 - 0) 0), nI (800 - 0) - 1) = (((-1) : Int32), (799 : Int32)) := by
    show (oI (fst9 C 800 0), nI 800 - (1 : Int32)) = _
    have w1 : nI 800 - (1 : Int32) = (799 : Int32) := by decide
    rw [w1]
    rfl
  rw [s0, hC] at hw
  have hw : lpn (f_L_meets_L64 h x (nI u) (nI v) (nI p) (nI q) (oI (meetA g p g2 q))) LF (((-1) : Int32), (799 : Int32)) = some (oI (meetA g p g2 q)) := hw
  simp only [f_L_meets, u2, v2, p2, q2, e1, e2, bs9, e3.1, hw, f_L_meets_J126, not_true_eq_false, if_false, e3.2, e4, f_L_meets_J168, z01_1, if_true]
theorem L_holds (W : wfA A) (H : repC h x A) : ∃ h', f_L_holds h x = some (1, h') ∧ repC h' x A := by
  have hR := W.1.2.1
  have one0 : ¬ (1 : Int32) = 0 := by decide
  have hw : ∃ z : Int32 × Int32 × Int32 × PH, lpn (f_L_holds_L9 x) LF ((0 : Int32), (0 : Int32), (1 : Int32), (0 : Int32), h) = some z ∧ z.1 = nI (sum9 (lenAt A.1.2.1) A.1.2.1.length) ∧ z.2.1 = nI (sum9 (holA A.1.1 A.1.2.1) A.1.2.1.length) ∧ z.2.2.1 = 1 ∧ repC z.2.2.2 x A := by
    refine lpn_inv (fun j y => y.1 = nI (sum9 (lenAt A.1.2.1) j) ∧ y.2.1 = nI (sum9 (holA A.1.1 A.1.2.1) j) ∧ y.2.2.1 = 1 ∧ y.2.2.2.1 = nI j ∧ repC y.2.2.2.2 x A) (fun z : Int32 × Int32 × Int32 × PH => z.1 = nI (sum9 (lenAt A.1.2.1) A.1.2.1.length) ∧ z.2.1 = nI (sum9 (holA A.1.1 A.1.2.1) A.1.2.1.length) ∧ z.2.2.1 = 1 ∧ repC z.2.2.2 x A) A.1.2.1.length ?_ ?_ A.1.2.1.length 0 LF _ (by omega) (by unfold LF; omega) ⟨rfl, rfl, rfl, rfl, H⟩
    · rintro j ⟨y1, y2, y3, y4, hh⟩ hj ⟨i1, i2, i3, i4, i5⟩
      dsimp only at i1 i2 i3 i4 i5
      subst i1 i2 i3 i4
      have e0 := V_count0 W i5
      have b1 : ¬ nI A.1.2.1.length ≤ nI j := nI_ge hj (by omega)
      obtain ⟨h', k1, k2⟩ := L_isRope W i5 hj
      have e1 := V_rope0 W k2 hj
      have e2 := V_rope2 W k2 hj
      have s1 : sum9 (lenAt A.1.2.1) (j + 1) = sum9 (lenAt A.1.2.1) j + (atR A.1.2.1 j).1 := by
        show sum9 (lenAt A.1.2.1) j + lenAt A.1.2.1 j = _
        unfold lenAt
        rw [atR_get hj]
      have s2 : sum9 (holA A.1.1 A.1.2.1) (j + 1) = sum9 (holA A.1.1 A.1.2.1) j + holL A.1.1 (atR A.1.2.1 j).1 (atR A.1.2.1 j).2 := by
        show sum9 (holA A.1.1 A.1.2.1) j + holA A.1.1 A.1.2.1 j = _
        unfold holA
        rw [atR_get hj]
        rfl
      refine ⟨(nI (sum9 (lenAt A.1.2.1) (j + 1)), nI (sum9 (holA A.1.1 A.1.2.1) (j + 1)), 1, nI (j + 1), h'), ?_, rfl, rfl, rfl, rfl, k2⟩
      simp only [f_L_holds_L9, e0, bs9, if_neg b1, if_neg one0, k1, e1, e2, nI_add, nI_1, s1, s2]
    · rintro ⟨y1, y2, y3, y4, hh⟩ ⟨i1, i2, i3, i4, i5⟩
      dsimp only at i1 i2 i3 i4 i5
      subst i1 i2 i3 i4
      have e0 := V_count0 W i5
      have b1 : nI A.1.2.1.length ≤ nI A.1.2.1.length := nI_le (Nat.le_refl _) (by omega)
      refine ⟨(nI (sum9 (lenAt A.1.2.1) A.1.2.1.length), nI (sum9 (holA A.1.1 A.1.2.1) A.1.2.1.length), 1, hh), ?_, rfl, rfl, rfl, i5⟩
      simp only [f_L_holds_L9, e0, bs9, if_pos b1]
  obtain ⟨⟨z1, z2, z3, h'⟩, w1, w2, w3, w4, w5⟩ := hw
  dsimp only at w2 w3 w4 w5
  subst w2 w3 w4
  have e1 := V_count1 W w5
  have e2 := V_count2 W w5
  have e3 := C_fullness W w5
  obtain ⟨n1, n2⟩ := shrA_num W
  have b2 : ¬ ¬ Op.cmpValue (FP.dcmp (shrA A) (shrA A)) .l = 0 := fun q => q n2
  have l1 := lenAt_le W.1
  have l2 := hol_le (g := A.1.1) (R := A.1.2.1)
  refine ⟨h', ?_, w5⟩
  by_cases h0 : sum9 (lenAt A.1.2.1) A.1.2.1.length = 0
  · have b1 : ¬ ¬ nI (sum9 (lenAt A.1.2.1) A.1.2.1.length) = 0 := by rw [h0]; exact fun q => q rfl
    have es : shrA A = FP.dconst1 := if_pos h0
    rw [es] at b2 e3
    simp only [f_L_holds, w1, bs9, f_L_holds_J56, if_neg one0, e1, e2, not_true_eq_false, if_false, e3, if_neg b1, f_L_holds_J97, if_neg b2, f_L_holds_J106, z01_1, if_true]
  · have b1 : ¬ nI (sum9 (lenAt A.1.2.1) A.1.2.1.length) = 0 := nI_ne0 (by omega) (by omega)
    have es : FP.ddiv (FP.i2d (nI (sum9 (lenAt A.1.2.1) A.1.2.1.length) - nI (sum9 (holA A.1.1 A.1.2.1) A.1.2.1.length))) (FP.i2d (nI (sum9 (lenAt A.1.2.1) A.1.2.1.length))) = shrA A := by
      rw [nI_sub l2]
      exact (if_neg h0).symm
    simp only [f_L_holds, w1, bs9, f_L_holds_J56, if_neg one0, e1, e2, not_true_eq_false, if_false, e3, if_pos b1, es, if_pos n1, f_L_holds_J97, if_neg b2, f_L_holds_J106, z01_1, if_true]
theorem L_cell {xs : Nat → Int32} {lL k : Nat} (hL : lL ≤ 260) (hk : k < lL) : f_L_cell xs lL (nI k) = some (xs k) := by
  have b1 : ¬ Int32.ofNat lL ≤ nI k := nI_ge hk (by omega)
  have b2 : ¬ (nI k < 0 ∨ lL ≤ k) := fun q => q.elim (nI_pos (by omega)) (by omega)
  have b3 : (nI k).toNatClampNeg = k := nI_clamp (by omega)
  simp only [f_L_cell, if_neg b1, b3, if_pos b2, f_L_cell_J20]
theorem wf_keep (W : wfA A) : wfA (A.1, A.2.1, some A.1, A.2.2.2) := ⟨W.1, W.2.1, W.2.2.1, fun T hT => (by cases hT; exact W.1), W.2.2.2.2⟩
set_option maxHeartbeats 2000000 in
theorem L_turn {xs : Nat → Int32} {lL t j : Nat} (hL : lL ≤ 260) (ht : 2 * t ≤ lL) (hj : j < t) (W : wfA A) (H : repC h x A) : ∃ h' A', f_L_law_L52 xs lL x (nI t) (1, nI j, h) = some (.inl (1, nI (j + 1), h')) ∧ repC h' x A' ∧ wfA A' := by
  have one0 : ¬ (1 : Int32) = 0 := by decide
  have b1 : ¬ nI t ≤ nI j := nI_ge hj (by omega)
  have e0 := V_count0 W H
  have e2 := V_count2 W H
  obtain ⟨h1, k1, k2, -⟩ := C_keep W H
  have t1 : (2 : Int32) * nI j = nI (2 * j) := nI_mul 2 j
  have t2 : nI (2 * j) + (1 : Int32) = nI (2 * j + 1) := nI_1 _
  have c1 := L_cell (xs := xs) hL (show 2 * j < lL by omega)
  have c2 := L_cell (xs := xs) hL (show 2 * j + 1 < lL by omega)
  obtain ⟨h2, A2, g1, g2, W2, g4⟩ := L_change (wf_keep W) k2 (xs (2 * j)) (xs (2 * j + 1))
  obtain ⟨h3, m1, m2⟩ := L_holds W2 g2
  have m3 := L_meets W2 m2 (xs (2 * j + 1))
  have six0 : ¬ (6 : Int32) = 0 := by decide
  have r6 : nI j - nI j / (6 : Int32) * (6 : Int32) = nI (j % 6) := nI_rem (b := 6) (by omega) (by omega) (by omega)
  by_cases h5 : j % 6 = 5
  · have b5 : ¬ ¬ nI (j % 6) = (5 : Int32) := by rw [h5]; exact fun q => q rfl
    have f1 := V_count2 W2 m2
    have hT : A2.2.2.1 = some A.1 := by rw [g4]
    obtain ⟨h4, q1, q2, q3⟩ := K_restore W2 m2 hT
    have f2 := V_count2 q3 q2
    have f2 : okL9 (f_X5_count h4 x (2 : Int32)) = some (nI (sum9 (holA A.1.1 A.1.2.1) A.1.2.1.length)) := f2
    obtain ⟨h6, s1, s2, s3⟩ := K_undo q3 q2 (T := A2.1) (sv_last A2)
    have f3 := V_count2 s3 s2
    have f3 : okL9 (f_X5_count h6 x (2 : Int32)) = some (nI (sum9 (holA A2.1.1 A2.1.2.1) A2.1.2.1.length)) := f3
    dsimp only at s1
    have b6 : ¬ nI ((svA A2).2.1.length - 1) < 0 := nI_pos (by have := q3.2.2.1; have : (svA A2).2.1.length ≤ 6 := this; omega)
    refine ⟨h6, _, ?_, s2, s3⟩
    simp only [f_L_law_L52, if_neg b1, if_neg one0, e0, e2, bs9, k1, not_true_eq_false, if_false, t1, t2, c1, c2, g1, m1, m3, f_L_law_J139, if_pos six0, r6, if_neg b5, f1, q1, f2, s1, if_neg b6, f3, f_L_law_J201, f_L_law_J202, nI_1]
  · have b5 : ¬ nI (j % 6) = (5 : Int32) := fun q => h5 (nI_same (a := j % 6) (b := 5) (by omega) (by omega) q)
    refine ⟨h3, A2, ?_, m2, W2⟩
    simp only [f_L_law_L52, if_neg b1, if_neg one0, e0, e2, bs9, k1, not_true_eq_false, if_false, t1, t2, c1, c2, g1, m1, m3, f_L_law_J139, if_pos six0, r6, if_pos b5, f_L_law_J202, nI_1]
theorem L_turns_all {xs : Nat → Int32} {lL t : Nat} (hL : lL ≤ 260) (ht : 2 * t ≤ lL) (ht2 : t ≤ 36) (W : wfA A) (H : repC h x A) : f_L_law_J48 xs lL h x (1 : Int32) (nI t) = some 1 := by
  have one0 : ¬ (1 : Int32) = 0 := by decide
  have hw : ∃ z : Int32 × PH, lpn (f_L_law_L52 xs lL x (nI t)) 40 ((1 : Int32), (0 : Int32), h) = some z ∧ z.1 = 1 := by
    refine lpn_inv (fun j y => y.1 = 1 ∧ y.2.1 = nI j ∧ ∃ A', repC y.2.2 x A' ∧ wfA A') (fun z : Int32 × PH => z.1 = 1) t ?_ ?_ t 0 40 _ (by omega) (by omega) ⟨rfl, rfl, A, H, W⟩
    · rintro j ⟨y1, y2, hh⟩ hj ⟨i1, i2, A', i3, i4⟩
      dsimp only at i1 i2 i3
      subst i1 i2
      obtain ⟨h', A'', k1, k2, k3⟩ := L_turn (xs := xs) hL ht hj i4 i3
      exact ⟨(1, nI (j + 1), h'), k1, rfl, rfl, A'', k2, k3⟩
    · rintro ⟨y1, y2, hh⟩ ⟨i1, i2, A', i3, i4⟩
      dsimp only at i1 i2 i3
      subst i1 i2
      have b1 : nI t ≤ nI t := nI_le (Nat.le_refl _) (by omega)
      exact ⟨(1, hh), by simp only [f_L_law_L52, if_pos b1], rfl⟩
  obtain ⟨⟨z1, hh⟩, w1, w2⟩ := hw
  dsimp only at w2
  subst w2
  simp only [f_L_law_J48, w1, bs9, f_L_law_J208]
theorem L_law {xs : Nat → Int32} {lL : Nat} (hL : lL ≤ 260) (W : wfA A) (H : repC h x A) (h7 : A.2.1.length = 0) : f_L_law xs lL h x = some 1 := by
  have one0 : ¬ (1 : Int32) = 0 := by decide
  have two0 : ¬ (2 : Int32) = 0 := by decide
  obtain ⟨h', k1, k2⟩ := L_holds W H
  have e7 := V_count7 W k2
  rw [h7] at e7
  have e7 : okL9 (f_X5_count h' x (7 : Int32)) = some 0 := e7
  have d1 : Int32.ofNat lL / (2 : Int32) = nI (lL / 2) := pk_div (a := lL) (d := 2) (by omega) (by omega) (by omega)
  by_cases h36 : lL / 2 ≤ 36
  · have b1 : nI (lL / 2) ≤ (36 : Int32) := nI_le (b := 36) h36 (by omega)
    have hf := L_turns_all (xs := xs) hL (t := lL / 2) (by omega) h36 W k2
    simp only [f_L_law, k1, bs9, if_neg one0, e7, not_true_eq_false, if_false, f_L_law_J29, if_pos two0, d1, if_pos b1, hf]
  · have b1 : ¬ nI (lL / 2) ≤ (36 : Int32) := nI_ge (a := 36) (by omega) (by omega)
    have hf : f_L_law_J48 xs lL h' x (1 : Int32) (36 : Int32) = some 1 := L_turns_all (xs := xs) hL (t := 36) (by omega) (by omega) W k2
    simp only [f_L_law, k1, bs9, if_neg one0, e7, not_true_eq_false, if_false, f_L_law_J29, if_pos two0, d1, if_neg b1, hf]
end Law8
