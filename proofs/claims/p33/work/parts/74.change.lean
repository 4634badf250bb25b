/-! THE LAW, 5: one change -/
theorem holL_nil {g : Nat → Nat} (n : Nat) : holL g n [] = n := by
  unfold holL
  induction n with
  | zero => rfl
  | succ n ih =>
    simp only [cnt9]
    rw [ih, if_pos (decide_eq_true (show col g [] n = none from rfl))]
def anyN (P : Nat → Bool) : Nat → Bool
  | 0 => false
  | k + 1 => anyN P k || P k
theorem anyN_iff {P : Nat → Bool} : ∀ n, anyN P n = true ↔ ∃ j, j < n ∧ P j = true := by
  intro n
  induction n with
  | zero => exact ⟨fun h => (by cases h), fun ⟨j, hj, _⟩ => (by omega)⟩
  | succ n ih =>
    show (anyN P n || P n) = true ↔ _
    rw [Bool.or_eq_true, ih]
    constructor
    · rintro (⟨j, h1, h2⟩ | h)
      · exact ⟨j, by omega, h2⟩
      · exact ⟨n, by omega, h⟩
    · rintro ⟨j, h1, h2⟩
      by_cases e : j = n
      · rw [e] at h2; exact Or.inr h2
      · exact Or.inl ⟨j, by omega, h2⟩
theorem anyN_fst {P : Nat → Bool} (n : Nat) : anyN P n = (fst9 P 0 n).isSome := by
  cases h : fst9 P 0 n with
  | none =>
    show _ = false
    cases h2 : anyN P n with
    | false => rfl
    | true =>
      obtain ⟨j, h3, h4⟩ := (anyN_iff n).mp h2
      rw [fst9_none h j (Nat.zero_le _) (by omega)] at h4
      cases h4
  | some k =>
    obtain ⟨k1, k2, k3, -⟩ := fst9_some h
    exact (anyN_iff n).mpr ⟨k, by omega, k3⟩
def f_L_change_J16' (h : PH) (x0 : Nat) (x1 : Int32) (x2 : Int32) (x3 : Int32) (v22 : Int32) (v23 : Int32) : Option (Int32 × PH) :=
  ((f_L_low h (x1) ((16 : Int32))).bind fun v24 => (if v24 = 0 then (if x3 = (4 : Int32) then (f_L_change_J171 h ) else ((f_L_low h (x2) ((60 : Int32))).bind fun v25 => ((okW (f_X5_rope h (x0) (((1 : Int32) + v25)))).bind fun q26 => (if ¬ q26.1 = x3 then (f_L_change_J175 q26.2 ) else ((okL9 (f_X5_ropeOf q26.2 (x0) (x3) ((0 : Int32)))).bind fun q27 => ((f_L_low q26.2 (x2) ((60 : Int32))).bind fun v28 => (if ¬ q27 = ((1 : Int32) + v28) then (f_L_change_J175 q26.2 ) else ((okL9 (f_X5_ropeOf q26.2 (x0) (x3) ((2 : Int32)))).bind fun q29 => ((f_L_low q26.2 (x2) ((60 : Int32))).bind fun v30 => (if ¬ q29 = ((1 : Int32) + v30) then (f_L_change_J175 q26.2 ) else (f_L_change_J171 q26.2 ))))))))))) else (if v24 = 1 then (if x3 = (4 : Int32) then (f_L_change_J171 h ) else ((f_L_low h (x2) ((60 : Int32))).bind fun v31 => ((okW (f_X5_rope h (x0) (((1 : Int32) + v31)))).bind fun q32 => (if ¬ q32.1 = x3 then (f_L_change_J175 q32.2 ) else ((okL9 (f_X5_ropeOf q32.2 (x0) (x3) ((0 : Int32)))).bind fun q33 => ((f_L_low q32.2 (x2) ((60 : Int32))).bind fun v34 => (if ¬ q33 = ((1 : Int32) + v34) then (f_L_change_J175 q32.2 ) else ((okL9 (f_X5_ropeOf q32.2 (x0) (x3) ((2 : Int32)))).bind fun q35 => ((f_L_low q32.2 (x2) ((60 : Int32))).bind fun v36 => (if ¬ q35 = ((1 : Int32) + v36) then (f_L_change_J175 q32.2 ) else (f_L_change_J171 q32.2 ))))))))))) else (if v24 = 2 then (if x3 = 0 then (f_L_change_J204 h ) else ((okL9 (f_X5_gapOf h (x0) (v23))).bind fun q37 => ((f_L_low h ((x2 >>> ((5 : Int32) &&& 31))) (q37)).bind fun v38 => ((f_L_lays h (x0) (v22) (v23) (v38)).bind fun q39 => (if q39.1 = 0 then (f_L_change_J209 q39.2 ((0 : Int32))) else (f_L_change_J204 q39.2 )))))) else (if v24 = 3 then (if x3 = 0 then (f_L_change_J204 h ) else ((okL9 (f_X5_gapOf h (x0) (v23))).bind fun q40 => ((f_L_low h ((x2 >>> ((5 : Int32) &&& 31))) (q40)).bind fun v41 => ((f_L_lays h (x0) (v22) (v23) (v41)).bind fun q42 => (if q42.1 = 0 then (f_L_change_J209 q42.2 ((0 : Int32))) else (f_L_change_J204 q42.2 )))))) else (if v24 = 4 then (if x3 = 0 then (f_L_change_J204 h ) else ((okL9 (f_X5_gapOf h (x0) (v23))).bind fun q43 => ((f_L_low h ((x2 >>> ((5 : Int32) &&& 31))) (q43)).bind fun v44 => ((f_L_lays h (x0) (v22) (v23) (v44)).bind fun q45 => (if q45.1 = 0 then (f_L_change_J209 q45.2 ((0 : Int32))) else (f_L_change_J204 q45.2 )))))) else (if v24 = 5 then (if x3 = 0 then (f_L_change_J204 h ) else ((okL9 (f_X5_gapOf h (x0) (v23))).bind fun q46 => ((f_L_low h ((x2 >>> ((5 : Int32) &&& 31))) (q46)).bind fun v47 => ((f_L_lays h (x0) (v22) (v23) (v47)).bind fun q48 => (if q48.1 = 0 then (f_L_change_J209 q48.2 ((0 : Int32))) else (f_L_change_J204 q48.2 )))))) else (if v24 = 6 then (if x3 = 0 then (f_L_change_J204 h ) else ((okL9 (f_X5_gapOf h (x0) (v23))).bind fun q49 => ((f_L_low h ((x2 >>> ((5 : Int32) &&& 31))) (q49)).bind fun v50 => ((f_L_lays h (x0) (v22) (v23) (v50)).bind fun q51 => (if q51.1 = 0 then (f_L_change_J209 q51.2 ((0 : Int32))) else (f_L_change_J204 q51.2 )))))) else (if v24 = 7 then (if x3 = 0 then (f_L_change_J204 h ) else ((okL9 (f_X5_gapOf h (x0) (v23))).bind fun q52 => ((f_L_low h ((x2 >>> ((5 : Int32) &&& 31))) (q52)).bind fun v53 => ((f_L_lays h (x0) (v22) (v23) (v53)).bind fun q54 => (if q54.1 = 0 then (f_L_change_J209 q54.2 ((0 : Int32))) else (f_L_change_J204 q54.2 )))))) else (if v24 = 8 then (if ¬ x3 = 0 then ((okL9 (f_X5_hueOf h (x0) (v22) (v23) ((1 : Int32)))).bind fun q55 => (f_L_change_J227 h (x0) (v22) (v23) (q55))) else (f_L_change_J227 h (x0) (v22) (v23) (((-1) : Int32)))) else (if v24 = 9 then ((lpn (f_L_change_L272 (h) (x0) (x2) (x3) (v23)) LF ((0 : Int32), (0 : Int32))).bind (fun w272 => (f_L_change_J308 h (x0) (x2) (v23) (w272)))) else (if v24 = 10 then (if x3 = 0 then (f_L_change_J394 h ) else ((okL9 (f_X5_greatest h (x0) (v22))).bind fun q58 => ((f_L_low h ((x2 >>> ((3 : Int32) &&& 31))) (q58)).bind fun v59 => ((f_L_stretches h (x0) (v22) (((1 : Int32) + v59))).bind fun q60 => (if q60.1 = 0 then (f_L_change_J399 q60.2 ((0 : Int32))) else (f_L_change_J394 q60.2 )))))) else (if v24 = 11 then (if x3 = 0 then (f_L_change_J446 h ) else (if x3 = (4 : Int32) then (f_L_change_J446 h ) else ((okL9 (f_X5_ropeOf h (x0) (v22) ((0 : Int32)))).bind fun q61 => (if q61 = (1 : Int32) then (f_L_change_J446 h ) else ((okL9 (f_X5_ropeOf h (x0) (v22) ((0 : Int32)))).bind fun q62 => ((f_L_low h ((x2 >>> ((3 : Int32) &&& 31))) ((q62 - (1 : Int32)))).bind fun v63 => ((f_L_cuts h (x0) (v22) (((1 : Int32) + v63))).bind fun q64 => (if q64.1 = 0 then (f_L_change_J451 q64.2 ((0 : Int32))) else (f_L_change_J446 q64.2 ))))))))) else (if v24 = 12 then (if x3 = 0 then (f_L_change_J465 h ) else ((f_L_turns h (x0) (v22)).bind fun q65 => (if q65.1 = 0 then (f_L_change_J470 q65.2 ((0 : Int32))) else (f_L_change_J465 q65.2 )))) else (if v24 = 13 then (if ¬ x3 = 0 then ((f_L_low h ((x2 >>> ((2 : Int32) &&& 31))) (x3)).bind fun v66 => (f_L_change_J486 h (x0) (x3) (v22) (v66))) else (f_L_change_J486 h (x0) (x3) (v22) ((0 : Int32)))) else (if v24 = 14 then (if ¬ x3 = 0 then ((f_L_low h ((x2 >>> ((2 : Int32) &&& 31))) (x3)).bind fun v67 => (f_L_change_J486 h (x0) (x3) (v22) (v67))) else (f_L_change_J486 h (x0) (x3) (v22) ((0 : Int32)))) else (if x3 = 0 then (f_L_change_J580 h ) else (if ¬ (x2 &&& (3 : Int32)) = 0 then (f_L_change_J580 h ) else ((okW (f_X5_drop h (x0) (v22))).bind fun q68 => (if ¬ q68.1 = (x3 - (1 : Int32)) then (f_L_change_J585 q68.2 ((0 : Int32))) else (f_L_change_J580 q68.2 )))))))))))))))))))))
section Law5
variable {h : PH} {x : Nat} {A : AAt}
theorem Gd_t (W : wfA A) (H : repC h x A) : Gd (some (1, h)) x A := ⟨h, A, rfl, H, W, rfl⟩
theorem low_n {h : PH} {a : Int32} {n : Nat} {m : Int32} (hm : m = nI n) (h0 : 0 < n) (hn : n < 2 ^ 31) : ∃ v, v < n ∧ ∀ h : PH, f_L_low h a m = some (nI v) := by
  subst hm
  exact ⟨lowN a n, (L_low (h := h) h0 hn).2, fun h2 => (L_low (h := h2) h0 hn).1⟩
theorem ch_0 {n i u : Nat} {a2 : Int32} (W : wfA A) (H : repC h x A) (hn : A.1.2.1.length = n) (hi : ¬ n = 0 → i < n) (hu : u < 8) : Gd (if (nI n) = (4 : Int32) then (f_L_change_J171 h ) else ((f_L_low h (a2) ((60 : Int32))).bind fun v25 => ((okW (f_X5_rope h (x) (((1 : Int32) + v25)))).bind fun q26 => (if ¬ q26.1 = nI n then (f_L_change_J175 q26.2 ) else ((okL9 (f_X5_ropeOf q26.2 (x) (nI n) ((0 : Int32)))).bind fun q27 => ((f_L_low q26.2 (a2) ((60 : Int32))).bind fun v28 => (if ¬ q27 = ((1 : Int32) + v28) then (f_L_change_J175 q26.2 ) else ((okL9 (f_X5_ropeOf q26.2 (x) (nI n) ((2 : Int32)))).bind fun q29 => ((f_L_low q26.2 (a2) ((60 : Int32))).bind fun v30 => (if ¬ q29 = ((1 : Int32) + v30) then (f_L_change_J175 q26.2 ) else (f_L_change_J171 q26.2 ))))))))))) x A := by
  have hR := W.1.2.1
  by_cases h4 : n = 4
  · have c1 : nI n = (4 : Int32) := by rw [h4]; rfl
    rw [if_pos c1]
    simp only [f_L_change_J171, f_L_change_J176, z01_1, if_true]
    exact Gd_t W H
  · have c1 : ¬ nI n = (4 : Int32) := fun q => h4 (nI_same (a := n) (b := 4) (by omega) (by omega) q)
    obtain ⟨v, v1, v2⟩ := low_n (h := h) (a := a2) (m := (60 : Int32)) (n := 60) rfl (by omega) (by omega)
    have d1 : (1 : Int32) + nI v = nI (1 + v) := nI_add 1 v
    obtain ⟨h', k1, k2, k3⟩ := K_rope W H (n := 1 + v) (by omega) (by omega) (by omega)
    rw [hn] at k1
    have l2 : n < (A.1.2.1 ++ [(1 + v, [])]).length := by rw [List.length_append, hn]; exact Nat.lt_succ_self n
    have f1 := V_rope0 k3 k2 l2
    have f2 := V_rope2 k3 k2 l2
    dsimp only at f1 f2
    have at2 : atR (A.1.2.1 ++ [(1 + v, [])]) n = (1 + v, []) := by rw [← hn]; exact atR_app
    rw [at2] at f1 f2
    dsimp only at f1 f2
    rw [holL_nil] at f2
    refine ⟨h', _, ?_, k2, k3, rfl⟩
    simp only [if_neg c1, v2, bs9, d1, k1, f1, f2, not_true_eq_false, if_false, f_L_change_J171, f_L_change_J176, z01_1, if_true]
theorem ch_2 {n i u : Nat} {a2 : Int32} (W : wfA A) (H : repC h x A) (hn : A.1.2.1.length = n) (hi : ¬ n = 0 → i < n) (hu : u < 8) : Gd (if (nI n) = 0 then (f_L_change_J204 h ) else ((okL9 (f_X5_gapOf h (x) (nI u))).bind fun q37 => ((f_L_low h ((a2 >>> ((5 : Int32) &&& 31))) (q37)).bind fun v38 => ((f_L_lays h (x) (nI i) (nI u) (v38)).bind fun q39 => (if q39.1 = 0 then (f_L_change_J209 q39.2 ((0 : Int32))) else (f_L_change_J204 q39.2 )))))) x A := by
  by_cases h0 : n = 0
  · have c1 : nI n = 0 := by rw [h0]; rfl
    rw [if_pos c1]
    simp only [f_L_change_J204, f_L_change_J209, z01_1, if_true]
    exact Gd_t W H
  · have hR := W.1.2.1
    have c1 : ¬ nI n = 0 := nI_ne0 (by omega) (by omega)
    have hg := W.1.1 u
    have e1 := V_gapOf W H hu
    obtain ⟨v, v1, v2⟩ := low_n (h := h) (a := a2 >>> ((5 : Int32) &&& 31)) (m := nI (A.1.1 u)) rfl (by omega) (by omega)
    obtain ⟨h', A', k1, k2, k3, k4⟩ := L_lays W H (i := i) (by rw [hn]; exact hi h0) hu v1
    have c2 : ¬ (1 : Int32) = 0 := by decide
    refine ⟨h', A', ?_, k2, k3, k4⟩
    simp only [if_neg c1, e1, v2, bs9, k1, if_neg c2, f_L_change_J204, f_L_change_J209, z01_1, if_true]
theorem ch_8 {n i u : Nat} {a2 : Int32} (W : wfA A) (H : repC h x A) (hn : A.1.2.1.length = n) (hi : ¬ n = 0 → i < n) (hu : u < 8) : Gd (if ¬ (nI n) = 0 then ((okL9 (f_X5_hueOf h (x) (nI i) (nI u) ((1 : Int32)))).bind fun q55 => (f_L_change_J227 h (x) (nI i) (nI u) (q55))) else (f_L_change_J227 h (x) (nI i) (nI u) (((-1) : Int32)))) x A := by
  have c0 : ((-1) : Int32) < 0 := by decide
  by_cases h0 : n = 0
  · have c1 : ¬ ¬ nI n = 0 := by rw [h0]; exact fun q => q rfl
    rw [if_neg c1]
    simp only [f_L_change_J227, if_pos c0, f_L_change_J260, f_L_change_J265, z01_1, if_true]
    exact Gd_t W H
  · have hR := W.1.2.1
    have c1 : ¬ nI n = 0 := nI_ne0 (by omega) (by omega)
    have hi2 : i < A.1.2.1.length := by rw [hn]; exact hi h0
    have WR := W.1.2.2 _ (atR_mem hi2)
    have h60 := WR.1.2
    have hg := W.1.1 u
    have e1 := V_hue1 W H hi2 hu
    cases hp : phs (atR A.1.2.1 i).2 u with
    | none =>
      rw [hn_no hp] at e1
      rw [if_pos c1]
      simp only [e1, bs9, f_L_change_J227, if_pos c0, f_L_change_J260, f_L_change_J265, z01_1, if_true]
      exact Gd_t W H
    | some p =>
      rw [hn_1 hp] at e1
      obtain ⟨h', k1, k2, k3⟩ := K_take W H hi2 hu hp
      have hs : stp9 (atR A.1.2.1 i).1 p (A.1.1 u) ≤ (atR A.1.2.1 i).1 := stp9_le (by omega)
      have c2 : ¬ nI (stp9 (atR A.1.2.1 i).1 p (A.1.1 u)) < 0 := nI_pos (by omega)
      have hi3 : i < (A.1.2.1.set i ((atR A.1.2.1 i).1, (atR A.1.2.1 i).2.filter (fun q => decide (¬ q.1 = u)))).length := by rw [List.length_set]; exact hi2
      have f1 := V_hue0 k3 k2 hi3 hu
      have at2 := atR_set hi2 ((atR A.1.2.1 i).1, (atR A.1.2.1 i).2.filter (fun q => decide (¬ q.1 = u)))
      dsimp only at f1
      rw [at2] at f1
      dsimp only at f1
      rw [hn_no (phs_none.mpr (fun q hq => of_decide_eq_true (List.mem_filter.mp hq).2))] at f1
      refine ⟨h', _, ?_, k2, k3, rfl⟩
      rw [if_pos c1]
      simp only [e1, bs9, f_L_change_J227, if_neg c2, k1, f1, not_true_eq_false, if_false, f_L_change_J260, f_L_change_J265, z01_1, if_true]
theorem ch_9 {n i u : Nat} {a2 : Int32} (W : wfA A) (H : repC h x A) (hn : A.1.2.1.length = n) (hi : ¬ n = 0 → i < n) (hu : u < 8) : Gd ((lpn (f_L_change_L272 (h) (x) (a2) (nI n) (nI u)) LF ((0 : Int32), (0 : Int32))).bind (fun w272 => (f_L_change_J308 h (x) (a2) (nI u) (w272)))) x A := by
  have hR := W.1.2.1
  have hg := W.1.1 u
  have one0 : ¬ (1 : Int32) = 0 := by decide
  have m1 : ((-1) : Int32) < 0 := by decide
  have hb : ∀ j, 0 ≤ j → j < 0 + n → f_L_change_L272 h x a2 (nI n) (nI u) ((fun j => (bI (anyN (laidA A.1.2.1 u) j), nI j)) j) = some (.inl ((fun j => (bI (anyN (laidA A.1.2.1 u) j), nI j)) (j + 1))) := by
    intro j _ hj
    have hj : j < A.1.2.1.length := by omega
    have b1 : ¬ nI n ≤ nI j := nI_ge (by omega) (by omega)
    cases ha : anyN (laidA A.1.2.1 u) j with
    | true =>
      have e2 : anyN (laidA A.1.2.1 u) (j + 1) = true := by show (anyN _ j || _) = true; rw [ha]; rfl
      have bt : bI true = 1 := rfl
      simp only [f_L_change_L272, if_neg b1, ha, e2, bt, one0, not_false_eq_true, if_true, f_L_change_J295, f_L_change_J300, nI_1]
    | false =>
      have bt : bI false = 0 := rfl
      have e1 := V_hue0 W H hj hu
      have e4 : laidA A.1.2.1 u j = (phs (atR A.1.2.1 j).2 u).isSome := by unfold laidA; rw [atR_get hj]
      have e2 : anyN (laidA A.1.2.1 u) (j + 1) = laidA A.1.2.1 u j := by show (anyN _ j || _) = _; rw [ha]; rfl
      cases hp : phs (atR A.1.2.1 j).2 u with
      | none =>
        rw [hn_no hp] at e1
        rw [hp] at e4
        have e3 : anyN (laidA A.1.2.1 u) (j + 1) = false := by rw [e2, e4]; rfl
        simp only [f_L_change_L272, if_neg b1, ha, e3, bt, not_true_eq_false, if_false, e1, bs9, if_pos m1, f_L_change_J300, nI_1]
      | some p =>
        rw [hn_0 hp] at e1
        rw [hp] at e4
        have e3 : anyN (laidA A.1.2.1 u) (j + 1) = true := by rw [e2, e4]; rfl
        have bt2 : bI true = 1 := rfl
        have hp2 := ((W.1.2.2 _ (atR_mem hj)).2.2.1 _ (phs_mem hp)).2.1
        have h60 := (W.1.2.2 _ (atR_mem hj)).1.2
        have b2 : ¬ nI p < 0 := nI_pos (by have : p < (atR A.1.2.1 j).1 := hp2; omega)
        simp only [f_L_change_L272, if_neg b1, ha, e3, bt, bt2, not_true_eq_false, if_false, e1, bs9, if_neg b2, f_L_change_J295, f_L_change_J300, nI_1]
  have he : f_L_change_L272 h x a2 (nI n) (nI u) ((fun j => (bI (anyN (laidA A.1.2.1 u) j), nI j)) (0 + n)) = some (.inr (bI (anyN (laidA A.1.2.1 u) n))) := by
    have b1 : nI n ≤ nI n := nI_le (Nat.le_refl _) (by omega)
    simp only [Nat.zero_add, f_L_change_L272, if_pos b1]
  have hw := lpn_run (fun j => (bI (anyN (laidA A.1.2.1 u) j), nI j)) _ n 0 LF hb he (by unfold LF; omega)
  have hw : lpn (f_L_change_L272 h x a2 (nI n) (nI u)) LF ((0 : Int32), (0 : Int32)) = some (bI (anyN (laidA A.1.2.1 u) n)) := hw
  have ea : anyN (laidA A.1.2.1 u) n = anyA A.1.2.1 u := by rw [anyN_fst]; unfold anyA; rw [hn]
  rw [ea] at hw
  have e1 := V_gapOf W H hu
  cases hc : anyA A.1.2.1 u with
  | true =>
    rw [hc] at hw
    have bt : bI true = 1 := rfl
    refine ⟨h, A, ?_, H, W, rfl⟩
    simp only [hw, bs9, f_L_change_J308, e1, bt, one0, not_false_eq_true, if_true, f_L_change_J361, f_L_change_J366, z01_1]
  | false =>
    rw [hc] at hw
    have bt : bI false = 0 := rfl
    obtain ⟨v, v1, v2⟩ := low_n (h := h) (a := a2 >>> ((5 : Int32) &&& 31)) (m := (19 : Int32)) (n := 19) rfl (by omega) (by omega)
    have d1 : (2 : Int32) + nI v = nI (2 + v) := nI_add 2 v
    obtain ⟨h', k1, k2, k3⟩ := K_gap W H hu (v := 2 + v) (by omega) (by omega) (by rw [hc]; exact Bool.false_ne_true)
    have f1 := V_gapOf k3 k2 hu
    dsimp only at f1
    rw [if_pos rfl] at f1
    refine ⟨h', _, ?_, k2, k3, rfl⟩
    simp only [hw, bs9, f_L_change_J308, e1, bt, not_true_eq_false, if_false, v2, d1, k1, f1, f_L_change_J361, f_L_change_J366, z01_1, if_true]
theorem ch_10 {n i u : Nat} {a2 : Int32} (W : wfA A) (H : repC h x A) (hn : A.1.2.1.length = n) (hi : ¬ n = 0 → i < n) (hu : u < 8) : Gd (if (nI n) = 0 then (f_L_change_J394 h ) else ((okL9 (f_X5_greatest h (x) (nI i))).bind fun q58 => ((f_L_low h ((a2 >>> ((3 : Int32) &&& 31))) (q58)).bind fun v59 => ((f_L_stretches h (x) (nI i) (((1 : Int32) + v59))).bind fun q60 => (if q60.1 = 0 then (f_L_change_J399 q60.2 ((0 : Int32))) else (f_L_change_J394 q60.2 )))))) x A := by
  by_cases h0 : n = 0
  · have c1 : nI n = 0 := by rw [h0]; rfl
    rw [if_pos c1]
    simp only [f_L_change_J394, f_L_change_J399, z01_1, if_true]
    exact Gd_t W H
  · have hR := W.1.2.1
    have c1 : ¬ nI n = 0 := nI_ne0 (by omega) (by omega)
    have hi2 : i < A.1.2.1.length := by rw [hn]; exact hi h0
    have WR := W.1.2.2 _ (atR_mem hi2)
    have q1 := clash_len WR
    have q2 := clash_le A.1.1 (atR A.1.2.1 i).2
    have q3 := WR.1.1
    have e1 := V_great W H hi2
    obtain ⟨v, v1, v2⟩ := low_n (h := h) (a := a2 >>> ((3 : Int32) &&& 31)) (m := nI (clashA A.1.1 (atR A.1.2.1 i).2)) rfl (by omega) (by omega)
    have d1 : (1 : Int32) + nI v = nI (1 + v) := nI_add 1 v
    obtain ⟨h', A', k1, k2, k3, k4⟩ := L_stretches W H hi2 (n := 1 + v) (by omega) (by omega) (by omega)
    have c2 : ¬ (1 : Int32) = 0 := by decide
    refine ⟨h', A', ?_, k2, k3, k4⟩
    simp only [if_neg c1, e1, v2, bs9, d1, k1, if_neg c2, f_L_change_J394, f_L_change_J399, z01_1, if_true]
theorem ch_11 {n i u : Nat} {a2 : Int32} (W : wfA A) (H : repC h x A) (hn : A.1.2.1.length = n) (hi : ¬ n = 0 → i < n) (hu : u < 8) : Gd (if (nI n) = 0 then (f_L_change_J446 h ) else (if (nI n) = (4 : Int32) then (f_L_change_J446 h ) else ((okL9 (f_X5_ropeOf h (x) (nI i) ((0 : Int32)))).bind fun q61 => (if q61 = (1 : Int32) then (f_L_change_J446 h ) else ((okL9 (f_X5_ropeOf h (x) (nI i) ((0 : Int32)))).bind fun q62 => ((f_L_low h ((a2 >>> ((3 : Int32) &&& 31))) ((q62 - (1 : Int32)))).bind fun v63 => ((f_L_cuts h (x) (nI i) (((1 : Int32) + v63))).bind fun q64 => (if q64.1 = 0 then (f_L_change_J451 q64.2 ((0 : Int32))) else (f_L_change_J446 q64.2 ))))))))) x A := by
  by_cases h0 : n = 0
  · have c1 : nI n = 0 := by rw [h0]; rfl
    rw [if_pos c1]
    simp only [f_L_change_J446, f_L_change_J451, z01_1, if_true]
    exact Gd_t W H
  · have hR := W.1.2.1
    have c1 : ¬ nI n = 0 := nI_ne0 (by omega) (by omega)
    rw [if_neg c1]
    by_cases h4 : n = 4
    · have c2 : nI n = (4 : Int32) := by rw [h4]; rfl
      rw [if_pos c2]
      simp only [f_L_change_J446, f_L_change_J451, z01_1, if_true]
      exact Gd_t W H
    · have c2 : ¬ nI n = (4 : Int32) := fun q => h4 (nI_same (a := n) (b := 4) (by omega) (by omega) q)
      have hi2 : i < A.1.2.1.length := by rw [hn]; exact hi h0
      have WR := W.1.2.2 _ (atR_mem hi2)
      have h1 := WR.1.1
      have h60 := WR.1.2
      have e1 := V_rope0 W H hi2
      by_cases hl : (atR A.1.2.1 i).1 = 1
      · have c3 : nI (atR A.1.2.1 i).1 = (1 : Int32) := by rw [hl]; rfl
        refine ⟨h, A, ?_, H, W, rfl⟩
        simp only [if_neg c2, e1, bs9, if_pos c3, f_L_change_J446, f_L_change_J451, z01_1, if_true]
      · have c3 : ¬ nI (atR A.1.2.1 i).1 = (1 : Int32) := fun q => hl (nI_same (b := 1) (by omega) (by omega) q)
        have d0 : nI (atR A.1.2.1 i).1 - (1 : Int32) = nI ((atR A.1.2.1 i).1 - 1) := by rw [← n1_e, nI_sub (by omega)]
        obtain ⟨v, v1, v2⟩ := low_n (h := h) (a := a2 >>> ((3 : Int32) &&& 31)) (m := nI ((atR A.1.2.1 i).1 - 1)) rfl (by omega) (by omega)
        have d1 : (1 : Int32) + nI v = nI (1 + v) := nI_add 1 v
        obtain ⟨h', A', k1, k2, k3, k4⟩ := L_cuts W H hi2 (p := 1 + v) (by omega) (by omega) (by omega)
        have c4 : ¬ (1 : Int32) = 0 := by decide
        refine ⟨h', A', ?_, k2, k3, k4⟩
        simp only [if_neg c2, e1, bs9, if_neg c3, d0, v2, d1, k1, if_neg c4, f_L_change_J446, f_L_change_J451, z01_1, if_true]
theorem ch_12 {n i u : Nat} {a2 : Int32} (W : wfA A) (H : repC h x A) (hn : A.1.2.1.length = n) (hi : ¬ n = 0 → i < n) (hu : u < 8) : Gd (if (nI n) = 0 then (f_L_change_J465 h ) else ((f_L_turns h (x) (nI i)).bind fun q65 => (if q65.1 = 0 then (f_L_change_J470 q65.2 ((0 : Int32))) else (f_L_change_J465 q65.2 )))) x A := by
  by_cases h0 : n = 0
  · have c1 : nI n = 0 := by rw [h0]; rfl
    rw [if_pos c1]
    simp only [f_L_change_J465, f_L_change_J470, z01_1, if_true]
    exact Gd_t W H
  · have hR := W.1.2.1
    have c1 : ¬ nI n = 0 := nI_ne0 (by omega) (by omega)
    have hi2 : i < A.1.2.1.length := by rw [hn]; exact hi h0
    obtain ⟨h', A', k1, k2, k3, k4⟩ := L_turns W H hi2
    have c2 : ¬ (1 : Int32) = 0 := by decide
    refine ⟨h', A', ?_, k2, k3, k4⟩
    simp only [if_neg c1, bs9, k1, if_neg c2, f_L_change_J465, f_L_change_J470, z01_1, if_true]
theorem ch_13 {n i u : Nat} {a2 : Int32} (W : wfA A) (H : repC h x A) (hn : A.1.2.1.length = n) (hi : ¬ n = 0 → i < n) (hu : u < 8) : Gd (if ¬ (nI n) = 0 then ((f_L_low h ((a2 >>> ((2 : Int32) &&& 31))) (nI n)).bind fun v66 => (f_L_change_J486 h (x) (nI n) (nI i) (v66))) else (f_L_change_J486 h (x) (nI n) (nI i) ((0 : Int32)))) x A := by
  by_cases h0 : n = 0
  · have c1 : ¬ ¬ nI n = 0 := by rw [h0]; exact fun q => q rfl
    have c2 : nI n = 0 := by rw [h0]; rfl
    refine ⟨h, A, ?_, H, W, rfl⟩
    simp only [if_neg c1, f_L_change_J486, f_L_change_J511, if_pos c2, f_L_change_J552, f_L_change_J557, z01_1, if_true]
  · have hR := W.1.2.1
    have c1 : ¬ nI n = 0 := nI_ne0 (by omega) (by omega)
    have hi2 : i < A.1.2.1.length := by rw [hn]; exact hi h0
    obtain ⟨j, v1, v2⟩ := low_n (h := h) (a := a2 >>> ((2 : Int32) &&& 31)) (m := nI n) rfl (by omega) (by omega)
    have hj2 : j < A.1.2.1.length := by omega
    have e1 := V_rope0 W H hi2
    have e2 := V_rope0 W H hj2
    obtain ⟨h1, m1, m2⟩ := K_joining W H hi2 hj2
    have rle : rjR A.1.1 A.1.2.1 i j ≤ 4 := by
      unfold rjR
      split
      · omega
      · exact rjA_le _ _ _ _ _
    by_cases hr : rjR A.1.1 A.1.2.1 i j = 0
    · rw [hr] at m1
      obtain ⟨h', k1, k2, k3⟩ := K_join W m2 hi2 hj2 hr
      have f1 := V_count0 k3 k2
      have l2 : (joinT A i j).1.2.1.length = n - 1 := by
        show ((A.1.2.1.set i _).eraseIdx j).length = _
        rw [List.length_eraseIdx, List.length_set, if_pos hj2, hn]
      rw [l2] at f1
      have z0 : nI 0 = (0 : Int32) := rfl
      have d1 : nI n - (1 : Int32) = nI (n - 1) := by rw [← n1_e, nI_sub (by omega)]
      refine ⟨h', _, ?_, k2, k3, rfl⟩
      rw [if_pos c1]
      simp only [v2, bs9, f_L_change_J486, if_pos c1, e1, e2, f_L_change_J511, if_neg c1, m1, z0, Int32.lt_irrefl, if_false, nI_add, k1, not_true_eq_false, f1, d1, f_L_change_J552, f_L_change_J557, z01_1, if_true]
    · have c3 : (0 : Int32) < nI (rjR A.1.1 A.1.2.1 i j) := Int32.not_le.mp (nI_nle (by omega) (by omega))
      refine ⟨h1, A, ?_, m2, W, rfl⟩
      rw [if_pos c1]
      simp only [v2, bs9, f_L_change_J486, if_pos c1, e1, e2, f_L_change_J511, if_neg c1, m1, if_pos c3, f_L_change_J552, f_L_change_J557, z01_1, if_true]
theorem ch_15 {n i u : Nat} {a2 : Int32} (W : wfA A) (H : repC h x A) (hn : A.1.2.1.length = n) (hi : ¬ n = 0 → i < n) (hu : u < 8) : Gd (if (nI n) = 0 then (f_L_change_J580 h ) else (if ¬ (a2 &&& (3 : Int32)) = 0 then (f_L_change_J580 h ) else ((okW (f_X5_drop h (x) (nI i))).bind fun q68 => (if ¬ q68.1 = (nI n - (1 : Int32)) then (f_L_change_J585 q68.2 ((0 : Int32))) else (f_L_change_J580 q68.2 ))))) x A := by
  by_cases h0 : n = 0
  · have c1 : nI n = 0 := by rw [h0]; rfl
    rw [if_pos c1]
    simp only [f_L_change_J580, f_L_change_J585, z01_1, if_true]
    exact Gd_t W H
  · have hR := W.1.2.1
    have c1 : ¬ nI n = 0 := nI_ne0 (by omega) (by omega)
    rw [if_neg c1]
    by_cases hy : (a2 &&& (3 : Int32)) = 0
    · have c2 : ¬ ¬ (a2 &&& (3 : Int32)) = 0 := fun q => q hy
      rw [if_neg c2]
      have hi2 : i < A.1.2.1.length := by rw [hn]; exact hi h0
      obtain ⟨h', k1, k2, k3⟩ := K_drop W H hi2
      rw [hn] at k1
      have d1 : nI n - (1 : Int32) = nI (n - 1) := by rw [← n1_e, nI_sub (by omega)]
      refine ⟨h', _, ?_, k2, k3, rfl⟩
      simp only [k1, bs9, d1, not_true_eq_false, if_false, f_L_change_J580, f_L_change_J585, z01_1, if_true]
    · rw [if_pos hy]
      simp only [f_L_change_J580, f_L_change_J585, z01_1, if_true]
      exact Gd_t W H
theorem J16_e (h : PH) (x : Nat) (a1 a2 n3 k0 k1 : Int32) : f_L_change_J16 h x a1 a2 n3 k0 k1 = (f_L_low h k0 k1).bind fun v22 => (f_L_low h (a2 >>> ((2 : Int32) &&& 31)) (8 : Int32)).bind fun v23 => f_L_change_J16' h x a1 a2 n3 v22 v23 := rfl
theorem L_change (W : wfA A) (H : repC h x A) (a1 a2 : Int32) : Gd (f_L_change h x a1 a2) x A := by
  have hR := W.1.2.1
  obtain ⟨n, hn⟩ : ∃ n, A.1.2.1.length = n := ⟨_, rfl⟩
  have e0 := V_count0 W H
  rw [hn] at e0
  obtain ⟨c, c1, c2⟩ := low_n (h := h) (a := a1) (m := (16 : Int32)) (n := 16) rfl (by omega) (by omega)
  obtain ⟨u, hu, u2⟩ := low_n (h := h) (a := a2 >>> ((2 : Int32) &&& 31)) (m := (8 : Int32)) (n := 8) rfl (by omega) (by omega)
  obtain ⟨i, hi, e1⟩ : ∃ i, (¬ n = 0 → i < n) ∧ f_L_change h x a1 a2 = f_L_change_J16' h x a1 a2 (nI n) (nI i) (nI u) := by
    by_cases h0 : n = 0
    · obtain ⟨i, i1, i2⟩ := low_n (h := h) (a := a2) (m := (1 : Int32)) (n := 1) rfl (by omega) (by omega)
      have q1 : ¬ ¬ nI n = 0 := by rw [h0]; exact fun q => q rfl
      refine ⟨i, fun q => absurd h0 q, ?_⟩
      unfold f_L_change
      rw [e0, bs9, if_neg q1, J16_e, i2, bs9, u2, bs9]
    · obtain ⟨i, i1, i2⟩ := low_n (h := h) (a := a2) (m := nI n) rfl (by omega) (by omega)
      have q1 : ¬ nI n = 0 := nI_ne0 (by omega) (by omega)
      refine ⟨i, fun _ => i1, ?_⟩
      unfold f_L_change
      rw [e0, bs9, if_pos q1, J16_e, i2, bs9, u2, bs9]
  rw [e1]
  unfold f_L_change_J16'
  rw [c2, bs9]
  clear e1 c2
  match c, c1 with
  | 0, _ => rw [if_pos (show nI 0 = 0 by decide)]; exact ch_0 (a2 := a2) W H hn hi hu
  | 1, _ => rw [if_neg (show ¬ nI 1 = 0 by decide)]; rw [if_pos (show nI 1 = 1 by decide)]; exact ch_0 (a2 := a2) W H hn hi hu
  | 2, _ => rw [if_neg (show ¬ nI 2 = 0 by decide)]; rw [if_neg (show ¬ nI 2 = 1 by decide)]; rw [if_pos (show nI 2 = 2 by decide)]; exact ch_2 (a2 := a2) W H hn hi hu
  | 3, _ => rw [if_neg (show ¬ nI 3 = 0 by decide)]; rw [if_neg (show ¬ nI 3 = 1 by decide)]; rw [if_neg (show ¬ nI 3 = 2 by decide)]; rw [if_pos (show nI 3 = 3 by decide)]; exact ch_2 (a2 := a2) W H hn hi hu
  | 4, _ => rw [if_neg (show ¬ nI 4 = 0 by decide)]; rw [if_neg (show ¬ nI 4 = 1 by decide)]; rw [if_neg (show ¬ nI 4 = 2 by decide)]; rw [if_neg (show ¬ nI 4 = 3 by decide)]; rw [if_pos (show nI 4 = 4 by decide)]; exact ch_2 (a2 := a2) W H hn hi hu
  | 5, _ => rw [if_neg (show ¬ nI 5 = 0 by decide)]; rw [if_neg (show ¬ nI 5 = 1 by decide)]; rw [if_neg (show ¬ nI 5 = 2 by decide)]; rw [if_neg (show ¬ nI 5 = 3 by decide)]; rw [if_neg (show ¬ nI 5 = 4 by decide)]; rw [if_pos (show nI 5 = 5 by decide)]; exact ch_2 (a2 := a2) W H hn hi hu
  | 6, _ => rw [if_neg (show ¬ nI 6 = 0 by decide)]; rw [if_neg (show ¬ nI 6 = 1 by decide)]; rw [if_neg (show ¬ nI 6 = 2 by decide)]; rw [if_neg (show ¬ nI 6 = 3 by decide)]; rw [if_neg (show ¬ nI 6 = 4 by decide)]; rw [if_neg (show ¬ nI 6 = 5 by decide)]; rw [if_pos (show nI 6 = 6 by decide)]; exact ch_2 (a2 := a2) W H hn hi hu
  | 7, _ => rw [if_neg (show ¬ nI 7 = 0 by decide)]; rw [if_neg (show ¬ nI 7 = 1 by decide)]; rw [if_neg (show ¬ nI 7 = 2 by decide)]; rw [if_neg (show ¬ nI 7 = 3 by decide)]; rw [if_neg (show ¬ nI 7 = 4 by decide)]; rw [if_neg (show ¬ nI 7 = 5 by decide)]; rw [if_neg (show ¬ nI 7 = 6 by decide)]; rw [if_pos (show nI 7 = 7 by decide)]; exact ch_2 (a2 := a2) W H hn hi hu
  | 8, _ => rw [if_neg (show ¬ nI 8 = 0 by decide)]; rw [if_neg (show ¬ nI 8 = 1 by decide)]; rw [if_neg (show ¬ nI 8 = 2 by decide)]; rw [if_neg (show ¬ nI 8 = 3 by decide)]; rw [if_neg (show ¬ nI 8 = 4 by decide)]; rw [if_neg (show ¬ nI 8 = 5 by decide)]; rw [if_neg (show ¬ nI 8 = 6 by decide)]; rw [if_neg (show ¬ nI 8 = 7 by decide)]; rw [if_pos (show nI 8 = 8 by decide)]; exact ch_8 (a2 := a2) W H hn hi hu
  | 9, _ => rw [if_neg (show ¬ nI 9 = 0 by decide)]; rw [if_neg (show ¬ nI 9 = 1 by decide)]; rw [if_neg (show ¬ nI 9 = 2 by decide)]; rw [if_neg (show ¬ nI 9 = 3 by decide)]; rw [if_neg (show ¬ nI 9 = 4 by decide)]; rw [if_neg (show ¬ nI 9 = 5 by decide)]; rw [if_neg (show ¬ nI 9 = 6 by decide)]; rw [if_neg (show ¬ nI 9 = 7 by decide)]; rw [if_neg (show ¬ nI 9 = 8 by decide)]; rw [if_pos (show nI 9 = 9 by decide)]; exact ch_9 (a2 := a2) W H hn hi hu
  | 10, _ => rw [if_neg (show ¬ nI 10 = 0 by decide)]; rw [if_neg (show ¬ nI 10 = 1 by decide)]; rw [if_neg (show ¬ nI 10 = 2 by decide)]; rw [if_neg (show ¬ nI 10 = 3 by decide)]; rw [if_neg (show ¬ nI 10 = 4 by decide)]; rw [if_neg (show ¬ nI 10 = 5 by decide)]; rw [if_neg (show ¬ nI 10 = 6 by decide)]; rw [if_neg (show ¬ nI 10 = 7 by decide)]; rw [if_neg (show ¬ nI 10 = 8 by decide)]; rw [if_neg (show ¬ nI 10 = 9 by decide)]; rw [if_pos (show nI 10 = 10 by decide)]; exact ch_10 (a2 := a2) W H hn hi hu
  | 11, _ => rw [if_neg (show ¬ nI 11 = 0 by decide)]; rw [if_neg (show ¬ nI 11 = 1 by decide)]; rw [if_neg (show ¬ nI 11 = 2 by decide)]; rw [if_neg (show ¬ nI 11 = 3 by decide)]; rw [if_neg (show ¬ nI 11 = 4 by decide)]; rw [if_neg (show ¬ nI 11 = 5 by decide)]; rw [if_neg (show ¬ nI 11 = 6 by decide)]; rw [if_neg (show ¬ nI 11 = 7 by decide)]; rw [if_neg (show ¬ nI 11 = 8 by decide)]; rw [if_neg (show ¬ nI 11 = 9 by decide)]; rw [if_neg (show ¬ nI 11 = 10 by decide)]; rw [if_pos (show nI 11 = 11 by decide)]; exact ch_11 (a2 := a2) W H hn hi hu
  | 12, _ => rw [if_neg (show ¬ nI 12 = 0 by decide)]; rw [if_neg (show ¬ nI 12 = 1 by decide)]; rw [if_neg (show ¬ nI 12 = 2 by decide)]; rw [if_neg (show ¬ nI 12 = 3 by decide)]; rw [if_neg (show ¬ nI 12 = 4 by decide)]; rw [if_neg (show ¬ nI 12 = 5 by decide)]; rw [if_neg (show ¬ nI 12 = 6 by decide)]; rw [if_neg (show ¬ nI 12 = 7 by decide)]; rw [if_neg (show ¬ nI 12 = 8 by decide)]; rw [if_neg (show ¬ nI 12 = 9 by decide)]; rw [if_neg (show ¬ nI 12 = 10 by decide)]; rw [if_neg (show ¬ nI 12 = 11 by decide)]; rw [if_pos (show nI 12 = 12 by decide)]; exact ch_12 (a2 := a2) W H hn hi hu
  | 13, _ => rw [if_neg (show ¬ nI 13 = 0 by decide)]; rw [if_neg (show ¬ nI 13 = 1 by decide)]; rw [if_neg (show ¬ nI 13 = 2 by decide)]; rw [if_neg (show ¬ nI 13 = 3 by decide)]; rw [if_neg (show ¬ nI 13 = 4 by decide)]; rw [if_neg (show ¬ nI 13 = 5 by decide)]; rw [if_neg (show ¬ nI 13 = 6 by decide)]; rw [if_neg (show ¬ nI 13 = 7 by decide)]; rw [if_neg (show ¬ nI 13 = 8 by decide)]; rw [if_neg (show ¬ nI 13 = 9 by decide)]; rw [if_neg (show ¬ nI 13 = 10 by decide)]; rw [if_neg (show ¬ nI 13 = 11 by decide)]; rw [if_neg (show ¬ nI 13 = 12 by decide)]; rw [if_pos (show nI 13 = 13 by decide)]; exact ch_13 (a2 := a2) W H hn hi hu
  | 14, _ => rw [if_neg (show ¬ nI 14 = 0 by decide)]; rw [if_neg (show ¬ nI 14 = 1 by decide)]; rw [if_neg (show ¬ nI 14 = 2 by decide)]; rw [if_neg (show ¬ nI 14 = 3 by decide)]; rw [if_neg (show ¬ nI 14 = 4 by decide)]; rw [if_neg (show ¬ nI 14 = 5 by decide)]; rw [if_neg (show ¬ nI 14 = 6 by decide)]; rw [if_neg (show ¬ nI 14 = 7 by decide)]; rw [if_neg (show ¬ nI 14 = 8 by decide)]; rw [if_neg (show ¬ nI 14 = 9 by decide)]; rw [if_neg (show ¬ nI 14 = 10 by decide)]; rw [if_neg (show ¬ nI 14 = 11 by decide)]; rw [if_neg (show ¬ nI 14 = 12 by decide)]; rw [if_neg (show ¬ nI 14 = 13 by decide)]; rw [if_pos (show nI 14 = 14 by decide)]; exact ch_13 (a2 := a2) W H hn hi hu
  | 15, _ => rw [if_neg (show ¬ nI 15 = 0 by decide)]; rw [if_neg (show ¬ nI 15 = 1 by decide)]; rw [if_neg (show ¬ nI 15 = 2 by decide)]; rw [if_neg (show ¬ nI 15 = 3 by decide)]; rw [if_neg (show ¬ nI 15 = 4 by decide)]; rw [if_neg (show ¬ nI 15 = 5 by decide)]; rw [if_neg (show ¬ nI 15 = 6 by decide)]; rw [if_neg (show ¬ nI 15 = 7 by decide)]; rw [if_neg (show ¬ nI 15 = 8 by decide)]; rw [if_neg (show ¬ nI 15 = 9 by decide)]; rw [if_neg (show ¬ nI 15 = 10 by decide)]; rw [if_neg (show ¬ nI 15 = 11 by decide)]; rw [if_neg (show ¬ nI 15 = 12 by decide)]; rw [if_neg (show ¬ nI 15 = 13 by decide)]; rw [if_neg (show ¬ nI 15 = 14 by decide)]; exact ch_15 (a2 := a2) W H hn hi hu
  | k + 16, hk => omega
end Law5
