/-! PURE READING, 7: the class's State -/
def cSt (h : PH) (s n : Nat) (c1 c2 c3 : Int32) (gf : Nat → Int32) (rf : Nat → Option Nat) : Prop := h s = some (.inr (.inr (2, [.ref (s + 1), .ref (s + 2), .int (nI n), .int c1, .int c2, .int c3]))) ∧ h (s + 1) = some (.inl (8, gf)) ∧ h (s + 2) = some (.inr (.inl (0, 4, rf)))
section StateCells
variable {h : PH} {s n : Nat} {c1 c2 c3 : Int32} {gf : Nat → Int32} {rf : Nat → Option Nat}
theorem cSt.ok (H : cSt h s n c1 c2 c3 gf rf) : okO h s 2 = true := okO_of H.1
theorem cSt.r0 (H : cSt h s n c1 c2 c3 gf rf) : rdR h s 2 0 = some (s + 1) := rdR_of H.1 rfl
theorem cSt.r1 (H : cSt h s n c1 c2 c3 gf rf) : rdR h s 2 1 = some (s + 2) := rdR_of H.1 rfl
theorem cSt.r2 (H : cSt h s n c1 c2 c3 gf rf) : rdI h s 2 2 = some (nI n) := rdI_of H.1 rfl
theorem cSt.r3 (H : cSt h s n c1 c2 c3 gf rf) : rdI h s 2 3 = some c1 := rdI_of H.1 rfl
theorem cSt.r4 (H : cSt h s n c1 c2 c3 gf rf) : rdI h s 2 4 = some c2 := rdI_of H.1 rfl
theorem cSt.r5 (H : cSt h s n c1 c2 c3 gf rf) : rdI h s 2 5 = some c3 := rdI_of H.1 rfl
theorem cSt.n0 (H : cSt h s n c1 c2 c3 gf rf) : lnA h (s + 1) = some (nI 8) := lnA_I H.2.1
theorem cSt.n1 (H : cSt h s n c1 c2 c3 gf rf) : lnA h (s + 2) = some (nI 4) := lnA_Q H.2.2
theorem X3_gapAt (H : cSt h s n c1 c2 c3 gf rf) {u : Nat} (hu : u < 8) : f_X3_gapAt h s (nI u) = some (gf u) := by
  have e1 : ¬ nI u < 0 := nI_pos (by omega)
  have e2 : ¬ nI 8 ≤ nI u := nI_ge hu (by omega)
  simp only [f_X3_gapAt, f_X3_gapAt_J23, H.ok, H.r0, H.n0, if_true, Option.bind_some, if_neg e1, if_neg e2, ldI_of H.2.1 hu (by omega)]
theorem X3_ropeCount (H : cSt h s n c1 c2 c3 gf rf) : f_X3_ropeCount h s = some (nI n) := by
  simp only [f_X3_ropeCount, H.ok, H.r2, if_true, Option.bind_some]
theorem X3_layings (H : cSt h s n c1 c2 c3 gf rf) : f_X3_layings h s = some c1 := by
  simp only [f_X3_layings, H.ok, H.r3, if_true, Option.bind_some]
theorem X3_joins (H : cSt h s n c1 c2 c3 gf rf) : f_X3_joins h s = some c2 := by
  simp only [f_X3_joins, H.ok, H.r4, if_true, Option.bind_some]
theorem X3_cuts (H : cSt h s n c1 c2 c3 gf rf) : f_X3_cuts h s = some c3 := by
  simp only [f_X3_cuts, H.ok, H.r5, if_true, Option.bind_some]
theorem X3_ropeAt (H : cSt h s n c1 c2 c3 gf rf) (hn : n ≤ 4) {i : Nat} (hi : i < n) : f_X3_ropeAt h s (nI i) = some (rf i) := by
  have e1 : ¬ nI i < 0 := nI_pos (by omega)
  have e2 : ¬ nI n ≤ nI i := nI_ge hi (by omega)
  have e3 : ¬ nI 4 ≤ nI i := nI_ge (by omega) (by omega)
  simp only [f_X3_ropeAt, f_X3_ropeAt_J31, H.ok, H.r1, H.r2, H.n1, if_true, Option.bind_some, if_neg e1, if_neg e2, if_neg e3, ldQ_of H.2.2 (show i < 4 by omega) (by omega)]
theorem X3_ropeAt_no (H : cSt h s n c1 c2 c3 gf rf) {x : Int32} (hx : x < 0 ∨ nI n ≤ x) : f_X3_ropeAt h s x = some none := by
  simp only [f_X3_ropeAt, f_X3_ropeAt_J30, f_X3_ropeAt_J31, H.ok, H.r2, if_true, Option.bind_some]
  by_cases e1 : x < 0
  · rw [if_pos e1]
  · rw [if_neg e1, if_pos (hx.resolve_left e1)]
end StateCells
/-- the class's State at s: gaps, ropes, layings, joins, cuts -/
def repS (h : PH) (s : Nat) (g : Nat → Nat) (R : List (Nat × List (Nat × Nat))) (c1 c2 c3 : Int32) : Prop := ∃ (gf : Nat → Int32) (rf : Nat → Option Nat) (π : Nat → Nat), cSt h s R.length c1 c2 c3 gf rf ∧ (∀ u, u < 8 → gf u = nI (g u)) ∧ (∀ i, i < 4 → π i < 4 ∧ rf i = some (s + 3 + 3 * π i) ∧ jR h (s + 3 + 3 * i)) ∧ (∀ i j, i < 4 → j < 4 → π i = π j → i = j) ∧ ∀ i X, R[i]? = some X → repR g h (s + 3 + 3 * π i) X.1 X.2
def wfS (g : Nat → Nat) (R : List (Nat × List (Nat × Nat))) : Prop := wfg g ∧ R.length ≤ 4 ∧ ∀ X ∈ R, wfR g X.1 X.2
section StateOps
variable {h : PH} {s : Nat} {g : Nat → Nat} {R : List (Nat × List (Nat × Nat))} {c1 c2 c3 : Int32}
theorem S_gapAt (H : repS h s g R c1 c2 c3) {u : Nat} (hu : u < 8) : f_X3_gapAt h s (nI u) = some (nI (g u)) := by
  obtain ⟨gf, rf, π, H1, H2, -⟩ := H
  rw [X3_gapAt H1 hu, H2 u hu]
theorem S_ropeCount (H : repS h s g R c1 c2 c3) : f_X3_ropeCount h s = some (nI R.length) := by
  obtain ⟨gf, rf, π, H1, -⟩ := H
  exact X3_ropeCount H1
theorem S_layings (H : repS h s g R c1 c2 c3) : f_X3_layings h s = some c1 := by
  obtain ⟨gf, rf, π, H1, -⟩ := H
  exact X3_layings H1
theorem S_joins (H : repS h s g R c1 c2 c3) : f_X3_joins h s = some c2 := by
  obtain ⟨gf, rf, π, H1, -⟩ := H
  exact X3_joins H1
theorem S_cuts (H : repS h s g R c1 c2 c3) : f_X3_cuts h s = some c3 := by
  obtain ⟨gf, rf, π, H1, -⟩ := H
  exact X3_cuts H1
theorem S_ropeAt (W : wfS g R) (H : repS h s g R c1 c2 c3) {i : Nat} {X : Nat × List (Nat × Nat)} (hi : R[i]? = some X) : ∃ r, f_X3_ropeAt h s (nI i) = some (some r) ∧ repR g h r X.1 X.2 ∧ s + 3 ≤ r ∧ r + 3 ≤ s + 15 := by
  obtain ⟨gf, rf, π, H1, -, H3, -, H5⟩ := H
  have hn := W.2.1
  have hi2 := (List.getElem?_eq_some_iff.mp hi).1
  obtain ⟨p1, p2, -⟩ := H3 i (by omega)
  exact ⟨_, (X3_ropeAt H1 hn hi2).trans (congrArg some p2), H5 i X hi, by omega, by omega⟩
theorem S_ropeAt_no (H : repS h s g R c1 c2 c3) {x : Int32} (hx : x < 0 ∨ nI R.length ≤ x) : f_X3_ropeAt h s x = some none := by
  obtain ⟨gf, rf, π, H1, -⟩ := H
  exact X3_ropeAt_no H1 hx
theorem S_okO (H : repS h s g R c1 c2 c3) : okO h s 2 = true := by
  obtain ⟨gf, rf, π, H1, -⟩ := H
  exact H1.ok
/-- a rope of the State written anew -/
theorem S_set (W : wfS g R) (H : repS h s g R c1 c2 c3) {i : Nat} {X : Nat × List (Nat × Nat)} (hi : R[i]? = some X) {r : Nat} (hr : f_X3_ropeAt h s (nI i) = some (some r)) {h' : PH} (hc : chg r h h') {len' : Nat} {L' : List (Nat × Nat)} (H' : repR g h' r len' L') : repS h' s g (R.set i (len', L')) c1 c2 c3 := by
  obtain ⟨gf, rf, π, H1, H2, H3, H4, H5⟩ := H
  have hn := W.2.1
  have hi2 := (List.getElem?_eq_some_iff.mp hi).1
  obtain ⟨p1, p2, p3⟩ := H3 i (by omega)
  rw [X3_ropeAt H1 hn hi2, p2] at hr
  cases hr
  refine ⟨gf, rf, π, ?_, H2, fun j hj => ⟨(H3 j hj).1, (H3 j hj).2.1, ?_⟩, H4, fun j Y hj => ?_⟩
  · rw [List.length_set]
    exact ⟨(hc _ (by omega)).trans H1.1, (hc _ (by omega)).trans H1.2.1, (hc _ (by omega)).trans H1.2.2⟩
  · by_cases e : j = π i
    · subst e
      exact H'.j
    · exact ((H3 j hj).2.2).chg hc (by omega)
  · rw [List.getElem?_set] at hj
    by_cases e : i = j
    · subst e
      rw [if_pos rfl, if_pos hi2] at hj
      cases hj
      exact H'
    · rw [if_neg e] at hj
      have hj2 := (List.getElem?_eq_some_iff.mp hj).1
      have e2 : ¬ π j = π i := fun q => e (H4 j i (by omega) (by omega) q).symm
      exact (H5 j Y hj).chg hc (by omega)
/-- nothing between s and s + 15 changed -/
def sameS (s : Nat) (h h' : PH) : Prop := ∀ b, s ≤ b → b < s + 15 → h' b = h b
theorem repR.same {r len : Nat} {L : List (Nat × Nat)} {h' : PH} (H : repR g h r len L) (h1 : sameS s h h') (h2 : s ≤ r) (h3 : r + 3 ≤ s + 15) : repR g h' r len L := by
  obtain ⟨cf, off, A1, A2, A3⟩ := H
  exact ⟨cf, off, ⟨(h1 _ (by omega) (by omega)).trans A1.1, (h1 _ (by omega) (by omega)).trans A1.2.1, (h1 _ (by omega) (by omega)).trans A1.2.2⟩, A2, A3⟩
theorem jR.same {r : Nat} {h' : PH} (H : jR h r) (h1 : sameS s h h') (h2 : s ≤ r) (h3 : r + 3 ≤ s + 15) : jR h' r := by
  obtain ⟨l, c, cf, off, A1⟩ := H
  exact ⟨l, c, cf, off, (h1 _ (by omega) (by omega)).trans A1.1, (h1 _ (by omega) (by omega)).trans A1.2.1, (h1 _ (by omega) (by omega)).trans A1.2.2⟩
theorem repS.same {h' : PH} (W : R.length ≤ 4) (H : repS h s g R c1 c2 c3) (h1 : sameS s h h') : repS h' s g R c1 c2 c3 := by
  obtain ⟨gf, rf, π, H1, H2, H3, H4, H5⟩ := H
  refine ⟨gf, rf, π, ⟨(h1 _ (by omega) (by omega)).trans H1.1, (h1 _ (by omega) (by omega)).trans H1.2.1, (h1 _ (by omega) (by omega)).trans H1.2.2⟩, H2, fun j hj => ⟨(H3 j hj).1, (H3 j hj).2.1, ((H3 j hj).2.2).same h1 (by omega) (by omega)⟩, H4, fun j Y hj => ?_⟩
  have hj2 := (List.getElem?_eq_some_iff.mp hj).1
  have := (H3 j (by omega)).1
  exact (H5 j Y hj).same h1 (by omega) (by omega)
/-- sums over the ropes -/
def sum9 (f : Nat → Nat) : Nat → Nat
  | 0 => 0
  | n + 1 => sum9 f n + f n
def lenAt (R : List (Nat × List (Nat × Nat))) (i : Nat) : Nat := match R[i]? with
  | some X => X.1
  | none => 0
def holA (g : Nat → Nat) (R : List (Nat × List (Nat × Nat))) (i : Nat) : Nat := match R[i]? with
  | some X => cnt9 (fun p => decide (col g X.2 p = none)) X.1
  | none => 0
def laidA (R : List (Nat × List (Nat × Nat))) (u i : Nat) : Bool := match R[i]? with
  | some X => (phs X.2 u).isSome
  | none => false
theorem S_places (W : wfS g R) (H : repS h s g R c1 c2 c3) : f_X3_places h s = some (nI (sum9 (lenAt R) R.length)) := by
  have H0 := H
  obtain ⟨gf, rf, π, H1, -⟩ := H
  have hn := W.2.1
  have hb : ∀ j, 0 ≤ j → j < 0 + R.length → f_X3_places_L4 h s ((fun j => (nI (sum9 (lenAt R) j), nI j)) j) = some (.inl ((fun j => (nI (sum9 (lenAt R) j), nI j)) (j + 1))) := by
    intro j _ hj
    have hj2 : j < R.length := by omega
    have e2 : ¬ nI R.length ≤ nI j := nI_ge hj2 (by omega)
    obtain ⟨r, f1, f2, -⟩ := S_ropeAt W H0 (List.getElem?_eq_getElem hj2)
    have e3 : lenAt R j = R[j].1 := by
      unfold lenAt
      rw [List.getElem?_eq_getElem hj2]
    simp only [f_X3_places_L4, f_X3_places_J31, H1.r2, Option.bind_some, if_neg e2, f1, R_length f2, nI_1, nI_add, sum9, e3]
  have he : f_X3_places_L4 h s ((fun j => (nI (sum9 (lenAt R) j), nI j)) (0 + R.length)) = some (.inr (nI (sum9 (lenAt R) R.length))) := by
    have e2 : nI R.length ≤ nI R.length := nI_le (Nat.le_refl _) (by omega)
    simp only [Nat.zero_add, f_X3_places_L4, H1.r2, Option.bind_some, if_pos e2]
  have hw := lpn_run (fun j => (nI (sum9 (lenAt R) j), nI j)) _ R.length 0 LF hb he (by unfold LF; omega)
  have hw0 : lpn (f_X3_places_L4 h s) LF (0, 0) = _ := hw
  simp only [f_X3_places, f_X3_places_J39, H1.ok, if_true, hw0, Option.bind_some]
theorem S_holes (W : wfS g R) (H : repS h s g R c1 c2 c3) : f_X3_holes h s = some (nI (sum9 (holA g R) R.length)) := by
  have H0 := H
  obtain ⟨gf, rf, π, H1, -⟩ := H
  have hn := W.2.1
  have hb : ∀ j, 0 ≤ j → j < 0 + R.length → f_X3_holes_L4 h s ((fun j => (nI (sum9 (holA g R) j), nI j)) j) = some (.inl ((fun j => (nI (sum9 (holA g R) j), nI j)) (j + 1))) := by
    intro j _ hj
    have hj2 : j < R.length := by omega
    have e2 : ¬ nI R.length ≤ nI j := nI_ge hj2 (by omega)
    obtain ⟨r, f1, f2, -⟩ := S_ropeAt W H0 (List.getElem?_eq_getElem hj2)
    have W1 := W.2.2 _ (List.getElem_mem hj2)
    have e3 : holA g R j = cnt9 (fun p => decide (col g R[j].2 p = none)) R[j].1 := by
      unfold holA
      rw [List.getElem?_eq_getElem hj2]
    simp only [f_X3_holes_L4, f_X3_holes_J32, H1.r2, Option.bind_some, if_neg e2, f1, R_holes W1 f2, nI_1, nI_add, sum9, e3]
  have he : f_X3_holes_L4 h s ((fun j => (nI (sum9 (holA g R) j), nI j)) (0 + R.length)) = some (.inr (nI (sum9 (holA g R) R.length))) := by
    have e2 : nI R.length ≤ nI R.length := nI_le (Nat.le_refl _) (by omega)
    simp only [Nat.zero_add, f_X3_holes_L4, H1.r2, Option.bind_some, if_pos e2]
  have hw := lpn_run (fun j => (nI (sum9 (holA g R) j), nI j)) _ R.length 0 LF hb he (by unfold LF; omega)
  have hw0 : lpn (f_X3_holes_L4 h s) LF (0, 0) = _ := hw
  simp only [f_X3_holes, f_X3_holes_J40, H1.ok, if_true, hw0, Option.bind_some]
theorem ixo_m1 {L : List (Nat × Nat)} {len u : Nat} (W : wfR g len L) : (oI (ixo L u) = -1) ↔ (phs L u).isSome = false := by
  have h8 := W.le8
  rw [oI_m1 (fun n hn => by have := (fst9_some hn).2.1; omega), ixo_none]
  cases phs L u <;> simp
/-- is a hue laid on some rope -/
def anyA (R : List (Nat × List (Nat × Nat))) (u : Nat) : Bool := (fst9 (laidA R u) 0 R.length).isSome
def bI (b : Bool) : Int32 := if b = true then 1 else 0
theorem S_isLaidOnSome (W : wfS g R) (H : repS h s g R c1 c2 c3) {u : Nat} (hu : u < 8) : f_X3_isLaidOnSome h s (nI u) = some (bI (anyA R u)) := by
  have H0 := H
  obtain ⟨gf, rf, π, H1, -⟩ := H
  have hn := W.2.1
  have hb : ∀ j, 0 ≤ j → j < 0 + R.length → f_X3_isLaidOnSome_L2 h s (nI u) (nI j) = some (if laidA R u j = true then .inr ((fun _ => (.inr () : Unit ⊕ Unit)) j) else .inl (nI (j + 1))) := by
    intro j _ hj
    have hj2 : j < R.length := by omega
    have e2 : ¬ nI R.length ≤ nI j := nI_ge hj2 (by omega)
    obtain ⟨r, f1, f2, -⟩ := S_ropeAt W H0 (List.getElem?_eq_getElem hj2)
    have W1 := W.2.2 _ (List.getElem_mem hj2)
    have e3 : laidA R u j = (phs R[j].2 u).isSome := by
      unfold laidA
      rw [List.getElem?_eq_getElem hj2]
    have e4 := ixo_m1 (u := u) W1
    simp only [f_X3_isLaidOnSome_L2, f_X3_isLaidOnSome_J31, H1.r2, Option.bind_some, if_neg e2, f1, R_orderOf W1 f2 (show u < 2 ^ 31 by omega), e3, e4, nI_1]
    cases (phs R[j].2 u).isSome <;> rfl
  have he : f_X3_isLaidOnSome_L2 h s (nI u) (nI (0 + R.length)) = some (.inr (.inl ())) := by
    have e2 : nI R.length ≤ nI R.length := nI_le (Nat.le_refl _) (by omega)
    simp only [Nat.zero_add, f_X3_isLaidOnSome_L2, H1.r2, Option.bind_some, if_pos e2]
  have hw := lpn_find (fun j => nI j) (laidA R u) (fun _ => (.inr () : Unit ⊕ Unit)) (.inl ()) R.length 0 LF hb he (by unfold LF; omega)
  have hw0 : lpn (f_X3_isLaidOnSome_L2 h s (nI u)) LF 0 = _ := hw
  unfold anyA bI
  cases hf : fst9 (laidA R u) 0 R.length with
  | none =>
    rw [hf] at hw0
    simp only [f_X3_isLaidOnSome, H1.ok, if_true, hw0, Option.bind_some]
    rfl
  | some j =>
    rw [hf] at hw0
    simp only [f_X3_isLaidOnSome, H1.ok, if_true, hw0, Option.bind_some]
    rfl
theorem S_laidHues (W : wfS g R) (H : repS h s g R c1 c2 c3) : f_X3_laidHues h s = some (nI (cnt9 (anyA R) 8)) := by
  have hb : ∀ j, 0 ≤ j → j < 0 + 8 → f_X3_laidHues_L4 h s ((fun j => (nI (cnt9 (anyA R) j), nI j)) j) = some (.inl ((fun j => (nI (cnt9 (anyA R) j), nI j)) (j + 1))) := by
    intro j _ hj
    have e2 : ¬ (8 : Int32) ≤ nI j := nI_ge (b := 8) (by omega) (by omega)
    simp only [f_X3_laidHues_L4, f_X3_laidHues_J21, if_neg e2, S_isLaidOnSome W H (show j < 8 by omega), Option.bind_some, cnt9, bI]
    cases anyA R j
    · simp [nI_1]
    · simp [nI_1]
  have he : f_X3_laidHues_L4 h s ((fun j => (nI (cnt9 (anyA R) j), nI j)) (0 + 8)) = some (.inr (nI (cnt9 (anyA R) 8))) := by
    have e2 : (8 : Int32) ≤ nI 8 := nI_le (a := 8) (Nat.le_refl _) (by omega)
    simp only [Nat.zero_add, f_X3_laidHues_L4, if_pos e2]
  have hw := lpn_run (fun j => (nI (cnt9 (anyA R) j), nI j)) _ 8 0 LF hb he (by unfold LF; omega)
  have hw0 : lpn (f_X3_laidHues_L4 h s) LF (0, 0) = _ := hw
  simp only [f_X3_laidHues, f_X3_laidHues_J27, S_okO H, if_true, hw0, Option.bind_some]
end StateOps
