/-! PURE READING, 19: the class as a whole: its state; what is asked of arguments -/
abbrev RRt : Type := List (Nat × List (Nat × Nat))
abbrev TTt : Type := (Nat → Nat) × List (Nat × List (Nat × Nat)) × Int32 × Int32 × Int32
abbrev AAt : Type := TTt × List TTt × Option TTt × List Nat
def rng (n : Nat) (a : Int32) : Option Nat := if 0 ≤ a ∧ a < nI n then some a.toNatClampNeg else none
theorem rng_some {n u : Nat} {a : Int32} (hn : n < 2 ^ 31) (h : rng n a = some u) : u < n ∧ a = nI u := by
  unfold rng at h
  by_cases h1 : 0 ≤ a ∧ a < nI n
  · rw [if_pos h1] at h
    obtain ⟨j, hj, rfl⟩ := nI_of (Int32.not_lt.mpr h1.1)
    rw [nI_clamp hj] at h
    cases h
    exact ⟨(nI_ltI hj hn).mp h1.2, rfl⟩
  · rw [if_neg h1] at h
    cases h
theorem rng_none {n : Nat} {a : Int32} (h : rng n a = none) : a < 0 ∨ (¬ a < 0 ∧ nI n ≤ a) := by
  unfold rng at h
  by_cases h1 : 0 ≤ a ∧ a < nI n
  · rw [if_pos h1] at h
    cases h
  · by_cases h2 : a < 0
    · exact Or.inl h2
    · refine Or.inr ⟨h2, ?_⟩
      rcases Int32.lt_or_le a (nI n) with h3 | h3
      · exact absurd ⟨Int32.not_lt.mp h2, h3⟩ h1
      · exact h3
theorem rng_of {n u : Nat} (hu : u < n) (hn : n < 2 ^ 31) : rng n (nI u) = some u := by
  unfold rng
  rw [if_pos ⟨Int32.not_lt.mp (nI_pos (by omega)), nI_lt hu hn⟩, nI_clamp (by omega)]
def cX (h : PH) (x : Nat) (k : Int32) : Prop := h x = some (.inr (.inr (4, [.ref (x + 1), .ref (x + 16), .ref (x + 31), .ref (x + 123), .ref (x + 125), .int k])))
section MainCells
variable {h : PH} {x : Nat} {k : Int32}
theorem cX.ok (H : cX h x k) : okO h x 4 = true := okO_of H
theorem cX.r0 (H : cX h x k) : rdR h x 4 0 = some (x + 1) := rdR_of H rfl
theorem cX.r1 (H : cX h x k) : rdR h x 4 1 = some (x + 16) := rdR_of H rfl
theorem cX.r2 (H : cX h x k) : rdR h x 4 2 = some (x + 31) := rdR_of H rfl
theorem cX.r3 (H : cX h x k) : rdR h x 4 3 = some (x + 123) := rdR_of H rfl
theorem cX.r4 (H : cX h x k) : rdR h x 4 4 = some (x + 125) := rdR_of H rfl
theorem cX.r5 (H : cX h x k) : rdI h x 4 5 = some k := rdI_of H rfl
end MainCells
/-- the class's object at x -/
def repC (h : PH) (x : Nat) (A : AAt) : Prop := cX h x (bI A.2.2.1.isSome) ∧ repT h (x + 1) A.1 ∧ jS h (x + 16) ∧ (∀ T, A.2.2.1 = some T → repT h (x + 16) T) ∧ repH h (x + 31) A.2.1 ∧ repX h (x + 123) A.2.2.2 ∧ jR h (x + 125)
def wfA (A : AAt) : Prop := wfT A.1 ∧ (∀ T ∈ A.2.1, wfT T) ∧ A.2.1.length ≤ 6 ∧ (∀ T, A.2.2.1 = some T → wfT T) ∧ wfX A.2.2.2
def onX (x : Nat) (h h' : PH) : Prop := ∀ b, b < x ∨ x + 128 ≤ b → h' b = h b
theorem onX.rf {x : Nat} {h : PH} : onX x h h := fun _ _ => rfl
theorem onX.tr {x : Nat} {h h' h'' : PH} (a : onX x h h') (b : onX x h' h'') : onX x h h'' := fun q hq => (b q hq).trans (a q hq)
theorem onlyS.toX {x : Nat} {h h' : PH} (a : onlyS (x + 1) h h') : onX x h h' := fun q hq => a q (by omega)
theorem onlyS.toX2 {x : Nat} {h h' : PH} (a : onlyS (x + 16) h h') : onX x h h' := fun q hq => a q (by omega)
theorem onlyH.toX {x : Nat} {h h' : PH} (a : onlyH (x + 31) h h') : onX x h h' := fun q hq => a q (by omega)
theorem onlyT.toX {x : Nat} {h h' : PH} (a : onlyT (x + 123) h h') : onX x h h' := fun q hq => a q (by omega)
theorem chg.toX {x : Nat} {h h' : PH} (a : chg (x + 125) h h') : onX x h h' := fun q hq => a q (by omega)
section MainFrames
variable {h h' : PH} {x : Nat} {A : AAt}
theorem jR.sam {r : Nat} (H : jR h r) (h1 : ∀ b, r ≤ b → b < r + 3 → h' b = h b) : jR h' r := by
  obtain ⟨l, c, cf, off, A1⟩ := H
  exact ⟨l, c, cf, off, (h1 _ (by omega) (by omega)).trans A1.1, (h1 _ (by omega) (by omega)).trans A1.2.1, (h1 _ (by omega) (by omega)).trans A1.2.2⟩
theorem repC.now {T : TTt} (W : wfA A) (H : repC h x A) (ho : onlyS (x + 1) h h') (hT : repT h' (x + 1) T) : repC h' x (T, A.2) := by
  obtain ⟨H1, H2, H3, H4, H5, H6, H7⟩ := H
  obtain ⟨W1, W2, W3, W4, W5⟩ := W
  exact ⟨(ho x (by omega)).trans H1, hT, H3.same (ho.same (by omega)), fun T hT => repS.same (W4 T hT).2.1 (H4 T hT) (ho.same (by omega)), repH.same W2 W3 H5 (fun b b1 b2 => ho b (by omega)), H6.same (fun b b1 b2 => ho b (by omega)), H7.sam (fun b b1 b2 => ho b (by omega))⟩
theorem repC.draft (W : wfA A) (H : repC h x A) (ho : chg (x + 125) h h') (hJ : jR h' (x + 125)) : repC h' x A := by
  obtain ⟨H1, H2, H3, H4, H5, H6, H7⟩ := H
  obtain ⟨W1, W2, W3, W4, W5⟩ := W
  exact ⟨(ho x (by omega)).trans H1, repS.same W1.2.1 H2 (fun b b1 b2 => ho b (by omega)), H3.same (fun b b1 b2 => ho b (by omega)), fun T hT => repS.same (W4 T hT).2.1 (H4 T hT) (fun b b1 b2 => ho b (by omega)), repH.same W2 W3 H5 (fun b b1 b2 => ho b (by omega)), H6.same (fun b b1 b2 => ho b (by omega)), hJ⟩
theorem repC.text {B : List Nat} (W : wfA A) (H : repC h x A) (ho : onlyT (x + 123) h h') (hB : repX h' (x + 123) B) : repC h' x (A.1, A.2.1, A.2.2.1, B) := by
  obtain ⟨H1, H2, H3, H4, H5, H6, H7⟩ := H
  obtain ⟨W1, W2, W3, W4, W5⟩ := W
  exact ⟨(ho x (by omega)).trans H1, repS.same W1.2.1 H2 (fun b b1 b2 => ho b (by omega)), H3.same (fun b b1 b2 => ho b (by omega)), fun T hT => repS.same (W4 T hT).2.1 (H4 T hT) (fun b b1 b2 => ho b (by omega)), repH.same W2 W3 H5 (fun b b1 b2 => ho b (by omega)), hB, H7.sam (fun b b1 b2 => ho b (by omega))⟩
theorem repC.hist {S : List TTt} (W : wfA A) (H : repC h x A) (ho : onlyH (x + 31) h h') (hS : repH h' (x + 31) S) : repC h' x (A.1, S, A.2.2) := by
  obtain ⟨H1, H2, H3, H4, H5, H6, H7⟩ := H
  obtain ⟨W1, W2, W3, W4, W5⟩ := W
  exact ⟨(ho x (by omega)).trans H1, repS.same W1.2.1 H2 (fun b b1 b2 => ho b (by omega)), H3.same (fun b b1 b2 => ho b (by omega)), fun T hT => repS.same (W4 T hT).2.1 (H4 T hT) (fun b b1 b2 => ho b (by omega)), hS, H6.same (fun b b1 b2 => ho b (by omega)), H7.sam (fun b b1 b2 => ho b (by omega))⟩
theorem repC.out (W : wfA A) (H : repC h x A) (ho : ∀ b, x ≤ b → b < x + 128 → h' b = h b) : repC h' x A := by
  obtain ⟨H1, H2, H3, H4, H5, H6, H7⟩ := H
  obtain ⟨W1, W2, W3, W4, W5⟩ := W
  exact ⟨(ho x (by omega) (by omega)).trans H1, repS.same W1.2.1 H2 (fun b b1 b2 => ho b (by omega) (by omega)), H3.same (fun b b1 b2 => ho b (by omega) (by omega)), fun T hT => repS.same (W4 T hT).2.1 (H4 T hT) (fun b b1 b2 => ho b (by omega) (by omega)), repH.same W2 W3 H5 (fun b b1 b2 => ho b (by omega) (by omega)), H6.same (fun b b1 b2 => ho b (by omega) (by omega)), H7.sam (fun b b1 b2 => ho b (by omega) (by omega))⟩
/-- the state before is saved -/
def svA (A : AAt) : AAt := (A.1, savA A.2.1 A.1, A.2.2)
theorem savA_len {S : List TTt} {T : TTt} (h : S.length ≤ 6) : (savA S T).length ≤ 6 := by
  unfold savA
  rw [List.length_append]
  split
  · show S.length + 1 ≤ 6; omega
  · rw [List.length_drop]; show S.length - 1 + 1 ≤ 6; omega
theorem savA_mem {S : List TTt} {T T' : TTt} (h : T' ∈ savA S T) : T' ∈ S ∨ T' = T := by
  unfold savA at h
  rcases List.mem_append.mp h with h1 | h1
  · split at h1
    · exact Or.inl h1
    · exact Or.inl (List.mem_of_mem_drop h1)
  · exact Or.inr (List.mem_singleton.mp h1)
theorem wfA.sv (W : wfA A) : wfA (svA A) := by
  obtain ⟨W1, W2, W3, W4, W5⟩ := W
  refine ⟨W1, fun T hT => ?_, savA_len W3, W4, W5⟩
  rcases savA_mem hT with h1 | h1
  · exact W2 T h1
  · rw [h1]; exact W1
theorem wfA.put (W : wfA A) {T : TTt} (WT : wfT T) : wfA (T, A.2) := ⟨WT, W.2⟩
theorem C_save (W : wfA A) (H : repC h x A) : ∃ h', f_X0_save h (x + 31) (x + 1) = some h' ∧ repC h' x (svA A) ∧ onlyH (x + 31) h h' := by
  obtain ⟨h', e1, e2, e3⟩ := H_save W.2.1 W.2.2.1 H.2.2.2.2.1 W.1 H.2.1 (by omega)
  exact ⟨h', e1, H.hist W e3 e2, e3⟩
theorem cSt.kp {s n : Nat} {c1 c2 c3 : Int32} {gf : Nat → Int32} {rf : Nat → Option Nat} (H1 : cSt h s n c1 c2 c3 gf rf) (h1 : ∀ b, s ≤ b → b < s + 3 → h' b = h b) : cSt h' s n c1 c2 c3 gf rf :=
  ⟨(h1 _ (by omega) (by omega)).trans H1.1, (h1 _ (by omega) (by omega)).trans H1.2.1, (h1 _ (by omega) (by omega)).trans H1.2.2⟩
theorem ropeAt_kp {s : Nat} {g : Nat → Nat} {R : RRt} {c1 c2 c3 : Int32} (H : repS h s g R c1 c2 c3) (hn : R.length ≤ 4) (h1 : ∀ b, s ≤ b → b < s + 3 → h' b = h b) {i : Nat} (hi : i < R.length) : f_X3_ropeAt h' s (nI i) = f_X3_ropeAt h s (nI i) := by
  obtain ⟨gf, rf, π, H1, -⟩ := H
  rw [X3_ropeAt H1 hn hi, X3_ropeAt (H1.kp h1) hn hi]
theorem gapAt_kp {s : Nat} {g : Nat → Nat} {R : RRt} {c1 c2 c3 : Int32} (H : repS h s g R c1 c2 c3) (h1 : ∀ b, s ≤ b → b < s + 3 → h' b = h b) {u : Nat} (hu : u < 8) : f_X3_gapAt h' s (nI u) = some (nI (g u)) := by
  obtain ⟨gf, rf, π, H1, H2, -⟩ := H
  rw [X3_gapAt (H1.kp h1) hu, H2 u hu]
end MainFrames
section MainAsks
variable {h : PH} {x : Nat} {A : AAt} {k : Int32}
theorem C_hue_ok (H : cX h x k) {u : Nat} (hu : u < 8) : f_X5_requireHue h x (nI u) = some (.ok ()) := by
  have c1 : ¬ nI u < 0 := nI_pos (by omega)
  have c2 : nI u < (8 : Int32) := nI_lt (b := 8) hu (by omega)
  simp only [f_X5_requireHue, H.ok, if_true, if_neg c1, if_pos c2]
theorem C_hue_no (H : cX h x k) {a : Int32} (ha : rng 8 a = none) : f_X5_requireHue h x a = some (.error eIO) := by
  rcases rng_none ha with c1 | ⟨c1, c2⟩
  · simp only [f_X5_requireHue, f_X5_requireHue_J10, H.ok, if_true, if_pos c1]
  · have c3 : ¬ a < (8 : Int32) := Int32.not_lt.mpr c2
    simp only [f_X5_requireHue, f_X5_requireHue_J10, H.ok, if_true, if_neg c1, if_neg c3]
theorem C_len_ok (H : cX h x k) {n : Nat} (h1 : 1 ≤ n) (h2 : n ≤ 60) : f_X5_requireLength h x (nI n) = some (.ok ()) := by
  have c1 : ¬ nI n < (1 : Int32) := nI_nlt (b := 1) h1 (by omega)
  have c2 : nI n ≤ (60 : Int32) := nI_le (b := 60) h2 (by omega)
  simp only [f_X5_requireLength, H.ok, if_true, if_neg c1, if_pos c2]
/-- a number from lo to hi -/
def btw (lo hi : Nat) (a : Int32) : Option Nat := match rng (hi + 1) a with
  | some n => if lo ≤ n then some n else none
  | none => none
theorem btw_some {lo hi n : Nat} {a : Int32} (hn : hi < 2 ^ 31 - 1) (h : btw lo hi a = some n) : lo ≤ n ∧ n ≤ hi ∧ a = nI n := by
  unfold btw at h
  cases hr : rng (hi + 1) a with
  | none => rw [hr] at h; cases h
  | some m =>
    rw [hr] at h
    dsimp only at h
    by_cases hl : lo ≤ m
    · rw [if_pos hl] at h
      cases h
      obtain ⟨h1, h2⟩ := rng_some (by omega) hr
      exact ⟨hl, by omega, h2⟩
    · rw [if_neg hl] at h; cases h
theorem btw_none {lo hi : Nat} {a : Int32} (hl : lo ≤ hi + 1) (hn : hi < 2 ^ 31 - 1) (h : btw lo hi a = none) : a < nI lo ∨ (¬ a < nI lo ∧ ¬ a ≤ nI hi) := by
  unfold btw at h
  by_cases h1 : a < nI lo
  · exact Or.inl h1
  · refine Or.inr ⟨h1, fun h2 => ?_⟩
    have h3 : ¬ a < 0 := fun q => h1 (Int32.lt_of_lt_of_le q (nI_pos' (by omega)))
    obtain ⟨j, hj, rfl⟩ := nI_of h3
    have h4 : j ≤ hi := (nI_leI hj (by omega)).mp h2
    have h5 : lo ≤ j := by
      rcases Nat.lt_or_ge j lo with q | q
      · exact absurd (nI_lt q (by omega)) h1
      · exact q
    rw [rng_of (show j < hi + 1 by omega) (by omega)] at h
    dsimp only at h
    rw [if_pos h5] at h
    cases h
theorem C_len_no (H : cX h x k) {a : Int32} (ha : btw 1 60 a = none) : f_X5_requireLength h x a = some (.error eIA) := by
  rcases btw_none (by omega) (by omega) ha with c1 | ⟨c1, c2⟩
  · have c1 : a < (1 : Int32) := c1
    simp only [f_X5_requireLength, f_X5_requireLength_J11, H.ok, if_true, if_pos c1]
  · have c1 : ¬ a < (1 : Int32) := c1
    have c2 : ¬ a ≤ (60 : Int32) := c2
    simp only [f_X5_requireLength, f_X5_requireLength_J11, H.ok, if_true, if_neg c1, if_neg c2]
theorem C_what_ok (H : cX h x k) {n m : Nat} (h1 : n < m) (h2 : m < 2 ^ 31) : f_X5_requireWhat h x (nI n) (nI m) = some (.ok ()) := by
  have c1 : ¬ nI n < 0 := nI_pos (by omega)
  have c2 : nI n < nI m := nI_lt h1 h2
  simp only [f_X5_requireWhat, H.ok, if_true, if_neg c1, if_pos c2]
theorem C_what_no (H : cX h x k) {a : Int32} {m : Nat} (ha : rng m a = none) : f_X5_requireWhat h x a (nI m) = some (.error eIA) := by
  rcases rng_none ha with c1 | ⟨c1, c2⟩
  · simp only [f_X5_requireWhat, f_X5_requireWhat_J9, H.ok, if_true, if_pos c1]
  · have c3 : ¬ a < nI m := Int32.not_lt.mpr c2
    simp only [f_X5_requireWhat, f_X5_requireWhat_J9, H.ok, if_true, if_neg c1, if_neg c3]
theorem C_phase_ok (H : cX h x k) {g : Nat → Nat} {R : RRt} {c1 c2 c3 : Int32} (HS : repS h (x + 1) g R c1 c2 c3) {u p : Nat} (hu : u < 8) (hp : p < g u) (hg : g u ≤ 20) : f_X5_requirePhase h x (nI u) (nI p) = some (.ok ()) := by
  have c1 : ¬ nI p < 0 := nI_pos (by omega)
  have c2 : nI p < nI (g u) := nI_lt hp (by omega)
  simp only [f_X5_requirePhase, H.ok, H.r0, if_true, Option.bind_some, if_neg c1, S_gapAt HS hu, if_pos c2]
theorem C_phase_no (H : cX h x k) {g : Nat → Nat} {R : RRt} {c1 c2 c3 : Int32} (HS : repS h (x + 1) g R c1 c2 c3) {u : Nat} (hu : u < 8) {a : Int32} (ha : rng (g u) a = none) : f_X5_requirePhase h x (nI u) a = some (.error eIA) := by
  rcases rng_none ha with c1 | ⟨c1, c2⟩
  · simp only [f_X5_requirePhase, f_X5_requirePhase_J16, H.ok, if_true, if_pos c1]
  · have c3 : ¬ a < nI (g u) := Int32.not_lt.mpr c2
    simp only [f_X5_requirePhase, f_X5_requirePhase_J16, H.ok, H.r0, if_true, Option.bind_some, if_neg c1, S_gapAt HS hu, if_neg c3]
theorem C_room_ok (H : cX h x k) {g : Nat → Nat} {R : RRt} {c1 c2 c3 : Int32} (HS : repS h (x + 1) g R c1 c2 c3) (hR : R.length < 4) : f_X5_requireRoomForRope h x = some (.ok ()) := by
  have c2 : nI R.length < (4 : Int32) := nI_lt (b := 4) hR (by omega)
  simp only [f_X5_requireRoomForRope, H.ok, H.r0, if_true, Option.bind_some, S_ropeCount HS, if_pos c2]
theorem C_room_no (H : cX h x k) {g : Nat → Nat} {R : RRt} {c1 c2 c3 : Int32} (HS : repS h (x + 1) g R c1 c2 c3) (hR : R.length = 4) : f_X5_requireRoomForRope h x = some (.error eIS) := by
  have c2 : ¬ nI R.length < (4 : Int32) := nI_nlt (b := 4) (by omega) (by omega)
  simp only [f_X5_requireRoomForRope, H.ok, H.r0, if_true, Option.bind_some, S_ropeCount HS, if_neg c2]
theorem C_existing (H : cX h x k) {g : Nat → Nat} {R : RRt} {c1 c2 c3 : Int32} (W : wfS g R) (HS : repS h (x + 1) g R c1 c2 c3) {i : Nat} {X : Nat × List (Nat × Nat)} (hi : R[i]? = some X) : ∃ r, f_X5_existing h x (nI i) = some (.ok r) ∧ f_X3_ropeAt h (x + 1) (nI i) = some (some r) ∧ repR g h r X.1 X.2 ∧ x + 4 ≤ r ∧ r + 3 ≤ x + 16 := by
  obtain ⟨r, e1, e2, e3, e4⟩ := S_ropeAt W HS hi
  refine ⟨r, ?_, e1, e2, by omega, by omega⟩
  simp only [f_X5_existing, H.ok, H.r0, if_true, Option.bind_some, e1]
theorem C_existing_no (H : cX h x k) {g : Nat → Nat} {R : RRt} {c1 c2 c3 : Int32} (HS : repS h (x + 1) g R c1 c2 c3) {a : Int32} (ha : rng R.length a = none) : f_X5_existing h x a = some (.error eIO) := by
  have e1 := S_ropeAt_no HS (x := a) ((rng_none ha).imp_right And.right)
  simp only [f_X5_existing, H.ok, H.r0, if_true, Option.bind_some, e1]
end MainAsks
