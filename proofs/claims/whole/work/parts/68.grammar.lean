/-! PURE READING, 37: ropes as a text: one part of it -/
/-- the part at a: its kind, two numbers and its end, or where it is wrong -/
def prt (B : List Nat) (a : Nat) : Except Nat (Nat × Nat × Nat × Nat) :=
  if B.getD a 0 = 114 then
    (if 49 ≤ B.getD (a + 1) 0 ∧ B.getD (a + 1) 0 ≤ 57 then
      (if (48 ≤ B.getD (a + 2) 0 ∧ B.getD (a + 2) 0 ≤ 57) ∧ 10 * (B.getD (a + 1) 0 - 48) + (B.getD (a + 2) 0 - 48) ≤ 60 then .ok (114, 10 * (B.getD (a + 1) 0 - 48) + (B.getD (a + 2) 0 - 48), 0, a + 3) else .ok (114, B.getD (a + 1) 0 - 48, 0, a + 2))
    else .error (a + 1))
  else if 97 ≤ B.getD a 0 ∧ B.getD a 0 ≤ 104 then
    (if 48 ≤ B.getD (a + 1) 0 ∧ B.getD (a + 1) 0 ≤ 57 then
      (if (48 ≤ B.getD (a + 2) 0 ∧ B.getD (a + 2) 0 ≤ 57) ∧ 0 < B.getD (a + 1) 0 - 48 ∧ 10 * (B.getD (a + 1) 0 - 48) + (B.getD (a + 2) 0 - 48) ≤ 19 then .ok (97, B.getD a 0 - 97, 10 * (B.getD (a + 1) 0 - 48) + (B.getD (a + 2) 0 - 48), a + 3) else .ok (97, B.getD a 0 - 97, B.getD (a + 1) 0 - 48, a + 2))
    else .error (a + 1))
  else if B.getD a 0 = 45 then
    (if 97 ≤ B.getD (a + 1) 0 ∧ B.getD (a + 1) 0 ≤ 104 then .ok (45, B.getD (a + 1) 0 - 97, 0, a + 2) else .error (a + 1))
  else if B.getD a 0 = 60 then .ok (60, 0, 0, a + 1)
  else .error a
/-- the states in which a text can end -/
def endS (d : Nat) : Bool := decide (d = 4 ∨ d = 5 ∨ d = 6)
theorem gr_1 : ∀ d : Fin 127, (49 ≤ (d : Nat) ∧ (d : Nat) ≤ 57 → endS (dueN 1 d) = true) ∧ (¬ (49 ≤ (d : Nat) ∧ (d : Nat) ≤ 57) → dueN 1 d = 7) := by decide +kernel
theorem gr_2 : ∀ d : Fin 127, (48 ≤ (d : Nat) ∧ (d : Nat) ≤ 57 → endS (dueN 2 d) = true) ∧ (¬ (48 ≤ (d : Nat) ∧ (d : Nat) ≤ 57) → dueN 2 d = 7) := by decide +kernel
theorem gr_3 : ∀ d : Fin 127, (97 ≤ (d : Nat) ∧ (d : Nat) ≤ 104 → dueN 3 d = 6) ∧ (¬ (97 ≤ (d : Nat) ∧ (d : Nat) ≤ 104) → dueN 3 d = 7) := by decide +kernel
theorem gr_12 : ∀ d f : Fin 127, 49 ≤ (d : Nat) ∧ (d : Nat) ≤ 57 → (((48 ≤ (f : Nat) ∧ (f : Nat) ≤ 57) ∧ 10 * ((d : Nat) - 48) + ((f : Nat) - 48) ≤ 60 → dueN (dueN 1 d) f = 6) ∧ (¬ ((48 ≤ (f : Nat) ∧ (f : Nat) ≤ 57) ∧ 10 * ((d : Nat) - 48) + ((f : Nat) - 48) ≤ 60) → dueN (dueN 1 d) f = if (f : Nat) = 44 then 0 else 7)) := by decide +kernel
theorem gr_22 : ∀ d f : Fin 127, 48 ≤ (d : Nat) ∧ (d : Nat) ≤ 57 → (((48 ≤ (f : Nat) ∧ (f : Nat) ≤ 57) ∧ 0 < (d : Nat) - 48 ∧ 10 * ((d : Nat) - 48) + ((f : Nat) - 48) ≤ 19 → dueN (dueN 2 d) f = 6) ∧ (¬ ((48 ≤ (f : Nat) ∧ (f : Nat) ≤ 57) ∧ 0 < (d : Nat) - 48 ∧ 10 * ((d : Nat) - 48) + ((f : Nat) - 48) ≤ 19) → dueN (dueN 2 d) f = if (f : Nat) = 44 then 0 else 7)) := by decide +kernel
theorem gr_6 (c : Nat) : dueN 6 c = if c = 44 then 0 else 7 := rfl
/-- what a reading of a part tells of the states -/
def grm (B : List Nat) (a : Nat) : Except Nat (Nat × Nat × Nat × Nat) → Prop
  | .error w => a ≤ w ∧ w ≤ B.length ∧ (w < B.length → dueS B (w + 1) = 7) ∧ (∀ j, a < j → j ≤ w → ¬ dueS B j = 7) ∧ (w = B.length → endS (dueS B w) = false)
  | .ok v => a < v.2.2.2 ∧ v.2.2.2 ≤ B.length ∧ (∀ j, a < j → j ≤ v.2.2.2 → ¬ dueS B j = 7) ∧ endS (dueS B v.2.2.2) = true ∧ (∀ j, a ≤ j → j < v.2.2.2 → ¬ B.getD j 0 = 44) ∧ (v.2.2.2 < B.length → dueS B (v.2.2.2 + 1) = if B.getD v.2.2.2 0 = 44 then 0 else 7)
theorem getD_lt {B : List Nat} {j : Nat} (h : ¬ B.getD j 0 = 0) : j < B.length := by
  rcases Nat.lt_or_ge j B.length with c | c
  · exact c
  · rw [List.getD_eq_getElem?_getD, List.getElem?_eq_none c] at h
    exact absurd rfl h
theorem getD_126 {B : List Nat} (W : wfX B) (j : Nat) : B.getD j 0 < 127 := by
  rcases Nat.lt_or_ge j B.length with c | c
  · have := getD_le W c; omega
  · rw [List.getD_eq_getElem?_getD, List.getElem?_eq_none c]
    show 0 < 127
    omega
theorem dueS_s (B : List Nat) (n : Nat) : dueS B (n + 1) = dueN (dueS B n) (B.getD n 0) := rfl
theorem endS_7 {d : Nat} (h : endS d = true) : ¬ d = 7 := by
  unfold endS at h
  have := of_decide_eq_true h
  omega
theorem prt_grm {B : List Nat} (W : wfX B) {a : Nat} (ha : a ≤ B.length) (h0 : dueS B a = 0) : grm B a (prt B a) := by
  have hc := getD_126 W a
  have hd := getD_126 W (a + 1)
  have hf := getD_126 W (a + 2)
  have s1 : dueS B (a + 1) = dueN 0 (B.getD a 0) := by rw [dueS_s, h0]
  have s2 := dueS_s B (a + 1)
  have s3 := dueS_s B (a + 2)
  have s4 := dueS_s B (a + 3)
  unfold prt
  by_cases c1 : B.getD a 0 = 114
  · rw [if_pos c1]
    have la : a < B.length := getD_lt (by omega)
    have t1 : dueS B (a + 1) = 1 := by rw [s1, c1]; rfl
    rw [t1] at s2
    by_cases c2 : 49 ≤ B.getD (a + 1) 0 ∧ B.getD (a + 1) 0 ≤ 57
    · rw [if_pos c2]
      have lb : a + 1 < B.length := getD_lt (by omega)
      have g1 := (gr_1 ⟨_, hd⟩).1 c2
      have g2 := gr_12 ⟨_, hd⟩ ⟨_, hf⟩ c2
      dsimp only at g1 g2
      rw [← s2] at g1 g2
      rw [← s3] at g2
      by_cases c3 : (48 ≤ B.getD (a + 2) 0 ∧ B.getD (a + 2) 0 ≤ 57) ∧ 10 * (B.getD (a + 1) 0 - 48) + (B.getD (a + 2) 0 - 48) ≤ 60
      · rw [if_pos c3]
        have lc : a + 2 < B.length := getD_lt (by omega)
        have t3 : dueS B (a + 3) = 6 := g2.1 c3
        refine ⟨by show a < a + 3; omega, by show a + 3 ≤ _; omega, fun j j1 j2 => ?_, by show endS (dueS B (a + 3)) = true; rw [t3]; rfl, fun j j1 j2 => ?_, fun _ => by show dueS B (a + 3 + 1) = _; rw [s4, t3]; rfl⟩
        · have j2 : j ≤ a + 3 := j2
          have e7 := endS_7 g1
          rcases (show j = a + 1 ∨ j = a + 2 ∨ j = a + 3 by omega) with rfl | rfl | rfl
          · omega
          · exact e7
          · omega
        · have j2 : j < a + 3 := j2
          rcases (show j = a ∨ j = a + 1 ∨ j = a + 2 by omega) with rfl | rfl | rfl <;> omega
      · rw [if_neg c3]
        have t3 := g2.2 c3
        refine ⟨by show a < a + 2; omega, by show a + 2 ≤ _; omega, fun j j1 j2 => ?_, g1, fun j j1 j2 => ?_, fun _ => t3⟩
        · have j2 : j ≤ a + 2 := j2
          have e7 := endS_7 g1
          rcases (show j = a + 1 ∨ j = a + 2 by omega) with rfl | rfl
          · omega
          · exact e7
        · have j2 : j < a + 2 := j2
          rcases (show j = a ∨ j = a + 1 by omega) with rfl | rfl <;> omega
    · rw [if_neg c2]
      have g1 := (gr_1 ⟨_, hd⟩).2 c2
      dsimp only at g1
      rw [← s2] at g1
      refine ⟨Nat.le_add_right _ _, by omega, fun _ => g1, fun j j1 j2 => ?_, fun _ => ?_⟩
      · rcases (show j = a + 1 by omega) with rfl
        omega
      · show endS (dueS B (a + 1)) = false
        rw [t1]; rfl
  · rw [if_neg c1]
    by_cases c2 : 97 ≤ B.getD a 0 ∧ B.getD a 0 ≤ 104
    · rw [if_pos c2]
      have la : a < B.length := getD_lt (by omega)
      have t1 : dueS B (a + 1) = 2 := by
        rw [s1]
        unfold dueN
        rw [if_pos rfl, if_pos c2]
      rw [t1] at s2
      by_cases c3 : 48 ≤ B.getD (a + 1) 0 ∧ B.getD (a + 1) 0 ≤ 57
      · rw [if_pos c3]
        have lb : a + 1 < B.length := getD_lt (by omega)
        have g1 := (gr_2 ⟨_, hd⟩).1 c3
        have g2 := gr_22 ⟨_, hd⟩ ⟨_, hf⟩ c3
        dsimp only at g1 g2
        rw [← s2] at g1 g2
        rw [← s3] at g2
        by_cases c4 : (48 ≤ B.getD (a + 2) 0 ∧ B.getD (a + 2) 0 ≤ 57) ∧ 0 < B.getD (a + 1) 0 - 48 ∧ 10 * (B.getD (a + 1) 0 - 48) + (B.getD (a + 2) 0 - 48) ≤ 19
        · rw [if_pos c4]
          have lc : a + 2 < B.length := getD_lt (by omega)
          have t3 : dueS B (a + 3) = 6 := g2.1 c4
          refine ⟨by show a < a + 3; omega, by show a + 3 ≤ _; omega, fun j j1 j2 => ?_, by show endS (dueS B (a + 3)) = true; rw [t3]; rfl, fun j j1 j2 => ?_, fun _ => by show dueS B (a + 3 + 1) = _; rw [s4, t3]; rfl⟩
          · have j2 : j ≤ a + 3 := j2
            have e7 := endS_7 g1
            rcases (show j = a + 1 ∨ j = a + 2 ∨ j = a + 3 by omega) with rfl | rfl | rfl
            · omega
            · exact e7
            · omega
          · have j2 : j < a + 3 := j2
            rcases (show j = a ∨ j = a + 1 ∨ j = a + 2 by omega) with rfl | rfl | rfl <;> omega
        · rw [if_neg c4]
          have t3 := g2.2 c4
          refine ⟨by show a < a + 2; omega, by show a + 2 ≤ _; omega, fun j j1 j2 => ?_, g1, fun j j1 j2 => ?_, fun _ => t3⟩
          · have j2 : j ≤ a + 2 := j2
            have e7 := endS_7 g1
            rcases (show j = a + 1 ∨ j = a + 2 by omega) with rfl | rfl
            · omega
            · exact e7
          · have j2 : j < a + 2 := j2
            rcases (show j = a ∨ j = a + 1 by omega) with rfl | rfl <;> omega
      · rw [if_neg c3]
        have g1 := (gr_2 ⟨_, hd⟩).2 c3
        dsimp only at g1
        rw [← s2] at g1
        refine ⟨Nat.le_add_right _ _, by omega, fun _ => g1, fun j j1 j2 => ?_, fun _ => ?_⟩
        · rcases (show j = a + 1 by omega) with rfl
          omega
        · show endS (dueS B (a + 1)) = false
          rw [t1]; rfl
    · rw [if_neg c2]
      by_cases c3 : B.getD a 0 = 45
      · rw [if_pos c3]
        have la : a < B.length := getD_lt (by omega)
        have t1 : dueS B (a + 1) = 3 := by rw [s1, c3]; rfl
        rw [t1] at s2
        by_cases c4 : 97 ≤ B.getD (a + 1) 0 ∧ B.getD (a + 1) 0 ≤ 104
        · rw [if_pos c4]
          have lb : a + 1 < B.length := getD_lt (by omega)
          have g1 := (gr_3 ⟨_, hd⟩).1 c4
          dsimp only at g1
          rw [← s2] at g1
          have g1 : dueS B (a + 2) = 6 := g1
          refine ⟨by show a < a + 2; omega, by show a + 2 ≤ _; omega, fun j j1 j2 => ?_, by show endS (dueS B (a + 2)) = true; rw [g1]; rfl, fun j j1 j2 => ?_, fun _ => by show dueS B (a + 2 + 1) = _; rw [s3, g1]; rfl⟩
          · have j2 : j ≤ a + 2 := j2
            rcases (show j = a + 1 ∨ j = a + 2 by omega) with rfl | rfl <;> omega
          · have j2 : j < a + 2 := j2
            rcases (show j = a ∨ j = a + 1 by omega) with rfl | rfl <;> omega
        · rw [if_neg c4]
          have g1 := (gr_3 ⟨_, hd⟩).2 c4
          dsimp only at g1
          rw [← s2] at g1
          refine ⟨Nat.le_add_right _ _, by omega, fun _ => g1, fun j j1 j2 => ?_, fun _ => ?_⟩
          · rcases (show j = a + 1 by omega) with rfl
            omega
          · show endS (dueS B (a + 1)) = false
            rw [t1]; rfl
      · rw [if_neg c3]
        by_cases c4 : B.getD a 0 = 60
        · rw [if_pos c4]
          have la : a < B.length := getD_lt (by omega)
          have t1 : dueS B (a + 1) = 6 := by rw [s1, c4]; rfl
          rw [t1] at s2
          refine ⟨by show a < a + 1; omega, by show a + 1 ≤ _; omega, fun j j1 j2 => ?_, by show endS (dueS B (a + 1)) = true; rw [t1]; rfl, fun j j1 j2 => ?_, fun _ => by show dueS B (a + 1 + 1) = _; rw [s2]; rfl⟩
          · have j2 : j ≤ a + 1 := j2
            rcases (show j = a + 1 by omega) with rfl
            omega
          · have j2 : j < a + 1 := j2
            rcases (show j = a by omega) with rfl
            omega
        · rw [if_neg c4]
          refine ⟨Nat.le_refl _, ha, fun _ => ?_, fun j j1 j2 => by omega, fun _ => ?_⟩
          · rw [s1]
            unfold dueN
            rw [if_pos rfl, if_neg c2, if_neg c3, if_neg c4, if_neg c1]
          · rw [h0]; rfl
theorem dueS_stay {B : List Nat} {j : Nat} (h : dueS B j = 7) : ∀ k, dueS B (j + k) = 7 := by
  intro k
  induction k with
  | zero => exact h
  | succ k ih => rw [← Nat.add_assoc, dueS_s, ih]; rfl
/-- what stands at the begin of a part -/
def beg (B : List Nat) (a : Nat) : Prop := a ≤ B.length ∧ dueS B a = 0 ∧ ∀ j, j ≤ a → ¬ dueS B j = 7
theorem beg_0 (B : List Nat) : beg B 0 := ⟨Nat.zero_le _, rfl, fun j hj => by rw [show j = 0 by omega]; show ¬ (0 : Nat) = 7; omega⟩
theorem err_at {B : List Nat} {w : Nat} (hw : w < B.length) (h1 : dueS B (w + 1) = 7) (h2 : ∀ j, j ≤ w → ¬ dueS B j = 7) : errA B = w ∧ endS (dueS B B.length) = false := by
  constructor
  · unfold errA
    rw [fst9_of (Nat.zero_le w) (by omega) (by simpa using h1) (fun i _ hi => by simpa using h2 (i + 1) (by omega))]
    rfl
  · have := dueS_stay h1 (B.length - (w + 1))
    rw [show w + 1 + (B.length - (w + 1)) = B.length by omega] at this
    rw [this]
    rfl
theorem err_no {B : List Nat} (h2 : ∀ j, j ≤ B.length → ¬ dueS B j = 7) : errA B = B.length := by
  unfold errA
  rw [fst9_of_none (fun i _ hi => by simpa using h2 (i + 1) (by omega))]
  rfl
/-- the numbers of a part are in their ranges -/
theorem prt_rng {B : List Nat} {a kd f s e : Nat} (h : prt B a = .ok (kd, f, s, e)) : (kd = 114 ∧ 1 ≤ f ∧ f ≤ 60 ∧ s = 0) ∨ (kd = 97 ∧ f < 8 ∧ s < 20) ∨ (kd = 45 ∧ f < 8 ∧ s = 0) ∨ (kd = 60 ∧ s = 0) := by
  unfold prt at h
  split at h
  · split at h
    · split at h
      · cases h; left; omega
      · cases h; left; omega
    · cases h
  · split at h
    · split at h
      · split at h
        · cases h; right; left; omega
        · cases h; right; left; omega
      · cases h
    · split at h
      · split at h
        · cases h; right; right; left; omega
        · cases h
      · split at h
        · cases h; right; right; right; omega
        · cases h
/-- what a part does -/
def doA (T : TTt) (kd f s : Nat) : Option TTt :=
  if kd = 114 then (if T.2.1.length = 4 then none else some (T.1, T.2.1 ++ [(f, [])], T.2.2))
  else if T.2.1.length = 0 then none
  else if kd = 97 then (if s < T.1 f ∧ whyA T.1 (atR T.2.1 (T.2.1.length - 1)).1 (atR T.2.1 (T.2.1.length - 1)).2 f s = 0 then some (T.1, T.2.1.set (T.2.1.length - 1) ((atR T.2.1 (T.2.1.length - 1)).1, (atR T.2.1 (T.2.1.length - 1)).2 ++ [(f, s)]), T.2.2.1 + 1, T.2.2.2) else none)
  else if kd = 45 then (match phs (atR T.2.1 (T.2.1.length - 1)).2 f with
    | none => none
    | some _ => some (T.1, T.2.1.set (T.2.1.length - 1) ((atR T.2.1 (T.2.1.length - 1)).1, (atR T.2.1 (T.2.1.length - 1)).2.filter (fun q => decide (¬ q.1 = f))), T.2.2))
  else some (T.1, T.2.1.set (T.2.1.length - 1) (trnA T.1 (atR T.2.1 (T.2.1.length - 1))), T.2.2)
theorem doA_wf {T T' : TTt} (W : wfT T) {kd f s : Nat} (hr : (kd = 114 ∧ 1 ≤ f ∧ f ≤ 60 ∧ s = 0) ∨ (kd = 97 ∧ f < 8 ∧ s < 20) ∨ (kd = 45 ∧ f < 8 ∧ s = 0) ∨ (kd = 60 ∧ s = 0)) (h : doA T kd f s = some T') : wfT T' := by
  unfold doA at h
  split at h
  · rename_i h1
    split at h
    · cases h
    · rename_i h2
      cases h
      exact wf_rope W h2 (by omega) (by omega)
  · split at h
    · cases h
    · rename_i h1 h2
      have hi : T.2.1.length - 1 < T.2.1.length := by omega
      have WR := W.2.2 _ (atR_mem hi)
      split at h
      · split at h
        · rename_i h4
          cases h
          exact wf_set W _ (wf_lay W.1 WR (by omega) h4.1 h4.2)
        · cases h
      · split at h
        · split at h
          · cases h
          · cases h
            exact wf_set W _ (WR.sub List.filter_sublist)
        · cases h
          exact wf_set W _ (wf_turn W.1 WR)
def runT (B : List Nat) : Nat → TTt → Nat → Nat × TTt
  | 0, T, _ => (0, T)
  | k + 1, T, a => match prt B a with
    | .error _ => (0, T)
    | .ok v => match doA T v.1 v.2.1 v.2.2.1 with
      | none => (0, T)
      | some T' => if v.2.2.2 < B.length then ((runT B k T' (v.2.2.2 + 1)).1 + 1, (runT B k T' (v.2.2.2 + 1)).2) else (1, T')
def sp_play (A : AAt) : Except Nat (Int32 × AAt) := if endS (dueS A.2.2.2 A.2.2.2.length) = true then .ok (nI (runT A.2.2.2 61 A.1 0).1, (runT A.2.2.2 61 A.1 0).2, (svA A).2.1, A.2.2.1, []) else .error 1
/-- a part of a complete text is read, and then comes its end or a comma -/
theorem prt_ok {B : List Nat} (W : wfX B) {a : Nat} (hb : beg B a) (hc : endS (dueS B B.length) = true) : ∃ kd f s e, prt B a = .ok (kd, f, s, e) ∧ a < e ∧ e ≤ B.length ∧ (∀ j, a ≤ j → j < e → ¬ B.getD j 0 = 44) ∧ (e < B.length → B.getD e 0 = 44 ∧ beg B (e + 1)) := by
  have hg := prt_grm W hb.1 hb.2.1
  cases hp : prt B a with
  | error w =>
    rw [hp] at hg
    obtain ⟨g1, g2, g3, g4, g5⟩ := hg
    rcases Nat.lt_or_ge w B.length with c | c
    · have h2 := (err_at c (g3 c) (fun j hj => by
        rcases Nat.lt_or_ge a j with c2 | c2
        · exact g4 j c2 hj
        · exact hb.2.2 j c2)).2
      rw [hc] at h2
      cases h2
    · have h2 := g5 (by omega)
      rw [show w = B.length by omega, hc] at h2
      cases h2
  | ok v =>
    rw [hp] at hg
    obtain ⟨kd, f, s, e⟩ := v
    obtain ⟨g1, g2, g3, g4, g5, g6⟩ := hg
    refine ⟨kd, f, s, e, rfl, g1, g2, g5, fun he => ?_⟩
    have h2 := g6 he
    dsimp only at h2 g3
    by_cases h3 : B.getD e 0 = 44
    · rw [if_pos h3] at h2
      refine ⟨h3, by omega, h2, fun j hj => ?_⟩
      rcases Nat.lt_or_ge a j with c2 | c2
      · by_cases h4 : j = e + 1
        · rw [h4, h2]; omega
        · exact g3 j c2 (by omega)
      · exact hb.2.2 j c2
    · rw [if_neg h3] at h2
      have h5 := dueS_stay h2 (B.length - (e + 1))
      rw [show e + 1 + (B.length - (e + 1)) = B.length by omega] at h5
      rw [h5] at hc
      cases hc
