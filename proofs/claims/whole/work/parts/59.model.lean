/-! PURE READING, 28: the reference: what it tells -/
def or9 (P : Nat → Bool) : Nat → Bool
  | 0 => false
  | n + 1 => or9 P n || P n
theorem or9_fst (P : Nat → Bool) (n : Nat) : or9 P n = (fst9 P 0 n).isSome := by
  cases h : fst9 P 0 n with
  | none =>
    have h1 := fst9_none h
    have h2 : ∀ k, k ≤ n → or9 P k = false := by
      intro k
      induction k with
      | zero => intro _; rfl
      | succ k ih =>
        intro hk
        simp only [or9]
        rw [ih (by omega), h1 k (Nat.zero_le _) (by omega)]
        rfl
    exact h2 n (Nat.le_refl _)
  | some j =>
    obtain ⟨-, h1, h2, -⟩ := fst9_some h
    have h3 : ∀ k, j < k → or9 P k = true := by
      intro k
      induction k with
      | zero => intro hk; omega
      | succ k ih =>
        intro hk
        simp only [or9]
        by_cases hj : j = k
        · rw [← hj, h2, Bool.or_true]
        · rw [ih (by omega), Bool.true_or]
    exact h3 n (by omega)
/-- the least common multiple, over the hues by number -/
def prA (g : Nat → Nat) (L : List (Nat × Nat)) : Nat → Nat
  | 0 => 1
  | n + 1 => if (phs L n).isSome = true then Nat.lcm (prA g L n) (g n) else prA g L n
theorem perA_iff (g : Nat → Nat) : ∀ (L : List (Nat × Nat)) (m d : Nat), L.foldl (fun m q => Nat.lcm m (g q.1)) m ∣ d ↔ m ∣ d ∧ ∀ q ∈ L, g q.1 ∣ d := by
  intro L
  induction L with
  | nil => intro m d; simp
  | cons a L ih =>
    intro m d
    rw [List.foldl_cons, ih, Nat.lcm_dvd_iff]
    constructor
    · rintro ⟨⟨h1, h2⟩, h3⟩
      refine ⟨h1, fun q hq => ?_⟩
      rcases List.mem_cons.mp hq with h4 | h4
      · rw [h4]; exact h2
      · exact h3 q h4
    · rintro ⟨h1, h2⟩
      exact ⟨⟨h1, h2 a List.mem_cons_self⟩, fun q hq => h2 q (List.mem_cons_of_mem _ hq)⟩
theorem prA_iff (g : Nat → Nat) (L : List (Nat × Nat)) (d : Nat) : ∀ n, prA g L n ∣ d ↔ ∀ u, u < n → (phs L u).isSome = true → g u ∣ d := by
  intro n
  induction n with
  | zero =>
    constructor
    · intro _ u hu; omega
    · intro _; exact Nat.one_dvd _
  | succ n ih =>
    simp only [prA]
    split
    · rename_i h1
      rw [Nat.lcm_dvd_iff, ih]
      constructor
      · rintro ⟨h2, h3⟩ u hu h4
        by_cases h5 : u = n
        · rw [h5]; exact h3
        · exact h2 u (by omega) h4
      · intro h2
        exact ⟨fun u hu h4 => h2 u (by omega) h4, h2 n (by omega) h1⟩
    · rename_i h1
      rw [ih]
      constructor
      · intro h2 u hu h4
        by_cases h5 : u = n
        · rw [h5] at h4; exact absurd h4 h1
        · exact h2 u (by omega) h4
      · intro h2 u hu h4
        exact h2 u (by omega) h4
theorem prA_per {g : Nat → Nat} {L : List (Nat × Nat)} (W : wfQ g L) : prA g L 8 = perA g L := by
  have key : ∀ d, prA g L 8 ∣ d ↔ perA g L ∣ d := by
    intro d
    unfold perA
    rw [prA_iff, perA_iff]
    constructor
    · intro h1
      refine ⟨Nat.one_dvd _, fun q hq => h1 q.1 (W.2 q hq).1 ?_⟩
      rw [phs_of W.1 (show (q.1, q.2) ∈ L from hq)]
      rfl
    · rintro ⟨-, h1⟩ u hu h2
      cases hp : phs L u with
      | none => rw [hp] at h2; cases h2
      | some p => exact h1 _ (phs_mem hp)
  exact Nat.dvd_antisymm ((key _).mpr (Nat.dvd_refl _)) ((key _).mp (Nat.dvd_refl _))
theorem prA_dvd {g : Nat → Nat} (hg : wfg g) (L : List (Nat × Nat)) (n : Nat) : prA g L n ∣ 232792560 := by
  rw [prA_iff]
  intro u _ _
  have := hg u
  exact gap_dvd ⟨g u, by omega⟩ this.1
/-- of the numbers from a on, below n, where P holds, the first of those with the greatest weight -/
def isB (P : Nat → Bool) (w : Nat → Nat) (a n : Nat) (b : Option Nat) : Prop := match b with
  | none => ∀ p, a ≤ p → p < n → P p = false
  | some k => a ≤ k ∧ k < n ∧ P k = true ∧ ∀ p, a ≤ p → p < n → P p = true → w p ≤ w k ∧ (w p = w k → k ≤ p)
theorem isB_same {P : Nat → Bool} {w : Nat → Nat} {a n : Nat} {b c : Option Nat} (hb : isB P w a n b) (hc : isB P w a n c) : b = c := by
  match b, c, hb, hc with
  | none, none, _, _ => rfl
  | none, some k, hb, hc =>
    have h1 := hb k hc.1 hc.2.1
    rw [hc.2.2.1] at h1
    cases h1
  | some k, none, hb, hc =>
    have h1 := hc k hb.1 hb.2.1
    rw [hb.2.2.1] at h1
    cases h1
  | some k, some j, hb, hc =>
    obtain ⟨b1, b2, b3, b4⟩ := hb
    obtain ⟨c1, c2, c3, c4⟩ := hc
    obtain ⟨x1, x2⟩ := b4 j c1 c2 c3
    obtain ⟨y1, y2⟩ := c4 k b1 b2 b3
    have h1 := x2 (by omega)
    have h2 := y2 (by omega)
    rw [show k = j by omega]
theorem fil9_B {P : Nat → Bool} {w : Nat → Nat} (hw : ∀ p, P p = true → 0 < w p) : ∀ n, isB P w 0 n (fil9 P w n).1 ∧ (fil9 P w n).2 = (match (fil9 P w n).1 with | none => 0 | some k => w k) := by
  intro n
  induction n with
  | zero => exact ⟨fun p _ hp => by omega, rfl⟩
  | succ n ih =>
    obtain ⟨i1, i2⟩ := ih
    simp only [fil9]
    by_cases h1 : w n ≤ (fil9 P w n).2
    · rw [if_pos h1]
      refine ⟨?_, i2⟩
      cases hf : (fil9 P w n).1 with
      | none =>
        rw [hf] at i1 i2
        have i2 : (fil9 P w n).2 = 0 := i2
        intro p _ hp
        by_cases h3 : p = n
        · cases hP : P p with
          | false => rfl
          | true => have := hw p hP; rw [h3] at this; omega
        · exact i1 p (Nat.zero_le _) (by omega)
      | some k =>
        rw [hf] at i1 i2
        have i2 : (fil9 P w n).2 = w k := i2
        obtain ⟨k1, k2, k3, k4⟩ := i1
        refine ⟨k1, by omega, k3, fun p p1 p2 p3 => ?_⟩
        by_cases h3 : p = n
        · rw [h3]
          exact ⟨by omega, fun _ => by omega⟩
        · exact k4 p p1 (by omega) p3
    · rw [if_neg h1]
      by_cases h2 : P n = true
      · rw [if_pos h2]
        refine ⟨⟨Nat.zero_le _, by omega, h2, fun p p1 p2 p3 => ?_⟩, rfl⟩
        by_cases h3 : p = n
        · rw [h3]; exact ⟨Nat.le_refl _, fun _ => Nat.le_refl _⟩
        · cases hf : (fil9 P w n).1 with
          | none =>
            rw [hf] at i1
            rw [i1 p p1 (by omega)] at p3
            cases p3
          | some k =>
            rw [hf] at i1 i2
            have i2 : (fil9 P w n).2 = w k := i2
            obtain ⟨k1, k2, k3, k4⟩ := i1
            have := (k4 p p1 (by omega) p3).1
            exact ⟨by omega, fun q => by omega⟩
      · rw [if_neg h2]
        refine ⟨?_, i2⟩
        cases hf : (fil9 P w n).1 with
        | none =>
          rw [hf] at i1
          intro p p1 p2
          by_cases h3 : p = n
          · rw [h3]; simpa using h2
          · exact i1 p p1 (by omega)
        | some k =>
          rw [hf] at i1
          obtain ⟨k1, k2, k3, k4⟩ := i1
          refine ⟨k1, by omega, k3, fun p p1 p2 p3 => ?_⟩
          by_cases h3 : p = n
          · rw [h3] at p3; exact absurd p3 h2
          · exact k4 p p1 (by omega) p3
theorem whyA_w {g : Nat → Nat} (hg : wfg g) {len : Nat} {L : List (Nat × Nat)} {u p : Nat} (h : whyA g len L u p = 0) : p < len := by
  unfold whyA at h
  split at h
  · omega
  · split at h
    · omega
    · omega
theorem stp9_pos {len p s : Nat} (hs : 0 < s) (h : p < len) : 0 < stp9 len p s := (stp9_lt hs).mpr (by omega)
theorem nI_m1 (n : Nat) : nI (n + 1) + (-1) = nI n := by
  rw [← nI_pred n, Int32.sub_eq_add_neg]
section ModelTells
variable {h : PH} {m : Nat} {I : Nat → Int32} {F : Nat → Nat → Int32} {J : Int64} {g : Nat → Nat} {i : Nat} {X : Nat × List (Nat × Nat)}
theorem M_why (H : cM h m I F J) (hi : i < 4) (HQ : repQ (F 1) i X) (hG : ∀ u, u < 8 → F 1 u = nI (g u)) (hg : wfg g) (W : wfR g X.1 X.2) {u p : Nat} (hu : u < 8) (hp : p ≤ 100) : f_X6_why h m (nI i) (nI u) (nI p) = some (nI (whyA g X.1 X.2 u p)) := by
  have hgu := hg u
  have h60 := W.1.2
  have e1 := M_isLaid H hi HQ hg W.q hu
  unfold whyA
  simp only [f_X6_why, H.ok, if_true, e1, Option.bind_some]
  by_cases hl : (phs X.2 u).isSome = true
  · rw [hl, if_pos rfl, if_neg (by decide)]
    rfl
  · have hl2 : (phs X.2 u).isSome = false := by simpa using hl
    rw [hl2, if_pos (show bI false = 0 from rfl), if_neg (show ¬ false = true by decide)]
    simp only [H.r1, M_of0, H.l1 (show 12 + 18 * i < 84 by omega), HQ.1, Option.bind_some]
    by_cases hc : X.1 ≤ p
    · rw [if_pos hc, if_neg (nI_nlt hc (by omega))]
      rfl
    · rw [if_neg hc, if_pos (nI_lt (by omega) (by omega))]
      have hlt : ∀ i, i < stp9 X.1 p (g u) ↔ p + i * g u < X.1 := fun i => stp9_lt (by omega)
      have hsm : stp9 X.1 p (g u) ≤ X.1 := stp9_le (by omega)
      have hb : ∀ j, 0 ≤ j → j < 0 + stp9 X.1 p (g u) → f_X6_why_L33 h m (nI i) (nI u) ((fun j => (bI (or9 (fun i => decide (¬ col g X.2 (p + i * g u) = none)) j), nI (p + j * g u))) j) = some (.inl ((fun j => (bI (or9 (fun i => decide (¬ col g X.2 (p + i * g u) = none)) j), nI (p + j * g u))) (j + 1))) := by
        intro j _ hj
        have h1 := (hlt j).mp (by omega)
        have b1 : ¬ nI X.1 ≤ nI (p + j * g u) := nI_ge h1 (by omega)
        simp only [f_X6_why_L33, f_X6_why_J64, f_X6_why_J69, H.r1, M_of0, H.l1 (show 12 + 18 * i < 84 by omega), HQ.1, Option.bind_some, if_neg b1, z0, H.l1 (show u < 84 by omega), hG u hu, M_hueAt H hi HQ hG hg W h1, nI_step, or9]
        by_cases ho : or9 (fun i => decide (¬ col g X.2 (p + i * g u) = none)) j = true
        · simp only [ho, Bool.true_or]
          rw [if_pos (show ¬ bI true = 0 by decide)]
          rfl
        · have ho : or9 (fun i => decide (¬ col g X.2 (p + i * g u) = none)) j = false := by simpa using ho
          simp only [ho, Bool.false_or]
          rw [if_neg (show ¬ ¬ bI false = 0 by decide)]
          by_cases hcol : col g X.2 (p + j * g u) = none
          · rw [hcol]
            rfl
          · have e2 : ¬ oI (col g X.2 (p + j * g u)) = -1 := fun q => hcol ((oI_m1 (fun n hn => by have := col_lt W hn; omega)).mp q)
            rw [if_neg e2, decide_eq_true hcol]
            rfl
      have he : f_X6_why_L33 h m (nI i) (nI u) ((fun j => (bI (or9 (fun i => decide (¬ col g X.2 (p + i * g u) = none)) j), nI (p + j * g u))) (0 + stp9 X.1 p (g u))) = some (.inr (bI (or9 (fun i => decide (¬ col g X.2 (p + i * g u) = none)) (stp9 X.1 p (g u))))) := by
        rw [Nat.zero_add]
        have h1 : ¬ p + stp9 X.1 p (g u) * g u < X.1 := fun q => Nat.lt_irrefl _ ((hlt _).mpr q)
        have h2 : stp9 X.1 p (g u) * g u ≤ 60 * 100 := Nat.mul_le_mul (by omega) (by omega)
        have b1 : nI X.1 ≤ nI (p + stp9 X.1 p (g u) * g u) := nI_le (by omega) (by omega)
        simp only [f_X6_why_L33, H.r1, M_of0, H.l1 (show 12 + 18 * i < 84 by omega), HQ.1, Option.bind_some, if_pos b1]
      have hw := lpn_run (fun j => (bI (or9 (fun i => decide (¬ col g X.2 (p + i * g u) = none)) j), nI (p + j * g u))) _ (stp9 X.1 p (g u)) 0 LF hb he (by unfold LF; omega)
      have hw0 : lpn (f_X6_why_L33 h m (nI i) (nI u)) LF (0, nI p) = some (bI (or9 (fun i => decide (¬ col g X.2 (p + i * g u) = none)) (stp9 X.1 p (g u)))) := by
        rw [← hw]
        simp only [Nat.zero_mul, Nat.add_zero, or9]
        rfl
      rw [hw0, or9_fst]
      cases (fst9 (fun i => decide (¬ col g X.2 (p + i * g u) = none)) 0 (stp9 X.1 p (g u))).isSome <;> rfl
theorem M_holes (H : cM h m I F J) (hi : i < 4) (HQ : repQ (F 1) i X) (hG : ∀ u, u < 8 → F 1 u = nI (g u)) (hg : wfg g) (W : wfR g X.1 X.2) : f_X6_holes h m (nI i) = some (nI (cnt9 (fun p => decide (col g X.2 p = none)) X.1)) := by
  have h60 := W.1.2
  have hb : ∀ j, 0 ≤ j → j < 0 + X.1 → f_X6_holes_L4 h m (nI i) ((fun j => (nI (cnt9 (fun p => decide (col g X.2 p = none)) j), nI j)) j) = some (.inl ((fun j => (nI (cnt9 (fun p => decide (col g X.2 p = none)) j), nI j)) (j + 1))) := by
    intro j _ hj
    have b1 : ¬ nI X.1 ≤ nI j := nI_ge (by omega) (by omega)
    have a0 : nI (cnt9 (fun p => decide (col g X.2 p = none)) j) + (0 : Int32) = nI (cnt9 (fun p => decide (col g X.2 p = none)) j + 0) := nI_add _ 0
    simp only [f_X6_holes_L4, f_X6_holes_J34, H.r1, M_of0, H.l1 (show 12 + 18 * i < 84 by omega), HQ.1, if_neg b1, M_hueAt H hi HQ hG hg W (show j < X.1 by omega), Option.bind_some, cnt9, nI_1]
    by_cases hc : col g X.2 j = none
    · simp only [hc, decide_true, if_true]
      rfl
    · have e2 : ¬ oI (col g X.2 j) = -1 := fun q => hc ((oI_m1 (fun n hn => by have := col_lt W hn; omega)).mp q)
      simp only [if_pos e2, hc, decide_false, Bool.false_eq_true, if_false, a0]
  have he : f_X6_holes_L4 h m (nI i) ((fun j => (nI (cnt9 (fun p => decide (col g X.2 p = none)) j), nI j)) (0 + X.1)) = some (.inr (nI (cnt9 (fun p => decide (col g X.2 p = none)) X.1))) := by
    have b1 : nI X.1 ≤ nI X.1 := nI_le (Nat.le_refl _) (by omega)
    simp only [Nat.zero_add, f_X6_holes_L4, H.r1, M_of0, H.l1 (show 12 + 18 * i < 84 by omega), HQ.1, Option.bind_some, if_pos b1]
  have hw := lpn_run (fun j => (nI (cnt9 (fun p => decide (col g X.2 p = none)) j), nI j)) _ X.1 0 LF hb he (by unfold LF; omega)
  have hw0 : lpn (f_X6_holes_L4 h m (nI i)) LF (0, 0) = _ := hw
  simp only [f_X6_holes, f_X6_holes_J42, H.ok, if_true, hw0, Option.bind_some]
theorem M_firstHole (H : cM h m I F J) (hi : i < 4) (HQ : repQ (F 1) i X) (hG : ∀ u, u < 8 → F 1 u = nI (g u)) (hg : wfg g) (W : wfR g X.1 X.2) : f_X6_firstHole h m (nI i) = some (oI (fst9 (fun p => decide (col g X.2 p = none)) 0 X.1)) := by
  have h60 := W.1.2
  have hb : ∀ j, 0 ≤ j → j < 0 + X.1 → f_X6_firstHole_L15 h m (nI i) ((fun j => (oI (fst9 (fun p => decide (col g X.2 p = none)) (X.1 - j) j), nI (X.1 - j) - 1)) j) = some (.inl ((fun j => (oI (fst9 (fun p => decide (col g X.2 p = none)) (X.1 - j) j), nI (X.1 - j) - 1)) (j + 1))) := by
    intro j _ hj
    obtain ⟨k, hk⟩ : ∃ k, X.1 - j = k + 1 := ⟨X.1 - j - 1, by omega⟩
    have hk2 : X.1 - (j + 1) = k := by omega
    have b1 : ¬ nI k < 0 := nI_pos (by omega)
    have e3 : nI k + (-1) = nI k - 1 := by rw [Int32.sub_eq_add_neg]
    simp only [hk, hk2, nI_pred, f_X6_firstHole_L15, f_X6_firstHole_J34, if_neg b1, M_hueAt H hi HQ hG hg W (show k < X.1 by omega), Option.bind_some, fst9, e3]
    by_cases hc : col g X.2 k = none
    · simp only [hc, decide_true, if_true]
      rfl
    · have e2 : ¬ oI (col g X.2 k) = -1 := fun q => hc ((oI_m1 (fun n hn => by have := col_lt W hn; omega)).mp q)
      simp only [if_pos e2, hc, decide_false, Bool.false_eq_true, if_false]
  have he : f_X6_firstHole_L15 h m (nI i) ((fun j => (oI (fst9 (fun p => decide (col g X.2 p = none)) (X.1 - j) j), nI (X.1 - j) - 1)) (0 + X.1)) = some (.inr (oI (fst9 (fun p => decide (col g X.2 p = none)) 0 X.1))) := by
    have b1 : nI 0 - 1 < 0 := by decide
    simp only [Nat.zero_add, Nat.sub_self, f_X6_firstHole_L15, if_pos b1]
  have hw := lpn_run (fun j => (oI (fst9 (fun p => decide (col g X.2 p = none)) (X.1 - j) j), nI (X.1 - j) - 1)) _ X.1 0 LF hb he (by unfold LF; omega)
  have hw0 : lpn (f_X6_firstHole_L15 h m (nI i)) LF (-1, nI X.1 - 1) = _ := hw
  simp only [f_X6_firstHole, f_X6_firstHole_J41, H.ok, H.r1, M_of0, H.l1 (show 12 + 18 * i < 84 by omega), HQ.1, if_true, hw0, Option.bind_some]
theorem M_mostHoles (H : cM h m I F J) (hi : i < 4) (HQ : repQ (F 1) i X) (hG : ∀ u, u < 8 → F 1 u = nI (g u)) (hg : wfg g) (W : wfR g X.1 X.2) : f_X6_holesSideBySide h m (nI i) = some (nI (mho9 (fun p => decide (col g X.2 p = none)) X.1)) := by
  have h60 := W.1.2
  have hb : ∀ j, 0 ≤ j → j < 0 + X.1 → f_X6_holesSideBySide_L7 h m (nI i) ((fun j => (nI (mho9 (fun p => decide (col g X.2 p = none)) j), nI (hol9 (fun p => decide (col g X.2 p = none)) j), nI j)) j) = some (.inl ((fun j => (nI (mho9 (fun p => decide (col g X.2 p = none)) j), nI (hol9 (fun p => decide (col g X.2 p = none)) j), nI j)) (j + 1))) := by
    intro j _ hj
    have b1 : ¬ nI X.1 ≤ nI j := nI_ge (by omega) (by omega)
    have h1 := mho9_le (P := fun p => decide (col g X.2 p = none)) j
    have h2 := hol9_le (P := fun p => decide (col g X.2 p = none)) j
    have mx : ∀ a b : Nat, a ≤ 100 → b ≤ 100 → (if nI b ≤ nI a then (some (.inl (nI a, nI b, nI (j + 1))) : Option ((Int32 × Int32 × Int32) ⊕ Int32)) else some (.inl (nI b, nI b, nI (j + 1)))) = some (.inl (nI (max a b), nI b, nI (j + 1))) := by
      intro a b ha hb
      by_cases hab : b ≤ a
      · rw [if_pos (nI_le hab (by omega)), Nat.max_eq_left hab]
      · rw [if_neg (nI_ge (by omega) (by omega)), Nat.max_eq_right (by omega)]
    simp only [f_X6_holesSideBySide_L7, f_X6_holesSideBySide_J40, f_X6_holesSideBySide_J51, H.r1, M_of0, H.l1 (show 12 + 18 * i < 84 by omega), HQ.1, if_neg b1, M_hueAt H hi HQ hG hg W (show j < X.1 by omega), Option.bind_some, mho9, hol9, nI_1]
    by_cases hc : col g X.2 j = none
    · have e2 : ¬ ¬ oI (col g X.2 j) = -1 := fun q => q (by rw [hc]; rfl)
      rw [if_neg e2]
      simp only [hc, decide_true, if_true]
      exact mx _ _ (by omega) (by omega)
    · have e2 : ¬ oI (col g X.2 j) = -1 := fun q => hc ((oI_m1 (fun n hn => by have := col_lt W hn; omega)).mp q)
      rw [if_pos e2]
      simp only [hc, decide_false, Bool.false_eq_true, if_false]
      exact mx _ 0 (by omega) (by omega)
  have he : f_X6_holesSideBySide_L7 h m (nI i) ((fun j => (nI (mho9 (fun p => decide (col g X.2 p = none)) j), nI (hol9 (fun p => decide (col g X.2 p = none)) j), nI j)) (0 + X.1)) = some (.inr (nI (mho9 (fun p => decide (col g X.2 p = none)) X.1))) := by
    have b1 : nI X.1 ≤ nI X.1 := nI_le (Nat.le_refl _) (by omega)
    simp only [Nat.zero_add, f_X6_holesSideBySide_L7, H.r1, M_of0, H.l1 (show 12 + 18 * i < 84 by omega), HQ.1, Option.bind_some, if_pos b1]
  have hw := lpn_run (fun j => (nI (mho9 (fun p => decide (col g X.2 p = none)) j), nI (hol9 (fun p => decide (col g X.2 p = none)) j), nI j)) _ X.1 0 LF hb he (by unfold LF; omega)
  have hw0 : lpn (f_X6_holesSideBySide_L7 h m (nI i)) LF (0, 0, 0) = _ := hw
  simp only [f_X6_holesSideBySide, f_X6_holesSideBySide_J58, H.ok, if_true, hw0, Option.bind_some]
theorem div_loop : ∀ b a k : Nat, a < 2 ^ 31 → b < 2 ^ 31 → b < k → lpn (f_X6_divisor_L4 h) k (nI a, nI b) = some (nI (Nat.gcd a b)) := by
  intro b
  induction b using Nat.strongRecOn with
  | ind b ih =>
    intro a k ha hb hk
    obtain ⟨q, rfl⟩ : ∃ q, k = q + 1 := ⟨k - 1, by omega⟩
    show (f_X6_divisor_L4 h (nI a, nI b)).bind _ = _
    by_cases hb0 : b = 0
    · subst hb0
      have c2 : nI 0 ≤ 0 := by decide
      simp only [f_X6_divisor_L4, if_pos c2, Option.bind_some, Nat.gcd_zero_right]
    · have c2 : ¬ nI b ≤ 0 := nI_nle (by omega) hb
      have c3 : ¬ nI b = 0 := nI_ne0 (by omega) hb
      have h1 : a % b < b := Nat.mod_lt _ (by omega)
      simp only [f_X6_divisor_L4, if_neg c2, if_pos c3, Option.bind_some, nI_rem ha (show 0 < b by omega) hb]
      rw [ih (a % b) h1 b q hb (by omega) (by omega)]
      congr 2
      rw [Nat.gcd_comm b, ← Nat.gcd_rec, Nat.gcd_comm]
theorem M_divisor {a b : Nat} (ha : a < 2 ^ 31) (hb : b ≤ 20) : f_X6_divisor h (nI a) (nI b) = some (nI (Nat.gcd a b)) := by
  have h1 := div_loop (h := h) b a LF ha (by omega) (by unfold LF; omega)
  simp only [f_X6_divisor, f_X6_divisor_J21, h1, Option.bind_some]
theorem M_period (H : cM h m I F J) (hi : i < 4) (HQ : repQ (F 1) i X) (hG : ∀ u, u < 8 → F 1 u = nI (g u)) (hg : wfg g) (W : wfQ g X.2) : f_X6_period h m (nI i) = some (nI (perA g X.2)) := by
  have hb : ∀ j, 0 ≤ j → j < 0 + 8 → f_X6_period_L4 h m (nI i) ((fun j => (nI (prA g X.2 j), nI j)) j) = some (.inl ((fun j => (nI (prA g X.2 j), nI j)) (j + 1))) := by
    intro j _ hj
    have hgj := hg j
    have b1 : ¬ (8 : Int32) ≤ nI j := nI_ge (b := 8) (by omega) (by omega)
    have e2 : prA g X.2 j ≤ 232792560 := Nat.le_of_dvd (by omega) (prA_dvd hg _ _)
    have d1 : 0 < Nat.gcd (prA g X.2 j) (g j) := Nat.gcd_pos_of_pos_right _ (by omega)
    have d2 : Nat.gcd (prA g X.2 j) (g j) ≤ g j := Nat.gcd_le_right _ (by omega)
    have b2 : ¬ nI (Nat.gcd (prA g X.2 j) (g j)) = 0 := nI_ne0 d1 (by omega)
    have e3 : prA g X.2 j / Nat.gcd (prA g X.2 j) (g j) * g j = Nat.lcm (prA g X.2 j) (g j) := by
      unfold Nat.lcm
      rw [Nat.mul_comm (prA g X.2 j) (g j), Nat.mul_div_assoc _ (Nat.gcd_dvd_left _ _), Nat.mul_comm]
    simp only [f_X6_period_L4, f_X6_period_J46, if_neg b1, M_isLaid H hi HQ hg W (show j < 8 by omega), Option.bind_some, H.r1, z0, H.l1 (show j < 84 by omega), hG j (by omega), M_divisor (h := h) (show prA g X.2 j < 2 ^ 31 by omega) hgj.2, if_pos b2, pk_div (show prA g X.2 j < 2 ^ 31 by omega) d1 (show Nat.gcd (prA g X.2 j) (g j) < 2 ^ 31 by omega), nI_mul, e3, nI_1, prA]
    by_cases hl : (phs X.2 j).isSome = true
    · rw [hl]
      rfl
    · have hl : (phs X.2 j).isSome = false := by simpa using hl
      rw [hl]
      rfl
  have he : f_X6_period_L4 h m (nI i) ((fun j => (nI (prA g X.2 j), nI j)) (0 + 8)) = some (.inr (nI (prA g X.2 8))) := by
    have b1 : (8 : Int32) ≤ nI 8 := nI_le (a := 8) (Nat.le_refl _) (by omega)
    simp only [Nat.zero_add, f_X6_period_L4, if_pos b1]
  have hw := lpn_run (fun j => (nI (prA g X.2 j), nI j)) _ 8 0 LF hb he (by unfold LF; omega)
  have hw0 : lpn (f_X6_period_L4 h m (nI i)) LF (1, 0) = _ := hw
  simp only [f_X6_period, f_X6_period_J53, H.ok, if_true, hw0, Option.bind_some]
  rw [prA_per W]
theorem M_toldOfRope (H : cM h m I F J) (hi : i < 4) (HQ : repQ (F 1) i X) (hG : ∀ u, u < 8 → F 1 u = nI (g u)) (hg : wfg g) (W : wfR g X.1 X.2) {w : Nat} (hw : w < 6) : f_X6_toldOfRope h m (nI i) (nI w) = some (rnA g X w) := by
  match w, hw with
  | 0, _ =>
    have c0 : nI 0 = (0 : Int32) := rfl
    have e1 : f_X6_of h (nI i) 0 = _ := M_of0 h i
    simp only [f_X6_toldOfRope, H.ok, H.r1, if_true, c0, e1, H.l1 (show 12 + 18 * i < 84 by omega), HQ.1, Option.bind_some]
    rfl
  | 1, _ =>
    have c0 : nI 1 = (1 : Int32) := rfl
    have c1 : ¬ (1 : Int32) = 0 := by decide
    simp only [f_X6_toldOfRope, H.ok, H.r1, if_true, c0, if_neg c1, M_of1, H.l1 (show 13 + 18 * i < 84 by omega), HQ.2.1, Option.bind_some]
    rfl
  | 2, _ =>
    simp only [f_X6_toldOfRope, H.ok, if_true, M_holes H hi HQ hG hg W, Option.bind_some]
    rfl
  | 3, _ =>
    simp only [f_X6_toldOfRope, H.ok, if_true, M_firstHole H hi HQ hG hg W, Option.bind_some]
    rfl
  | 4, _ =>
    simp only [f_X6_toldOfRope, H.ok, if_true, M_mostHoles H hi HQ hG hg W, Option.bind_some]
    rfl
  | 5, _ =>
    simp only [f_X6_toldOfRope, H.ok, if_true, M_period H hi HQ hG hg W.q, Option.bind_some]
    rfl
theorem M_orderOf (H : cM h m I F J) (hi : i < 4) (HQ : repQ (F 1) i X) (W : wfR g X.1 X.2) {u : Nat} (hu : u < 8) : f_X6_orderOf h m (nI i) (nI u) = some (oI (ixo X.2 u)) := by
  have h8 := W.le8
  have hb : ∀ j, 0 ≤ j → j < 0 + X.2.length → f_X6_orderOf_L5 h m (nI i) (nI u) ((fun j => (oI (lst9 (fun k => decide (X.2[k]?.map Prod.fst = some u)) j), nI j)) j) = some (.inl ((fun j => (oI (lst9 (fun k => decide (X.2[k]?.map Prod.fst = some u)) j), nI j)) (j + 1))) := by
    intro j _ hj
    have hj2 : j < X.2.length := by omega
    obtain ⟨q, hq⟩ : ∃ q, X.2[j]? = some q := ⟨_, List.getElem?_eq_getElem hj2⟩
    have hq8 := (W.2.2.1 q (List.mem_of_getElem? hq)).1
    have b1 : ¬ nI X.2.length ≤ nI j := nI_ge hj2 (by omega)
    simp only [f_X6_orderOf_L5, f_X6_orderOf_J43, H.r1, M_of1, M_of2, H.l1 (show 13 + 18 * i < 84 by omega), HQ.2.1, if_neg b1, H.l1 (show 14 + 18 * i + j < 84 by omega), HQ.2.2.1 j q hq, Option.bind_some, lst9, nI_1, hq, Option.map_some, Option.some.injEq]
    by_cases hc : q.1 = u
    · simp only [hc, not_true_eq_false, if_false, decide_true, if_true]
      rfl
    · have e2 : ¬ nI q.1 = nI u := fun q9 => hc ((nI_eq (by omega) (by omega)).mp q9)
      simp only [if_pos e2, hc, decide_false, Bool.false_eq_true, if_false]
  have he : f_X6_orderOf_L5 h m (nI i) (nI u) ((fun j => (oI (lst9 (fun k => decide (X.2[k]?.map Prod.fst = some u)) j), nI j)) (0 + X.2.length)) = some (.inr (oI (lst9 (fun k => decide (X.2[k]?.map Prod.fst = some u)) X.2.length))) := by
    have b1 : nI X.2.length ≤ nI X.2.length := nI_le (Nat.le_refl _) (by omega)
    simp only [Nat.zero_add, f_X6_orderOf_L5, H.r1, M_of1, H.l1 (show 13 + 18 * i < 84 by omega), HQ.2.1, Option.bind_some, if_pos b1]
  have hw := lpn_run (fun j => (oI (lst9 (fun k => decide (X.2[k]?.map Prod.fst = some u)) j), nI j)) _ X.2.length 0 LF hb he (by unfold LF; omega)
  have hw0 : lpn (f_X6_orderOf_L5 h m (nI i) (nI u)) LF (-1, 0) = _ := hw
  simp only [f_X6_orderOf, f_X6_orderOf_J50, H.ok, if_true, hw0, Option.bind_some]
  congr 2
  cases hx : ixo X.2 u with
  | none =>
    have h1 := fst9_none hx
    cases hl : lst9 (fun k => decide (X.2[k]?.map Prod.fst = some u)) X.2.length with
    | none => rfl
    | some k =>
      obtain ⟨k1, k2, -⟩ := lst9_some hl
      rw [h1 k (Nat.zero_le _) (by omega)] at k2
      cases k2
  | some k =>
    obtain ⟨p, hp⟩ := ixo_some hx
    refine lst9_of (List.getElem?_eq_some_iff.mp hp).1 (by rw [hp]; simp) (fun j h1 h2 => ?_)
    cases hd : decide (X.2[j]?.map Prod.fst = some u) with
    | false => rfl
    | true =>
      have h3 := of_decide_eq_true hd
      obtain ⟨q, hq⟩ : ∃ q, X.2[j]? = some q := ⟨_, List.getElem?_eq_getElem h2⟩
      rw [hq] at h3
      have h4 : q.1 = u := by simpa using h3
      have h5 := ixo_of W (u := u) (p := q.2) (k := j) (by rw [hq, ← h4])
      rw [hx] at h5
      have h6 : k = j := Option.some.inj h5
      omega
theorem M_toldOfHue (H : cM h m I F J) (hi : i < 4) (HQ : repQ (F 1) i X) (hG : ∀ u, u < 8 → F 1 u = nI (g u)) (hg : wfg g) (W : wfR g X.1 X.2) {u w : Nat} (hu : u < 8) (hw : w < 4) : f_X6_toldOfHue h m (nI i) (nI u) (nI w) = some (hnA g X.1 X.2 u w) := by
  unfold hnA
  simp only [f_X6_toldOfHue, f_X6_toldOfHue_J58, H.ok, if_true, M_isLaid H hi HQ hg W.q hu, Option.bind_some]
  cases hp : phs X.2 u with
  | none => rfl
  | some p =>
    have hm := phs_mem hp
    have e1 := M_placesOf H hi HQ hG hg W.q W.1.2 hm
    have e2 := M_lastOf H hi HQ hG hg W.q W.1.2 hm (W.2.2.1 _ hm).2.1
    have e3 := M_phaseOf H hi HQ hu
    rw [hp] at e3
    simp only [e1, e2, e3, M_orderOf H hi HQ W hu, Option.bind_some]
    match w, hw with
    | 0, _ => rfl
    | 1, _ => rfl
    | 2, _ => rfl
    | 3, _ => rfl
theorem M_wouldTake (H : cM h m I F J) (hi : i < 4) (HQ : repQ (F 1) i X) (hG : ∀ u, u < 8 → F 1 u = nI (g u)) (hg : wfg g) (h60 : X.1 ≤ 60) {u p : Nat} (hu : u < 8) (hp : p ≤ X.1) : f_X6_wouldTake h m (nI i) (nI u) (nI p) = some (nI (stp9 X.1 p (g u))) := by
  have hgu := hg u
  have b0 : ¬ nI (g u) = 0 := nI_ne0 (by omega) (by omega)
  have e1 : nI (X.1 - p + g u) - (1 : Int32) = nI (X.1 - p + g u - 1) := nI_sub (b := 1) (by omega)
  simp only [f_X6_wouldTake, H.ok, H.r1, if_true, M_of0, H.l1 (show 12 + 18 * i < 84 by omega), HQ.1, z0, H.l1 (show u < 84 by omega), hG u hu, Option.bind_some, if_pos b0, nI_sub hp, nI_add, e1, pk_div (show X.1 - p + g u - 1 < 2 ^ 31 by omega) (show 0 < g u by omega) (show g u < 2 ^ 31 by omega)]
  rfl
end ModelTells
