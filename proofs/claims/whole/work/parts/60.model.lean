/-! PURE READING, 29: the reference: phases, the best hue, counts, meetings, the share -/
theorem isB_no {P : Nat → Bool} {w : Nat → Nat} {k n : Nat} {b : Option Nat} (h : isB P w (k + 1) n b) (hk : P k = false) : isB P w k n b := by
  match b, h with
  | none, h =>
    intro p p1 p2
    by_cases h1 : p = k
    · rw [h1]; exact hk
    · exact h p (by omega) p2
  | some t, h =>
    obtain ⟨h1, h2, h3, h4⟩ := h
    refine ⟨by omega, h2, h3, fun p p1 p2 p3 => ?_⟩
    by_cases h5 : p = k
    · rw [h5, hk] at p3; cases p3
    · exact h4 p (by omega) p2 p3
theorem isB_new {P : Nat → Bool} {w : Nat → Nat} {k n : Nat} {b : Option Nat} (h : isB P w (k + 1) n b) (hk : P k = true) (hn : k < n) (hb : ∀ t, b = some t → ¬ w k < w t) : isB P w k n (some k) := by
  refine ⟨Nat.le_refl _, hn, hk, fun p p1 p2 p3 => ?_⟩
  by_cases h5 : p = k
  · rw [h5]; exact ⟨Nat.le_refl _, fun _ => Nat.le_refl _⟩
  · match b, h, hb with
    | none, h, _ => rw [h p (by omega) p2] at p3; cases p3
    | some t, h, hb =>
      have h6 := (h.2.2.2 p (by omega) p2 p3).1
      have h7 := hb t rfl
      exact ⟨by omega, fun _ => p1⟩
theorem isB_old {P : Nat → Bool} {w : Nat → Nat} {k n t : Nat} (h : isB P w (k + 1) n (some t)) (hb : w k < w t) : isB P w k n (some t) := by
  obtain ⟨h1, h2, h3, h4⟩ := h
  refine ⟨by omega, h2, h3, fun p p1 p2 p3 => ?_⟩
  by_cases h5 : p = k
  · rw [h5]; exact ⟨by omega, fun q => by omega⟩
  · exact h4 p (by omega) p2 p3
section ModelPhases
variable {h : PH} {m : Nat} {I : Nat → Int32} {F : Nat → Nat → Int32} {J : Int64} {g : Nat → Nat} {i : Nat} {X : Nat × List (Nat × Nat)}
theorem M_toldOfPhases (H : cM h m I F J) (hi : i < 4) (HQ : repQ (F 1) i X) (hG : ∀ u, u < 8 → F 1 u = nI (g u)) (hg : wfg g) (W : wfR g X.1 X.2) {u w : Nat} (hu : u < 8) (hw : w < 3) : f_X6_toldOfPhases h m (nI i) (nI u) (nI w) = some (pnA g X.1 X.2 u w) := by
  have hgu := hg u
  have h60 := W.1.2
  obtain ⟨P, hP⟩ : ∃ P : Nat → Bool, P = fun p => decide (whyA g X.1 X.2 u p = 0) := ⟨_, rfl⟩
  have hPl : ∀ p, P p = true → p < X.1 := fun p hp => by rw [hP] at hp; exact whyA_w hg (of_decide_eq_true hp)
  have key : ∃ z : Int32 × Int32 × Int32, lpn (f_X6_toldOfPhases_L21 h m (nI i) (nI u) (nI w)) LF (0, -1, -1, nI (g u) - 1) = some z ∧ (z.1 = nI (cnt9 P (g u)) ∧ z.2.1 = oI (fst9 P 0 (g u)) ∧ ∃ b, z.2.2 = oI b ∧ isB P (fun p => stp9 X.1 p (g u)) 0 (g u) b) := by
    refine lpn_inv (b := f_X6_toldOfPhases_L21 h m (nI i) (nI u) (nI w)) (fun j (z : Int32 × Int32 × Int32 × Int32) => z.2.2.2 = nI (g u - j) - 1 ∧ (∃ c, z.1 = nI c ∧ c + cnt9 P (g u - j) = cnt9 P (g u)) ∧ z.2.1 = oI (fst9 P (g u - j) j) ∧ ∃ b, z.2.2.1 = oI b ∧ isB P (fun p => stp9 X.1 p (g u)) (g u - j) (g u) b) _ (g u) ?_ ?_ (g u) 0 LF (0, -1, -1, nI (g u) - 1) (by omega) (by unfold LF; omega) ⟨rfl, ⟨0, rfl, by simp⟩, rfl, none, rfl, fun p p1 p2 => by omega⟩
    · rintro j ⟨z1, z2, z3, z4⟩ hj ⟨i1, ⟨c, i2, i3⟩, i4, b, i5, i6⟩
      dsimp only at i1 i2 i3 i4 i5 i6
      subst i1 i2 i4 i5
      obtain ⟨k, hk⟩ : ∃ k, g u - j = k + 1 := ⟨g u - j - 1, by omega⟩
      have hk2 : g u - (j + 1) = k := by omega
      rw [hk] at i3 i6
      have b1 : ¬ nI k < 0 := nI_pos (by omega)
      have e3 : nI k + (-1) = nI k - 1 := by rw [Int32.sub_eq_add_neg]
      have hw3 := whyA_le g X.1 X.2 u k
      have hc1 : cnt9 P (g u) ≤ g u := cnt9_le
      have ew := M_why H hi HQ hG hg W hu (show k ≤ 100 by omega)
      have hbt : ∀ t, b = some t → t < X.1 ∧ t < g u := fun t ht => by
        rw [ht] at i6
        exact ⟨hPl t i6.2.2.1, i6.2.1⟩
      by_cases hc : whyA g X.1 X.2 u k = 0
      · have hPk : P k = true := by rw [hP]; exact decide_eq_true hc
        have hkl := hPl k hPk
        have n1 : nI c + (1 : Int32) = nI (c + 1) := nI_1 c
        have c3 : ¬ (1 : Int32) = 0 := by decide
        have n0 : ¬ ¬ nI 0 = 0 := fun q => q rfl
        rw [hc] at ew
        have fin : ∀ b', isB P (fun p => stp9 X.1 p (g u)) k (g u) b' → ∃ y : Int32 × Int32 × Int32 × Int32, (some (.inl (nI (c + 1), nI k, oI b', nI k - 1)) : Option ((Int32 × Int32 × Int32 × Int32) ⊕ (Int32 × Int32 × Int32))) = some (.inl y) ∧ (y.2.2.2 = nI (g u - (j + 1)) - 1 ∧ (∃ c, y.1 = nI c ∧ c + cnt9 P (g u - (j + 1)) = cnt9 P (g u)) ∧ y.2.1 = oI (fst9 P (g u - (j + 1)) (j + 1)) ∧ ∃ b, y.2.2.1 = oI b ∧ isB P (fun p => stp9 X.1 p (g u)) (g u - (j + 1)) (g u) b) := by
          intro b' hb'
          refine ⟨_, rfl, ?_, ⟨c + 1, rfl, ?_⟩, ?_, b', rfl, ?_⟩
          · rw [hk2]
          · rw [hk2]
            simp only [cnt9, hPk, if_true] at i3
            omega
          · rw [hk2]
            simp only [fst9, hPk, if_true]
            rfl
          · rw [hk2]; exact hb'
        simp only [f_X6_toldOfPhases_L21, f_X6_toldOfPhases_J42, f_X6_toldOfPhases_J56, f_X6_toldOfPhases_J71, f_X6_toldOfPhases_J103, f_X6_toldOfPhases_J108, f_X6_toldOfPhases_J110, hk, nI_pred, if_neg b1, ew, Option.bind_some, if_neg n0, if_neg c3, n1, e3]
        cases hb : b with
        | none =>
          have e4 : oI none = -1 := rfl
          rw [e4, if_pos rfl]
          exact fin (some k) (isB_new i6 hPk (by omega) (fun t ht => by rw [hb] at ht; cases ht))
        | some t =>
          obtain ⟨t1, t2⟩ := hbt t hb
          have e4 : ¬ oI (some t) = -1 := nI_ne_m1 (by omega)
          have e5 := M_wouldTake H hi HQ hG hg h60 hu (show k ≤ X.1 by omega)
          have e6 := M_wouldTake H hi HQ hG hg h60 hu (show t ≤ X.1 by omega)
          have e6 : f_X6_wouldTake h m (nI i) (nI u) (oI (some t)) = some (nI (stp9 X.1 t (g u))) := e6
          have s1 : stp9 X.1 k (g u) ≤ X.1 := stp9_le (by omega)
          have s2 : stp9 X.1 t (g u) ≤ X.1 := stp9_le (by omega)
          rw [if_neg e4, e5, Option.bind_some, e6, Option.bind_some]
          by_cases hlt : stp9 X.1 k (g u) < stp9 X.1 t (g u)
          · rw [if_pos (nI_lt hlt (by omega))]
            exact fin (some t) (isB_old (by rw [hb] at i6; exact i6) hlt)
          · rw [if_neg (nI_nlt (by omega) (by omega))]
            exact fin (some k) (isB_new i6 hPk (by omega) (fun t' ht' => by rw [hb] at ht'; cases ht'; exact hlt))
      · have hPk : P k = false := by rw [hP]; exact decide_eq_false hc
        have n1 : nI c + (0 : Int32) = nI c := nI_add c 0
        have n0 : ¬ nI (whyA g X.1 X.2 u k) = 0 := nI_ne0 (by omega) (by omega)
        refine ⟨(nI c, oI (fst9 P (k + 1) j), oI b, nI k - 1), ?_, ?_, ⟨c, rfl, ?_⟩, ?_, b, rfl, ?_⟩
        · simp only [f_X6_toldOfPhases_L21, f_X6_toldOfPhases_J42, f_X6_toldOfPhases_J56, f_X6_toldOfPhases_J71, f_X6_toldOfPhases_J103, f_X6_toldOfPhases_J108, f_X6_toldOfPhases_J110, hk, nI_pred, if_neg b1, ew, Option.bind_some, if_pos n0, if_true, n1, e3]
        · rw [hk2]
        · rw [hk2]
          simp only [cnt9, hPk, Bool.false_eq_true, if_false] at i3
          omega
        · rw [hk2]
          simp only [fst9, hPk, Bool.false_eq_true, if_false]
        · rw [hk2]
          exact isB_no i6 hPk
    · rintro ⟨z1, z2, z3, z4⟩ ⟨i1, ⟨c, i2, i3⟩, i4, b, i5, i6⟩
      dsimp only at i1 i2 i3 i4 i5 i6
      subst i1 i2 i4 i5
      have b1 : nI (g u - g u) - 1 < 0 := by rw [Nat.sub_self]; decide
      rw [Nat.sub_self] at i3 i6
      refine ⟨(nI c, oI (fst9 P (g u - g u) (g u)), oI b), ?_, ?_, ?_, b, rfl, i6⟩
      · simp only [f_X6_toldOfPhases_L21, if_pos b1]
      · rw [show c = cnt9 P (g u) by simp only [cnt9] at i3; omega]
      · rw [Nat.sub_self]
  obtain ⟨⟨z1, z2, z3⟩, k1, k2, k3, b, k4, k5⟩ := key
  dsimp only at k2 k3 k4
  subst k2 k3 k4
  have hw0 : ∀ p, P p = true → 0 < stp9 X.1 p (g u) := fun p hp => stp9_pos (by omega) (hPl p hp)
  have e9 := isB_same k5 (fil9_B hw0 (g u)).1
  subst e9
  simp only [f_X6_toldOfPhases, f_X6_toldOfPhases_J118, f_X6_toldOfPhases_J139, H.ok, H.r1, if_true, z0, H.l1 (show u < 84 by omega), hG u hu, k1, Option.bind_some]
  rw [hP]
  match w, hw with
  | 0, _ => rfl
  | 1, _ => rfl
  | 2, _ => rfl
theorem M_best (H : cM h m I F J) (hi : i < 4) (HQ : repQ (F 1) i X) (hG : ∀ u, u < 8 → F 1 u = nI (g u)) (hg : wfg g) (W : wfR g X.1 X.2) : f_X6_best h m (nI i) = some (oI (bstA g X.1 X.2 8).1) := by
  have h60 := W.1.2
  have hb : ∀ j, 0 ≤ j → j < 0 + 8 → f_X6_best_L7 h m (nI i) ((fun j => (oI (bstA g X.1 X.2 j).1, nI (bstA g X.1 X.2 j).2, nI j)) j) = some (.inl ((fun j => (oI (bstA g X.1 X.2 j).1, nI (bstA g X.1 X.2 j).2, nI j)) (j + 1))) := by
    intro j _ hj
    have hgu := hg j
    have b1 : ¬ (8 : Int32) ≤ nI j := nI_ge (b := 8) (by omega) (by omega)
    have e1 := M_toldOfPhases H hi HQ hG hg W (u := j) (w := 2) (by omega) (by omega)
    have e1 : f_X6_toldOfPhases h m (nI i) (nI j) 2 = some (oI (fil9 (fun p => decide (whyA g X.1 X.2 j p = 0)) (fun p => stp9 X.1 p (g j)) (g j)).1) := e1
    have e3 := flA_le hg X.1 X.2 j
    have e4 := bstA_le hg X.1 X.2 j
    cases hf : (fil9 (fun p => decide (whyA g X.1 X.2 j p = 0)) (fun p => stp9 X.1 p (g j)) (g j)).1 with
    | none =>
      rw [hf] at e1
      have e5 : flA g X.1 X.2 j = 0 := by unfold flA; rw [hf]
      have b2 : oI none = -1 := rfl
      have b3 : (0 : Int32) ≤ nI (bstA g X.1 X.2 j).2 := nI_pos' (by omega)
      simp only [f_X6_best_L7, f_X6_best_J43, f_X6_best_J57, f_X6_best_J70, if_neg b1, Option.bind_some, e1, b2, not_true_eq_false, if_false, if_pos b3, nI_1, bstA, e5, Nat.zero_le, if_true]
    | some p =>
      have hfB := (fil9_B (P := fun p => decide (whyA g X.1 X.2 j p = 0)) (w := fun p => stp9 X.1 p (g j)) (fun p hp => stp9_pos (by omega) (whyA_w hg (of_decide_eq_true hp))) (g j)).1
      rw [hf] at hfB
      have hp1 := whyA_w hg (of_decide_eq_true hfB.2.2.1)
      rw [hf] at e1
      have e5 : flA g X.1 X.2 j = stp9 X.1 p (g j) := by unfold flA; rw [hf]
      have b2 : ¬ oI (some p) = -1 := nI_ne_m1 (by omega)
      have e6 := M_wouldTake H hi HQ hG hg h60 (u := j) (p := p) (by omega) (by omega)
      have e6 : f_X6_wouldTake h m (nI i) (nI j) (oI (some p)) = some (nI (stp9 X.1 p (g j))) := e6
      by_cases hc : stp9 X.1 p (g j) ≤ (bstA g X.1 X.2 j).2
      · have b3 : nI (stp9 X.1 p (g j)) ≤ nI (bstA g X.1 X.2 j).2 := nI_le hc (by omega)
        simp only [f_X6_best_L7, f_X6_best_J43, f_X6_best_J57, f_X6_best_J70, if_neg b1, Option.bind_some, e1, if_pos b2, e6, if_pos b3, nI_1, bstA, e5, if_pos hc]
      · have b3 : ¬ nI (stp9 X.1 p (g j)) ≤ nI (bstA g X.1 X.2 j).2 := nI_ge (by omega) (by omega)
        simp only [f_X6_best_L7, f_X6_best_J43, f_X6_best_J57, f_X6_best_J70, if_neg b1, Option.bind_some, e1, if_pos b2, e6, if_neg b3, nI_1, bstA, e5, if_neg hc]
        rfl
  have he : f_X6_best_L7 h m (nI i) ((fun j => (oI (bstA g X.1 X.2 j).1, nI (bstA g X.1 X.2 j).2, nI j)) (0 + 8)) = some (.inr (oI (bstA g X.1 X.2 8).1)) := by
    have b1 : (8 : Int32) ≤ nI 8 := nI_le (a := 8) (Nat.le_refl _) (by omega)
    simp only [Nat.zero_add, f_X6_best_L7, if_pos b1]
  have hw := lpn_run (fun j => (oI (bstA g X.1 X.2 j).1, nI (bstA g X.1 X.2 j).2, nI j)) _ 8 0 LF hb he (by unfold LF; omega)
  have hw0 : lpn (f_X6_best_L7 h m (nI i)) LF (-1, 0, 0) = _ := hw
  simp only [f_X6_best, f_X6_best_J77, H.ok, if_true, hw0, Option.bind_some]
theorem M_meet (H : cM h m I F J) (hG : ∀ u, u < 8 → F 1 u = nI (g u)) (hg : wfg g) {u p v q : Nat} (hu : u < 8) (hv : v < 8) (hp : p < g u) (hq : q < g v) : f_X6_meet h m (nI u) (nI p) (nI v) (nI q) = some (oI (meetA (g u) p (g v) q)) := by
  have hgu := hg u
  have hgv := hg v
  have c1 : ¬ nI (g u) = 0 := nI_ne0 (by omega) (by omega)
  have c2 : ¬ nI (g v) = 0 := nI_ne0 (by omega) (by omega)
  have key : ∀ a, p ≤ a → q ≤ a → a ≤ 100 → (∀ k, k < a → cmb (g u) p (g v) q k = false) → f_X6_meet_J12 h m (nI u) (nI p) (nI v) (nI q) (nI a) = some (oI (meetA (g u) p (g v) q)) := by
    intro a h1 h2 h3 hlow
    have hb : ∀ j, a ≤ j → j < a + (800 - a) → f_X6_meet_L14 h m (nI u) (nI p) (nI v) (nI q) ((fun j => nI j) j) = some (if cmb (g u) p (g v) q j = true then .inr ((fun j => (.inr (nI j) : Unit ⊕ Int32)) j) else .inl ((fun j => nI j) (j + 1))) := by
      intro j j1 j2
      have b1 : ¬ (800 : Int32) ≤ nI j := nI_ge (b := 800) (by omega) (by omega)
      have l1 := Nat.mod_lt (j - p) (show 0 < g u by omega)
      have l2 := Nat.mod_lt (j - q) (show 0 < g v by omega)
      simp only [f_X6_meet_L14, f_X6_meet_J58, H.r1, z0, H.l1 (show u < 84 by omega), H.l1 (show v < 84 by omega), hG u hu, hG v hv, Option.bind_some, if_neg b1, if_pos c1, if_pos c2, nI_sub (show p ≤ j by omega), nI_sub (show q ≤ j by omega), nI_rem (show j - p < 2 ^ 31 by omega) (show 0 < g u by omega) (show g u < 2 ^ 31 by omega), nI_rem (show j - q < 2 ^ 31 by omega) (show 0 < g v by omega) (show g v < 2 ^ 31 by omega), nI_1]
      by_cases d1 : (j - p) % g u = 0
      · have d3 : ¬ ¬ nI ((j - p) % g u) = 0 := fun q9 => q9 (by rw [d1]; rfl)
        rw [if_neg d3]
        by_cases d2 : (j - q) % g v = 0
        · have d4 : ¬ ¬ nI ((j - q) % g v) = 0 := fun q9 => q9 (by rw [d2]; rfl)
          have d5 : cmb (g u) p (g v) q j = true := decide_eq_true ⟨⟨by omega, d1⟩, by omega, d2⟩
          rw [if_neg d4, if_pos d5]
        · have d4 : ¬ nI ((j - q) % g v) = 0 := nI_ne0 (by omega) (by omega)
          have d5 : ¬ cmb (g u) p (g v) q j = true := fun q9 => d2 (of_decide_eq_true q9).2.2
          rw [if_pos d4, if_neg d5]
      · have d3 : ¬ nI ((j - p) % g u) = 0 := nI_ne0 (by omega) (by omega)
        have d5 : ¬ cmb (g u) p (g v) q j = true := fun q9 => d1 (of_decide_eq_true q9).1.2
        rw [if_pos d3, if_neg d5]
    have he : f_X6_meet_L14 h m (nI u) (nI p) (nI v) (nI q) ((fun j => nI j) (a + (800 - a))) = some (.inr (.inl ())) := by
      have b1 : (800 : Int32) ≤ nI (a + (800 - a)) := nI_le (a := 800) (by omega) (by omega)
      simp only [f_X6_meet_L14, if_pos b1]
    have hw := lpn_find (fun j => nI j) (cmb (g u) p (g v) q) (fun j => (.inr (nI j) : Unit ⊕ Int32)) (.inl ()) (800 - a) a LF hb he (by unfold LF; omega)
    have hm : meetA (g u) p (g v) q = fst9 (cmb (g u) p (g v) q) a (800 - a) := by
      unfold meetA
      cases hf : fst9 (cmb (g u) p (g v) q) a (800 - a) with
      | none =>
        refine fst9_of_none (fun k _ hk => ?_)
        rcases Nat.lt_or_ge k a with q9 | q9
        · exact hlow k q9
        · exact fst9_none hf k q9 (by omega)
      | some k =>
        obtain ⟨k1, k2, k3, k4⟩ := fst9_some hf
        refine fst9_of (Nat.zero_le _) (by omega) k3 (fun t _ ht => ?_)
        rcases Nat.lt_or_ge t a with q9 | q9
        · exact hlow t q9
        · exact k4 t q9 ht
    rw [hm]
    cases hf : fst9 (cmb (g u) p (g v) q) a (800 - a) with
    | none =>
      rw [hf] at hw
      simp only [f_X6_meet_J12, hw, Option.bind_some]
      rfl
    | some k =>
      rw [hf] at hw
      simp only [f_X6_meet_J12, hw, Option.bind_some]
      rfl
  have low : ∀ k, k < p ∨ k < q → cmb (g u) p (g v) q k = false := fun k hk => decide_eq_false (fun q9 => by omega)
  by_cases hpq : p ≤ q
  · have b1 : nI p ≤ nI q := nI_le hpq (by omega)
    simp only [f_X6_meet, H.ok, if_true, if_pos b1]
    exact key q hpq (Nat.le_refl _) (by omega) (fun k hk => low k (Or.inr hk))
  · have b1 : ¬ nI p ≤ nI q := nI_ge (by omega) (by omega)
    simp only [f_X6_meet, H.ok, if_true, if_neg b1]
    exact key p (Nat.le_refl _) (by omega) (by omega) (fun k hk => low k (Or.inl hk))
end ModelPhases
section ModelState
variable {h : PH} {m : Nat} {I : Nat → Int32} {F : Nat → Nat → Int32} {J : Int64} {T : TTt}
theorem repA.q {s : Nat → Int32} (H : repA s T) {i : Nat} (hi : i < T.2.1.length) : repQ s i (atR T.2.1 i) := H.2.2.2 i _ (atR_get hi)
theorem M_anywhere (H : cM h m I F J) (HA : repA (F 1) T) (W : wfT T) {u : Nat} (hu : u < 8) : f_X6_isLaidAnywhere h m (nI u) = some (bI (anyA T.2.1 u)) := by
  have hR := W.2.1
  have e8 : ldI h (m + 1) (8 : Int32) = some (nI T.2.1.length) := (H.l1 (i := 8) (by omega)).trans (congrArg some HA.2.1)
  have hb : ∀ j, 0 ≤ j → j < 0 + T.2.1.length → f_X6_isLaidAnywhere_L4 h m (nI u) ((fun j => (bI (or9 (laidA T.2.1 u) j), nI j)) j) = some (.inl ((fun j => (bI (or9 (laidA T.2.1 u) j), nI j)) (j + 1))) := by
    intro j _ hj
    have hj2 : j < T.2.1.length := by omega
    have b1 : ¬ nI T.2.1.length ≤ nI j := nI_ge hj2 (by omega)
    have e1 := M_isLaid H (show j < 4 by omega) (HA.q hj2) W.1 (W.2.2 _ (atR_mem hj2)).q hu
    have e2 : laidA T.2.1 u j = (phs (atR T.2.1 j).2 u).isSome := by
      unfold laidA
      rw [atR_get hj2]
    simp only [f_X6_isLaidAnywhere_L4, f_X6_isLaidAnywhere_J28, f_X6_isLaidAnywhere_J33, H.r1, e8, Option.bind_some, if_neg b1, e1, or9, e2, nI_1]
    by_cases ho : or9 (laidA T.2.1 u) j = true
    · simp only [ho, Bool.true_or]
      rfl
    · have ho : or9 (laidA T.2.1 u) j = false := by simpa using ho
      simp only [ho, Bool.false_or]
      cases (phs (atR T.2.1 j).2 u).isSome <;> rfl
  have he : f_X6_isLaidAnywhere_L4 h m (nI u) ((fun j => (bI (or9 (laidA T.2.1 u) j), nI j)) (0 + T.2.1.length)) = some (.inr (bI (or9 (laidA T.2.1 u) T.2.1.length))) := by
    have b1 : nI T.2.1.length ≤ nI T.2.1.length := nI_le (Nat.le_refl _) (by omega)
    simp only [Nat.zero_add, f_X6_isLaidAnywhere_L4, H.r1, e8, Option.bind_some, if_pos b1]
  have hw := lpn_run (fun j => (bI (or9 (laidA T.2.1 u) j), nI j)) _ T.2.1.length 0 LF hb he (by unfold LF; omega)
  have hw0 : lpn (f_X6_isLaidAnywhere_L4 h m (nI u)) LF (0, 0) = _ := hw
  simp only [f_X6_isLaidAnywhere, f_X6_isLaidAnywhere_J40, H.ok, if_true, hw0, Option.bind_some, bI_z01]
  rw [or9_fst]
  rfl
theorem M_sum0 (H : cM h m I F J) (HA : repA (F 1) T) (W : wfT T) : f_X6_sum h m 0 = some (nI (sum9 (lenAt T.2.1) T.2.1.length)) := by
  have hR := W.2.1
  have e8 : ldI h (m + 1) (8 : Int32) = some (nI T.2.1.length) := (H.l1 (i := 8) (by omega)).trans (congrArg some HA.2.1)
  have hb : ∀ j, 0 ≤ j → j < 0 + T.2.1.length → f_X6_sum_L4 h m 0 ((fun j => (nI (sum9 (lenAt T.2.1) j), nI j)) j) = some (.inl ((fun j => (nI (sum9 (lenAt T.2.1) j), nI j)) (j + 1))) := by
    intro j _ hj
    have hj2 : j < T.2.1.length := by omega
    have b1 : ¬ nI T.2.1.length ≤ nI j := nI_ge hj2 (by omega)
    have e2 : lenAt T.2.1 j = (atR T.2.1 j).1 := by
      unfold lenAt
      rw [atR_get hj2]
    simp only [f_X6_sum_L4, f_X6_sum_J38, H.r1, e8, Option.bind_some, if_neg b1, if_true, M_of0, H.l1 (show 12 + 18 * j < 84 by omega), (HA.q hj2).1, sum9, e2, nI_1, nI_add]
  have he : f_X6_sum_L4 h m 0 ((fun j => (nI (sum9 (lenAt T.2.1) j), nI j)) (0 + T.2.1.length)) = some (.inr (nI (sum9 (lenAt T.2.1) T.2.1.length))) := by
    have b1 : nI T.2.1.length ≤ nI T.2.1.length := nI_le (Nat.le_refl _) (by omega)
    simp only [Nat.zero_add, f_X6_sum_L4, H.r1, e8, Option.bind_some, if_pos b1]
  have hw := lpn_run (fun j => (nI (sum9 (lenAt T.2.1) j), nI j)) _ T.2.1.length 0 LF hb he (by unfold LF; omega)
  have hw0 : lpn (f_X6_sum_L4 h m 0) LF (0, 0) = _ := hw
  simp only [f_X6_sum, f_X6_sum_J46, H.ok, if_true, hw0, Option.bind_some]
theorem M_sum1 (H : cM h m I F J) (HA : repA (F 1) T) (W : wfT T) : f_X6_sum h m 1 = some (nI (sum9 (holA T.1 T.2.1) T.2.1.length)) := by
  have hR := W.2.1
  have e8 : ldI h (m + 1) (8 : Int32) = some (nI T.2.1.length) := (H.l1 (i := 8) (by omega)).trans (congrArg some HA.2.1)
  have hb : ∀ j, 0 ≤ j → j < 0 + T.2.1.length → f_X6_sum_L4 h m 1 ((fun j => (nI (sum9 (holA T.1 T.2.1) j), nI j)) j) = some (.inl ((fun j => (nI (sum9 (holA T.1 T.2.1) j), nI j)) (j + 1))) := by
    intro j _ hj
    have hj2 : j < T.2.1.length := by omega
    have b1 : ¬ nI T.2.1.length ≤ nI j := nI_ge hj2 (by omega)
    have c1 : ¬ (1 : Int32) = 0 := by decide
    have e2 : holA T.1 T.2.1 j = cnt9 (fun p => decide (col T.1 (atR T.2.1 j).2 p = none)) (atR T.2.1 j).1 := by
      unfold holA
      rw [atR_get hj2]
    simp only [f_X6_sum_L4, f_X6_sum_J38, H.r1, e8, Option.bind_some, if_neg b1, if_neg c1, M_holes H (show j < 4 by omega) (HA.q hj2) HA.1 W.1 (W.2.2 _ (atR_mem hj2)), sum9, e2, nI_1, nI_add]
  have he : f_X6_sum_L4 h m 1 ((fun j => (nI (sum9 (holA T.1 T.2.1) j), nI j)) (0 + T.2.1.length)) = some (.inr (nI (sum9 (holA T.1 T.2.1) T.2.1.length))) := by
    have b1 : nI T.2.1.length ≤ nI T.2.1.length := nI_le (Nat.le_refl _) (by omega)
    simp only [Nat.zero_add, f_X6_sum_L4, H.r1, e8, Option.bind_some, if_pos b1]
  have hw := lpn_run (fun j => (nI (sum9 (holA T.1 T.2.1) j), nI j)) _ T.2.1.length 0 LF hb he (by unfold LF; omega)
  have hw0 : lpn (f_X6_sum_L4 h m 1) LF (0, 0) = _ := hw
  simp only [f_X6_sum, f_X6_sum_J46, H.ok, if_true, hw0, Option.bind_some]
theorem M_huesLaid (H : cM h m I F J) (HA : repA (F 1) T) (W : wfT T) : f_X6_huesLaid h m = some (nI (cnt9 (anyA T.2.1) 8)) := by
  have hb : ∀ j, 0 ≤ j → j < 0 + 8 → f_X6_huesLaid_L4 h m ((fun j => (nI (cnt9 (anyA T.2.1) j), nI j)) j) = some (.inl ((fun j => (nI (cnt9 (anyA T.2.1) j), nI j)) (j + 1))) := by
    intro j _ hj
    have b1 : ¬ (8 : Int32) ≤ nI j := nI_ge (b := 8) (by omega) (by omega)
    have a0 : nI (cnt9 (anyA T.2.1) j) + (0 : Int32) = nI (cnt9 (anyA T.2.1) j + 0) := nI_add _ 0
    simp only [f_X6_huesLaid_L4, f_X6_huesLaid_J24, if_neg b1, M_anywhere H HA W (show j < 8 by omega), Option.bind_some, cnt9, nI_1]
    by_cases ht : anyA T.2.1 j = true
    · simp only [ht, if_true]
      rfl
    · have ht : anyA T.2.1 j = false := by simpa using ht
      simp only [ht, bI, Bool.false_eq_true, if_false, if_true, a0]
  have he : f_X6_huesLaid_L4 h m ((fun j => (nI (cnt9 (anyA T.2.1) j), nI j)) (0 + 8)) = some (.inr (nI (cnt9 (anyA T.2.1) 8))) := by
    have b1 : (8 : Int32) ≤ nI 8 := nI_le (a := 8) (Nat.le_refl _) (by omega)
    simp only [Nat.zero_add, f_X6_huesLaid_L4, if_pos b1]
  have hw := lpn_run (fun j => (nI (cnt9 (anyA T.2.1) j), nI j)) _ 8 0 LF hb he (by unfold LF; omega)
  have hw0 : lpn (f_X6_huesLaid_L4 h m) LF (0, 0) = _ := hw
  simp only [f_X6_huesLaid, f_X6_huesLaid_J32, H.ok, if_true, hw0, Option.bind_some]
theorem M_counted {A : AAt} (H : cM h m I F J) (HA : repA (F 1) A.1) (h6 : I 6 = nI A.2.1.length) (W : wfT A.1) {w : Nat} (hw : w < 8) : f_X6_counted h m (nI w) = some (cntA A w) := by
  have e8 : ldI h (m + 1) (8 : Int32) = some (nI A.1.2.1.length) := (H.l1 (i := 8) (by omega)).trans (congrArg some HA.2.1)
  have e9 : ldI h (m + 1) (nI 9) = some A.1.2.2.1 := (H.l1 (i := 9) (by omega)).trans (congrArg some HA.2.2.1.1)
  have e10 : ldI h (m + 1) (nI 10) = some A.1.2.2.2.1 := (H.l1 (i := 10) (by omega)).trans (congrArg some HA.2.2.1.2.1)
  have e11 : ldI h (m + 1) (nI 11) = some A.1.2.2.2.2 := (H.l1 (i := 11) (by omega)).trans (congrArg some HA.2.2.1.2.2)
  have e6 := H.i6
  rw [h6] at e6
  have a9 : ((9 : Int32) + nI 4) - 4 = nI 9 := by decide
  have a10 : ((9 : Int32) + nI 5) - 4 = nI 10 := by decide
  have a11 : ((9 : Int32) + nI 6) - 4 = nI 11 := by decide
  match w, hw with
  | 0, _ => simp only [f_X6_counted, H.ok, H.r1, if_true, e8, Option.bind_some]; rfl
  | 1, _ => simp only [f_X6_counted, f_X6_counted_J63, H.ok, if_true, M_sum0 H HA W, Option.bind_some]; rfl
  | 2, _ => simp only [f_X6_counted, f_X6_counted_J63, H.ok, if_true, M_sum1 H HA W, Option.bind_some]; rfl
  | 3, _ => simp only [f_X6_counted, H.ok, if_true, M_huesLaid H HA W, Option.bind_some]; rfl
  | 4, _ => simp only [f_X6_counted, H.ok, H.r1, if_true, a9, e9, Option.bind_some]; rfl
  | 5, _ => simp only [f_X6_counted, H.ok, H.r1, if_true, a10, e10, Option.bind_some]; rfl
  | 6, _ => simp only [f_X6_counted, H.ok, H.r1, if_true, a11, e11, Option.bind_some]; rfl
  | 7, _ => simp only [f_X6_counted, H.ok, if_true, e6, Option.bind_some]; rfl
theorem sum_zero {g : Nat → Nat} {R : RRt} (W : wfS g R) : sum9 (lenAt R) R.length = 0 ↔ R.length = 0 := by
  constructor
  · intro h1
    rcases Nat.eq_zero_or_pos R.length with h2 | h2
    · exact h2
    · obtain ⟨k, hk⟩ : ∃ k, R.length = k + 1 := ⟨R.length - 1, by omega⟩
      rw [hk] at h1
      have h3 : sum9 (lenAt R) k + lenAt R k = 0 := h1
      have h4 : 1 ≤ lenAt R k := by
        unfold lenAt
        rw [List.getElem?_eq_getElem (show k < R.length by omega)]
        exact (W.2.2 _ (List.getElem_mem _)).1.1
      omega
  · intro h1
    rw [h1]
    rfl
theorem M_share {A : AAt} (H : cM h m I F J) (HA : repA (F 1) A.1) (W : wfA A) : f_X6_share h m = some (shrA A) := by
  have hR := W.1.2.1
  have e8 : ldI h (m + 1) (8 : Int32) = some (nI A.1.2.1.length) := (H.l1 (i := 8) (by omega)).trans (congrArg some HA.2.1)
  have h1 := lenAt_le W.1
  have h2 := hol_le (g := A.1.1) (R := A.1.2.1)
  have h3 := (shrA_ok W).1
  have h4 := sum_zero W.1
  unfold shrA at h3 ⊢
  by_cases h0 : A.1.2.1.length = 0
  · rw [if_pos (h4.mpr h0)]
    have c1 : ¬ ¬ nI A.1.2.1.length = 0 := fun q => q (by rw [h0]; rfl)
    simp only [f_X6_share, f_X6_share_J33, H.ok, H.r1, if_true, e8, if_neg c1, Option.bind_some]
  · rw [if_neg (fun q => h0 (h4.mp q))] at h3 ⊢
    have c1 : ¬ nI A.1.2.1.length = 0 := nI_ne0 (by omega) (by omega)
    simp only [f_X6_share, f_X6_share_J33, H.ok, H.r1, if_true, e8, if_pos c1, M_sum0 H HA W.1, M_sum1 H HA W.1, nI_sub h2, h3, Option.bind_some]
end ModelState
