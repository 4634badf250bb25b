/-! PURE READING, 6: the class's Rope against the mathematical rope: numbers and writes -/
theorem fil9_congr {P Q : Nat → Bool} {w : Nat → Nat} : ∀ {n : Nat}, (∀ i, i < n → P i = Q i) → fil9 P w n = fil9 Q w n := by
  intro n
  induction n with
  | zero => intro _; rfl
  | succ n ih =>
    intro h
    simp only [fil9]
    rw [ih (fun i hi => h i (by omega)), h n (by omega)]
section RopeOps2
variable {g : Nat → Nat} {h : PH} {r len : Nat} {L : List (Nat × Nat)}
def hnA (g : Nat → Nat) (len : Nat) (L : List (Nat × Nat)) (u w : Nat) : Int32 := match phs L u with
  | none => -1
  | some p => if w = 0 then nI p else if w = 1 then nI (stp9 len p (g u)) else if w = 2 then nI (lst p (g u) len) else oI (ixo L u)
def pnA (g : Nat → Nat) (len : Nat) (L : List (Nat × Nat)) (u w : Nat) : Int32 := if w = 0 then nI (cnt9 (fun p => decide (whyA g len L u p = 0)) (g u)) else if w = 1 then oI (fst9 (fun p => decide (whyA g len L u p = 0)) 0 (g u)) else oI (fil9 (fun p => decide (whyA g len L u p = 0)) (fun p => stp9 len p (g u)) (g u)).1
theorem R_hueNumber (hg : wfg g) (W : wfR g len L) (H : repR g h r len L) {u : Nat} (hu : u < 2 ^ 31) {w : Nat} (hw : w < 4) : f_X2_hueNumber h r (nI u) (nI w) = some (hnA g len L u w) := by
  have H0 := H
  obtain ⟨cf, off, H1, H2, H3⟩ := H
  rw [X2_hueNumber H1 W.1.2 W.le8 _ hw]
  unfold hnC hnA
  rw [ixo_eq W H2 hu]
  cases h1 : ixo L u with
  | none => rw [ixo_none.mp h1]
  | some k =>
    obtain ⟨p, h2⟩ := ixo_some h1
    have hq : (u, p) ∈ L := List.mem_of_getElem? h2
    rw [phs_of W.2.1 hq]
    have e1 := (X2_firstFrom H1 W.1.2 (nI u) (a := 0) (Nat.zero_le _)).symm.trans (R_first0 hg W H0 hq)
    have e2 := (X2_placesOf H1 W.1.2 (nI u)).symm.trans (R_placesOf hg W H0 hq)
    have e3 := (X2_lastOf H1 W.1.2 (nI u)).symm.trans (R_lastOf hg W H0 hq)
    rw [Nat.sub_zero] at e1
    dsimp only
    rw [Option.some.inj e1, Option.some.inj e2, Option.some.inj e3]
    rfl
theorem R_phaseNumber (hg : wfg g) (W : wfR g len L) (H : repR g h r len L) {u : Nat} (hu : u < 2 ^ 31) {w : Nat} (hw : w < 3) : f_X2_phaseNumber h r (nI u) (nI (g u)) (nI w) = some (pnA g len L u w) := by
  obtain ⟨cf, off, H1, H2, H3⟩ := H
  have := hg u
  have e : ∀ p, whyC len L.length cf off (nI u) p (g u) = whyA g len L u p := whyC_eq hg W H2 H3 hu
  rw [X2_phaseNumber H1 W.1.2 W.le8 _ (by omega) (by omega) hw]
  unfold pnC pnA
  simp only [e]
theorem R_fillingPhase (hg : wfg g) (W : wfR g len L) (H : repR g h r len L) {u : Nat} (hu : u < 2 ^ 31) : f_X2_fillingPhase h r (nI u) (nI (g u)) = some (pnA g len L u 2) := by
  obtain ⟨cf, off, H1, H2, H3⟩ := H
  have := hg u
  have e : ∀ p, whyC len L.length cf off (nI u) p (g u) = whyA g len L u p := whyC_eq hg W H2 H3 hu
  rw [X2_fillingPhase H1 W.1.2 W.le8 _ (by omega) (by omega)]
  unfold pnA
  simp only [e]
  rfl
theorem R_mostHoles (W : wfR g len L) (H : repR g h r len L) : f_X2_mostHolesSideBySide h r = some (nI (mho9 (fun i => decide (col g L i = none)) len)) := by
  obtain ⟨cf, off, H1, H2, H3⟩ := H
  rw [X2_mostHoles H1 W.1.2]
  have h1 : ∀ n, n ≤ len → mho9 (fun p => decide (cf p = -1)) n = mho9 (fun i => decide (col g L i = none)) n ∧ hol9 (fun p => decide (cf p = -1)) n = hol9 (fun i => decide (col g L i = none)) n := by
    intro n
    induction n with
    | zero => intro _; exact ⟨rfl, rfl⟩
    | succ n ih =>
      intro hn
      obtain ⟨i1, i2⟩ := ih (by omega)
      have h2 := cf_eq0 W H3 (show n < len by omega)
      simp only [mho9, hol9, i1, i2, h2, and_self]
  rw [(h1 len (Nat.le_refl _)).1]
theorem R_differences {r2 : Nat} {L2 : List (Nat × Nat)} (W : wfR g len L) (H : repR g h r len L) (W2 : wfR g len L2) (H2 : repR g h r2 len L2) : f_X2_differences h r r2 = some (nI (cnt9 (fun i => decide (¬ col g L i = col g L2 i)) len)) := by
  obtain ⟨cf, off, A1, A2, A3⟩ := H
  obtain ⟨cf2, off2, B1, B2, B3⟩ := H2
  rw [X2_differences A1 B1 W.1.2]
  congr 2
  refine cnt9_congr (fun i hi => ?_)
  rw [A3 i hi, B3 i hi]
  have h1 := oI_inj (x := col g L i) (y := col g L2 i) (fun n hn => by have := col_lt W hn; omega) (fun n hn => by have := col_lt W2 hn; omega)
  simp only [h1]
/-- only the rope at r changed -/
def chg (r : Nat) (h h' : PH) : Prop := ∀ b, b < r ∨ r + 3 ≤ b → h' b = h b
theorem chg.rf {r : Nat} {h : PH} : chg r h h := fun _ _ => rfl
theorem chg.tr {r : Nat} {h h' h'' : PH} (a : chg r h h') (b : chg r h' h'') : chg r h h'' := fun q hq => (b q hq).trans (a q hq)
theorem chg_set {l c : Nat} {cf off : Nat → Int32} : chg r h (setR h r l c cf off) := fun _ hb => setR_n hb
theorem cR.chg {r2 l c : Nat} {cf off : Nat → Int32} {h' : PH} (H : cR h r l c cf off) (hc : chg r2 h h') (hd : r2 + 3 ≤ r ∨ r + 3 ≤ r2) : cR h' r l c cf off :=
  ⟨(hc _ (by omega)).trans H.1, (hc _ (by omega)).trans H.2.1, (hc _ (by omega)).trans H.2.2⟩
theorem repR.chg {r2 : Nat} {h' : PH} (H : repR g h r len L) (hc : chg r2 h h') (hd : r2 + 3 ≤ r ∨ r + 3 ≤ r2) : repR g h' r len L := by
  obtain ⟨cf, off, A1, A2, A3⟩ := H
  exact ⟨cf, off, A1.chg hc hd, A2, A3⟩
/-- a Rope with any cells -/
def jR (h : PH) (r : Nat) : Prop := ∃ len cnt cf off, cR h r len cnt cf off
theorem jR.chg {r2 : Nat} {h' : PH} (H : jR h r) (hc : chg r2 h h') (hd : r2 + 3 ≤ r ∨ r + 3 ≤ r2) : jR h' r := by
  obtain ⟨l, c, cf, off, A1⟩ := H
  exact ⟨l, c, cf, off, A1.chg hc hd⟩
theorem repR.j (H : repR g h r len L) : jR h r := by
  obtain ⟨cf, off, A1, -, -⟩ := H
  exact ⟨_, _, cf, off, A1⟩
theorem R_begin (g : Nat → Nat) (H : jR h r) {n : Nat} (hn : n ≤ 60) : ∃ h', f_X2_begin h r (nI n) = some h' ∧ repR g h' r n [] ∧ chg r h h' := by
  obtain ⟨l, c, cf, off, A1⟩ := H
  have e := X2_begin (h := h) (r := r) (len := l) (cnt := c) (cf := cf) (off := off) hn
  rw [setR_eq A1] at e
  refine ⟨_, e, ⟨_, _, setR_cR, fun k q hk => by simp at hk, fun i hi => ?_⟩, chg_set⟩
  rw [fill9_at, if_pos (by omega)]
  rfl
theorem lay9_at (cf : Nat → Int32) (u : Int32) (p s i : Nat) : ∀ n, lay9 cf u p s n i = if ∃ j, j < n ∧ i = p + j * s then u else cf i := by
  intro n
  induction n with
  | zero => rw [if_neg (by rintro ⟨j, hj, -⟩; omega)]; rfl
  | succ n ih =>
    show (if i = p + n * s then u else lay9 cf u p s n i) = _
    by_cases h1 : i = p + n * s
    · rw [if_pos h1, if_pos ⟨n, by omega, h1⟩]
    · rw [if_neg h1, ih]
      by_cases h2 : ∃ j, j < n ∧ i = p + j * s
      · obtain ⟨j, hj, hi⟩ := h2
        rw [if_pos ⟨j, hj, hi⟩, if_pos ⟨j, by omega, hi⟩]
      · rw [if_neg h2, if_neg]
        rintro ⟨j, hj, hi⟩
        by_cases h3 : j = n
        · rw [h3] at hi; exact h1 hi
        · exact h2 ⟨j, by omega, hi⟩
theorem R_put (hg : wfg g) {u p : Nat} (W : wfR g len (L ++ [(u, p)])) (H : repR g h r len L) : ∃ h', f_X2_put h r (nI u) (nI p) (nI (g u)) = some (nI (stp9 len p (g u)), h') ∧ repR g h' r len (L ++ [(u, p)]) ∧ chg r h h' := by
  obtain ⟨cf, off, A1, A2, A3⟩ := H
  have hgu := hg u
  have h8 := W.le8
  rw [List.length_append] at h8
  have h8' : L.length + 1 ≤ 8 := h8
  have hm : (u, p) ∈ L ++ [(u, p)] := List.mem_append_right _ (List.mem_singleton_self _)
  obtain ⟨q1, q2, q3⟩ := W.2.2.1 _ hm
  have e := X2_put (h := h) (r := r) (len := len) (cnt := L.length) (cf := cf) (off := off) (p := p) (g := g u) (nI u) W.1.2 (by omega) q2 (by omega) (by omega)
  rw [setR_eq A1] at e
  refine ⟨_, e, ⟨lay9 cf (nI u) p (g u) (stp9 len p (g u)), upd off L.length (nI u), ?_, fun k q hk => ?_, fun i hi => ?_⟩, chg_set⟩
  · rw [List.length_append]
    exact setR_cR
  · show (if k = L.length then nI u else off k) = _
    rcases Nat.lt_trichotomy k L.length with h1 | h1 | h1
    · rw [if_neg (by omega)]
      rw [List.getElem?_append_left h1] at hk
      exact A2 k q hk
    · rw [if_pos h1]
      subst h1
      rw [List.getElem?_append_right (Nat.le_refl _), Nat.sub_self] at hk
      cases hk
      rfl
    · rw [List.getElem?_eq_none (by rw [List.length_append]; exact h1)] at hk
      cases hk
  · rw [lay9_at]
    by_cases ht : tkb g (u, p) i = true
    · rw [W.col_of hm hi ht]
      obtain ⟨j, hj⟩ := tkb_iff.mp ht
      have hj2 : i = p + j * g u := hj
      rw [if_pos ⟨j, (stp9_lt (by omega)).mpr (by omega), hj2⟩]
      rfl
    · rw [if_neg (fun ⟨j, _, hj⟩ => ht (tkb_iff.mpr ⟨j, hj⟩)), A3 i hi]
      congr 1
      unfold col
      rw [List.find?_append]
      have h9 : [(u, p)].find? (fun q => tkb g q i) = none := by
        rw [List.find?_eq_none]
        intro q hq
        rw [List.mem_singleton.mp hq]
        exact ht
      rw [h9, Option.or_none]
theorem erase_filter {L : List (Nat × Nat)} (hn : (L.map Prod.fst).Nodup) {u p : Nat} : ∀ {k : Nat}, L[k]? = some (u, p) → L.eraseIdx k = L.filter (fun q => decide (¬ q.1 = u)) := by
  induction L with
  | nil => intro k hk; simp at hk
  | cons a L ih =>
    rw [List.map_cons, List.nodup_cons] at hn
    intro k hk
    cases k with
    | zero =>
      rw [List.getElem?_cons_zero] at hk
      cases hk
      show L = List.filter _ _
      rw [List.filter_cons_of_neg (by simp)]
      refine (List.filter_eq_self.mpr (fun q hq => ?_)).symm
      have : ¬ q.1 = u := fun e => hn.1 (List.mem_map.mpr ⟨q, hq, e⟩)
      simp [this]
    | succ k =>
      rw [List.getElem?_cons_succ] at hk
      have h1 : ¬ a.1 = u := fun e => hn.1 (List.mem_map.mpr ⟨(u, p), List.mem_of_getElem? hk, e.symm⟩)
      rw [List.eraseIdx_cons_succ, ih hn.2 hk, List.filter_cons_of_pos (by simp [h1])]
theorem R_remove (hg : wfg g) (W : wfR g len L) (H : repR g h r len L) {u p : Nat} (hq : (u, p) ∈ L) : ∃ h', f_X2_remove h r (nI u) = some (nI (stp9 len p (g u)), h') ∧ repR g h' r len (L.filter (fun q => decide (¬ q.1 = u))) ∧ chg r h h' := by
  have H0 := H
  obtain ⟨cf, off, A1, A2, A3⟩ := H
  have hu := (W.2.2.1 _ hq).1
  cases h1 : ixo L u with
  | none => exact absurd (phs_of W.2.1 hq) (by rw [ixo_none.mp h1]; simp)
  | some k =>
    obtain ⟨p', h2⟩ := ixo_some h1
    have h3 : (u, p') = (u, p) := nodup_fst W.2.1 _ (List.mem_of_getElem? h2) _ hq rfl
    rw [h3] at h2
    obtain ⟨hk, -⟩ := List.getElem?_eq_some_iff.mp h2
    have e := X2_remove (h := h) (r := r) (len := len) (cnt := L.length) (cf := cf) (off := off) W.1.2 W.le8 ((ixo_eq W A2 (by omega)).trans h1)
    rw [setR_eq A1] at e
    have e2 := Option.some.inj ((X2_placesOf A1 W.1.2 (nI u)).symm.trans (R_placesOf hg W H0 hq))
    rw [e2] at e
    refine ⟨_, e, ⟨clrC cf (nI u) len, shlC off k (L.length - 1), ?_, fun j q hj => ?_, fun i hi => ?_⟩, chg_set⟩
    · rw [← erase_filter W.2.1 h2, List.length_eraseIdx, if_pos hk]
      exact setR_cR
    · rw [← erase_filter W.2.1 h2, List.getElem?_eraseIdx] at hj
      show (if _ then _ else _) = _
      by_cases h5 : j < k
      · rw [if_pos h5] at hj
        rw [if_neg (by omega)]
        exact A2 j q hj
      · rw [if_neg h5] at hj
        have h6 := (List.getElem?_eq_some_iff.mp hj).1
        rw [if_pos (by omega)]
        exact A2 _ q hj
    · show (if _ then _ else _) = _
      have h6 := W.col_iff hq hi
      have h7 := oI_inj (x := col g L i) (y := some u) (fun n hn => by have := col_lt W hn; omega) (fun n hn => by cases hn; omega)
      rw [A3 i hi]
      by_cases ht : tkb g (u, p) i = true
      · have h8 := W.col_of hq hi ht
        rw [if_pos ⟨hi, h7.mpr h8⟩]
        have h9 : col g (L.filter (fun q => decide (¬ q.1 = u))) i = none := by
          rw [col_none]
          intro q hq2
          obtain ⟨m1, m2⟩ := List.mem_filter.mp hq2
          cases h10 : tkb g q i with
          | false => rfl
          | true =>
            rw [W.2.2.2 q m1 _ hq i hi h10 ht] at m2
            simp at m2
        rw [h9]
        rfl
      · rw [if_neg (fun q9 => ht (h6.mp (h7.mp q9.2)))]
        congr 1
        cases h10 : col g L i with
        | none =>
          symm
          rw [col_none]
          intro q hq2
          exact col_none.mp h10 q (List.mem_filter.mp hq2).1
        | some v =>
          obtain ⟨pv, m1, m2⟩ := col_mem h10
          have hv : ¬ v = u := fun e9 => ht (h6.mp (by rw [h10, e9]))
          symm
          exact (W.sub List.filter_sublist).col_of (q := (v, pv)) (List.mem_filter.mpr ⟨m1, by simp [hv]⟩) hi m2
theorem R_remove_n (W : wfR g len L) (H : repR g h r len L) {u : Nat} (hu : u < 2 ^ 31) (hq : phs L u = none) : f_X2_remove h r (nI u) = some (0, h) := by
  obtain ⟨cf, off, A1, A2, A3⟩ := H
  have e := X2_remove_n (h := h) (r := r) (len := len) (cnt := L.length) (cf := cf) (off := off) W.le8 ((ixo_eq W A2 hu).trans (ixo_none.mpr hq))
  rw [setR_eq A1] at e
  exact e
theorem R_copyFrom {r2 : Nat} (J : jR h r) (W : wfR g len L) (H : repR g h r2 len L) (hd : r2 + 3 ≤ r ∨ r + 3 ≤ r2) : ∃ h', f_X2_copyFrom h r r2 = some h' ∧ repR g h' r len L ∧ chg r h h' := by
  obtain ⟨l0, c0, cf0, off0, A0⟩ := J
  obtain ⟨cf, off, A1, A2, A3⟩ := H
  have e := X2_copyFrom (h := h) (r := r) (len := l0) (cnt := c0) (cf := cf0) (off := off0) A1 hd
  rw [setR_eq A0] at e
  refine ⟨_, e, ⟨_, _, setR_cR, fun k q hk => ?_, fun i hi => ?_⟩, chg_set⟩
  · have h1 := (List.getElem?_eq_some_iff.mp hk).1
    have h2 := W.le8
    rw [fill9_at, if_pos (by omega)]
    exact A2 k q hk
  · have h2 := W.1.2
    rw [fill9_at, if_pos (by omega)]
    exact A3 i hi
end RopeOps2
