/-! PURE READING, 8: the class's State, writes -/
theorem lpn_inv {σ ρ : Type} {b : σ → Option (σ ⊕ ρ)} (I : Nat → σ → Prop) (Q : ρ → Prop) (n : Nat) (hs : ∀ j x, j < n → I j x → ∃ y, b x = some (.inl y) ∧ I (j + 1) y) (he : ∀ x, I n x → ∃ z, b x = some (.inr z) ∧ Q z) : ∀ m i k x, i + m = n → m < k → I i x → ∃ z, lpn b k x = some z ∧ Q z := by
  intro m
  induction m with
  | zero =>
    intro i k x h1 h2 h3
    obtain ⟨q, rfl⟩ : ∃ q, k = q + 1 := ⟨k - 1, by omega⟩
    rw [Nat.add_zero] at h1
    subst h1
    obtain ⟨z, h4, h5⟩ := he x h3
    refine ⟨z, ?_, h5⟩
    show (b x).bind _ = _
    rw [h4]
    rfl
  | succ m ih =>
    intro i k x h1 h2 h3
    obtain ⟨q, rfl⟩ : ∃ q, k = q + 1 := ⟨k - 1, by omega⟩
    obtain ⟨y, h4, h5⟩ := hs i x (by omega) h3
    obtain ⟨z, h6, h7⟩ := ih (i + 1) q y (by omega) (by omega) h5
    refine ⟨z, ?_, h7⟩
    show (b x).bind _ = _
    rw [h4]
    exact h6
def setSt (h : PH) (s n : Nat) (c1 c2 c3 : Int32) (gf : Nat → Int32) (rf : Nat → Option Nat) : PH := fun b => if b = s then some (.inr (.inr (2, [.ref (s + 1), .ref (s + 2), .int (nI n), .int c1, .int c2, .int c3]))) else if b = s + 1 then some (.inl (8, gf)) else if b = s + 2 then some (.inr (.inl (0, 4, rf))) else h b
section StateWrites
variable {h : PH} {s n : Nat} {c1 c2 c3 : Int32} {gf : Nat → Int32} {rf : Nat → Option Nat}
theorem setSt_c : cSt (setSt h s n c1 c2 c3 gf rf) s n c1 c2 c3 gf rf := by
  refine ⟨if_pos rfl, ?_, ?_⟩
  · show (if s + 1 = s then _ else _) = _
    rw [if_neg (by omega), if_pos rfl]
  · show (if s + 2 = s then _ else _) = _
    rw [if_neg (by omega), if_neg (by omega), if_pos rfl]
theorem setSt_n {b : Nat} (hb : b < s ∨ s + 3 ≤ b) : setSt h s n c1 c2 c3 gf rf b = h b := by
  show (if b = s then _ else _) = _
  rw [if_neg (by omega), if_neg (by omega), if_neg (by omega)]
theorem setSt_eq (H : cSt h s n c1 c2 c3 gf rf) : setSt h s n c1 c2 c3 gf rf = h := by
  funext b
  show (if b = s then _ else _) = _
  by_cases h0 : b = s
  · rw [if_pos h0, h0, H.1]
  · rw [if_neg h0]
    by_cases h1 : b = s + 1
    · rw [if_pos h1, h1, H.2.1]
    · rw [if_neg h1]
      by_cases h2 : b = s + 2
      · rw [if_pos h2, h2, H.2.2]
      · rw [if_neg h2]
theorem pu_S0 (n' : Nat) (d1 d2 d3 : Int32) : pu (setSt h s n c1 c2 c3 gf rf) s (.inr (.inr (2, [.ref (s + 1), .ref (s + 2), .int (nI n'), .int d1, .int d2, .int d3]))) = setSt h s n' d1 d2 d3 gf rf := by
  funext b
  by_cases h0 : b = s
  · subst h0
    rw [pu_s]
    exact (if_pos rfl).symm
  · rw [pu_n h0]
    show (if b = s then _ else _) = (if b = s then _ else _)
    rw [if_neg h0, if_neg h0]
theorem pu_S1 (gf' : Nat → Int32) : pu (setSt h s n c1 c2 c3 gf rf) (s + 1) (.inl (8, gf')) = setSt h s n c1 c2 c3 gf' rf := by
  funext b
  by_cases h0 : b = s + 1
  · subst h0
    rw [pu_s]
    show _ = (if s + 1 = s then _ else _)
    rw [if_neg (by omega), if_pos rfl]
  · rw [pu_n h0]
    show (if b = s then _ else _) = (if b = s then _ else _)
    rw [if_neg h0, if_neg h0]
theorem pu_S2 (rf' : Nat → Option Nat) : pu (setSt h s n c1 c2 c3 gf rf) (s + 2) (.inr (.inl (0, 4, rf'))) = setSt h s n c1 c2 c3 gf rf' := by
  funext b
  by_cases h0 : b = s + 2
  · subst h0
    rw [pu_s]
    show _ = (if s + 2 = s then _ else _)
    rw [if_neg (by omega), if_neg (by omega), if_pos rfl]
  · rw [pu_n h0]
    show (if b = s then _ else _) = (if b = s then _ else _)
    rw [if_neg h0, if_neg h0]
theorem wr_S2 (n' : Nat) : wrF (setSt h s n c1 c2 c3 gf rf) s 2 2 (.int (nI n')) = some (setSt h s n' c1 c2 c3 gf rf) := by
  rw [wrF_of _ setSt_c.1 (by simp)]
  exact congrArg some (pu_S0 _ _ _ _)
theorem wr_S3 (x : Int32) : wrF (setSt h s n c1 c2 c3 gf rf) s 2 3 (.int x) = some (setSt h s n x c2 c3 gf rf) := by
  rw [wrF_of _ setSt_c.1 (by simp)]
  exact congrArg some (pu_S0 _ _ _ _)
theorem wr_S4 (x : Int32) : wrF (setSt h s n c1 c2 c3 gf rf) s 2 4 (.int x) = some (setSt h s n c1 x c3 gf rf) := by
  rw [wrF_of _ setSt_c.1 (by simp)]
  exact congrArg some (pu_S0 _ _ _ _)
theorem wr_S5 (x : Int32) : wrF (setSt h s n c1 c2 c3 gf rf) s 2 5 (.int x) = some (setSt h s n c1 c2 x gf rf) := by
  rw [wrF_of _ setSt_c.1 (by simp)]
  exact congrArg some (pu_S0 _ _ _ _)
theorem st_S1 {u : Nat} (hu : u < 8) (x : Int32) : stI (setSt h s n c1 c2 c3 gf rf) (s + 1) (nI u) x = some (setSt h s n c1 c2 c3 (upd gf u x) rf) := by
  rw [stI_of x setSt_c.2.1 hu (by omega), pu_S1]
theorem st_S2 {i r : Nat} (hi : i < 4) (hr : okO (setSt h s n c1 c2 c3 gf rf) r 1 = true) : stQ (setSt h s n c1 c2 c3 gf rf) (s + 2) (nI i) r = some (setSt h s n c1 c2 c3 gf (va_up rf i (some r))) := by
  rw [stQ_of setSt_c.2.2 hi (by omega) (Or.inl ⟨rfl, hr⟩), pu_S2]
/-- only what lies between s and s + 15 changed -/
def onlyS (s : Nat) (h h' : PH) : Prop := ∀ b, b < s ∨ s + 15 ≤ b → h' b = h b
/-- only the State's own three cells changed -/
def on3 (s : Nat) (h h' : PH) : Prop := ∀ b, b < s ∨ s + 3 ≤ b → h' b = h b
theorem on3.only {s : Nat} {h h' : PH} (a : on3 s h h') : onlyS s h h' := fun q hq => a q (by omega)
theorem onlyS.rfl9 {s : Nat} {h : PH} : onlyS s h h := fun _ _ => rfl
theorem onlyS.tr {s : Nat} {h h' h'' : PH} (a : onlyS s h h') (b : onlyS s h' h'') : onlyS s h h'' := fun q hq => (b q hq).trans (a q hq)
theorem chg.only {s r : Nat} {h h' : PH} (a : chg r h h') (h1 : s ≤ r) (h2 : r + 3 ≤ s + 15) : onlyS s h h' := fun q hq => a q (by omega)
theorem onlyS.same {s s2 : Nat} {h h' : PH} (a : onlyS s h h') (hd : s + 15 ≤ s2 ∨ s2 + 15 ≤ s) : sameS s2 h h' := fun q h1 h2 => a q (by omega)
theorem setSt_only : onlyS s h (setSt h s n c1 c2 c3 gf rf) := fun b hb => setSt_n (by omega)
theorem setSt_on3 : on3 s h (setSt h s n c1 c2 c3 gf rf) := fun b hb => setSt_n hb
theorem cR.setSt {r l c : Nat} {cf off : Nat → Int32} (H : cR h r l c cf off) (hr : s + 3 ≤ r) : cR (setSt h s n c1 c2 c3 gf rf) r l c cf off :=
  ⟨(setSt_n (by omega)).trans H.1, (setSt_n (by omega)).trans H.2.1, (setSt_n (by omega)).trans H.2.2⟩
theorem repR.setSt {g : Nat → Nat} {r len : Nat} {L : List (Nat × Nat)} (H : repR g h r len L) (hr : s + 3 ≤ r) : repR g (setSt h s n c1 c2 c3 gf rf) r len L := by
  obtain ⟨cf, off, A1, A2, A3⟩ := H
  exact ⟨cf, off, A1.setSt hr, A2, A3⟩
theorem jR.setSt {r : Nat} (H : jR h r) (hr : s + 3 ≤ r) : jR (setSt h s n c1 c2 c3 gf rf) r := by
  obtain ⟨l, c, cf, off, A1⟩ := H
  exact ⟨l, c, cf, off, A1.setSt hr⟩
theorem jR.ok {r : Nat} (H : jR h r) : okO h r 1 = true := by
  obtain ⟨l, c, cf, off, A1⟩ := H
  exact A1.ok
theorem cSt.chg {r : Nat} {h' : PH} (H : cSt h s n c1 c2 c3 gf rf) (hc : chg r h h') (hr : s + 3 ≤ r) : cSt h' s n c1 c2 c3 gf rf :=
  ⟨(hc _ (by omega)).trans H.1, (hc _ (by omega)).trans H.2.1, (hc _ (by omega)).trans H.2.2⟩
end StateWrites
section StateOps2
variable {h : PH} {s : Nat} {g : Nat → Nat} {R : List (Nat × List (Nat × Nat))} {c1 c2 c3 : Int32}
/-- the gaps of a State in which no rope has the hue -/
theorem repR.gap {r len u x : Nat} {L : List (Nat × Nat)} (H : repR g h r len L) (hu : phs L u = none) : repR (fun v => if v = u then x else g v) h r len L := by
  obtain ⟨cf, off, A1, A2, A3⟩ := H
  refine ⟨cf, off, A1, A2, fun i hi => (A3 i hi).trans ?_⟩
  congr 1
  have h1 : ∀ q ∈ L, tkb g q i = tkb (fun v => if v = u then x else g v) q i := by
    intro q hq
    have h2 := phs_none.mp hu q hq
    show _ = decide (q.2 ≤ i ∧ (i - q.2) % (if q.1 = u then x else g q.1) = 0)
    rw [if_neg h2]
    rfl
  unfold col
  congr 1
  clear A3 A2 A1 hu
  induction L with
  | nil => rfl
  | cons a L ih =>
    rw [List.find?_cons, List.find?_cons, h1 a (List.mem_cons_self), ih (fun q hq => h1 q (List.mem_cons_of_mem _ hq))]
theorem S_setGap (H : repS h s g R c1 c2 c3) {u x : Nat} (hu : u < 8) (hno : ∀ X ∈ R, phs X.2 u = none) : ∃ h', f_X3_setGap h s (nI u) (nI x) = some h' ∧ repS h' s (fun v => if v = u then x else g v) R c1 c2 c3 ∧ onlyS s h h' := by
  obtain ⟨gf, rf, π, H1, H2, H3, H4, H5⟩ := H
  have e1 : ¬ nI u < 0 := nI_pos (by omega)
  have e2 : ¬ nI 8 ≤ nI u := nI_ge hu (by omega)
  have e3 := st_S1 (h := h) (s := s) (n := R.length) (c1 := c1) (c2 := c2) (c3 := c3) (gf := gf) (rf := rf) hu (nI x)
  rw [setSt_eq H1] at e3
  refine ⟨setSt h s R.length c1 c2 c3 (upd gf u (nI x)) rf, ?_, ⟨_, _, π, setSt_c, fun v hv => ?_, fun j hj => ⟨(H3 j hj).1, (H3 j hj).2.1, (H3 j hj).2.2.setSt (by omega)⟩, H4, fun j Y hj => ((H5 j Y hj).setSt (by omega)).gap (hno Y (List.mem_of_getElem? hj))⟩, setSt_only⟩
  · simp only [f_X3_setGap, f_X3_setGap_J20, H1.ok, H1.r0, H1.n0, if_true, Option.bind_some, if_neg e1, if_neg e2, e3]
  · show (if v = u then nI x else gf v) = nI (if v = u then x else g v)
    by_cases h1 : v = u
    · rw [if_pos h1, if_pos h1]
    · rw [if_neg h1, if_neg h1]
      exact H2 v hv
/-- the three counts written anew -/
theorem repS.counts (H : repS h s g R c1 c2 c3) (d1 d2 d3 : Int32) : ∃ gf rf, setSt h s R.length c1 c2 c3 gf rf = h ∧ repS (setSt h s R.length d1 d2 d3 gf rf) s g R d1 d2 d3 := by
  obtain ⟨gf, rf, π, H1, H2, H3, H4, H5⟩ := H
  exact ⟨gf, rf, setSt_eq H1, gf, rf, π, setSt_c, H2, fun j hj => ⟨(H3 j hj).1, (H3 j hj).2.1, (H3 j hj).2.2.setSt (by omega)⟩, H4, fun j Y hj => (H5 j Y hj).setSt (by omega)⟩
theorem S_countJoin (H : repS h s g R c1 c2 c3) : ∃ h', f_X3_countJoin h s = some h' ∧ repS h' s g R c1 (c2 + 1) c3 ∧ on3 s h h' := by
  obtain ⟨gf, rf, e1, e2⟩ := H.counts c1 (c2 + 1) c3
  have e3 := wr_S4 (h := h) (s := s) (n := R.length) (c1 := c1) (c2 := c2) (c3 := c3) (gf := gf) (rf := rf) (c2 + 1)
  rw [e1] at e3
  obtain ⟨_, _, _, H1, -⟩ := H
  refine ⟨_, ?_, e2, setSt_on3⟩
  simp only [f_X3_countJoin, H1.ok, H1.r4, if_true, Option.bind_some, e3]
theorem S_countCut (H : repS h s g R c1 c2 c3) : ∃ h', f_X3_countCut h s = some h' ∧ repS h' s g R c1 c2 (c3 + 1) ∧ on3 s h h' := by
  obtain ⟨gf, rf, e1, e2⟩ := H.counts c1 c2 (c3 + 1)
  have e3 := wr_S5 (h := h) (s := s) (n := R.length) (c1 := c1) (c2 := c2) (c3 := c3) (gf := gf) (rf := rf) (c3 + 1)
  rw [e1] at e3
  obtain ⟨_, _, _, H1, -⟩ := H
  refine ⟨_, ?_, e2, setSt_on3⟩
  simp only [f_X3_countCut, H1.ok, H1.r5, if_true, Option.bind_some, e3]
theorem S_layOn (W : wfS g R) (H : repS h s g R c1 c2 c3) {i : Nat} {X : Nat × List (Nat × Nat)} (hi : R[i]? = some X) {r : Nat} (hr : f_X3_ropeAt h s (nI i) = some (some r)) {u p : Nat} (hu : u < 8) (W' : wfR g X.1 (X.2 ++ [(u, p)])) : ∃ h', f_X3_layOn h s r (nI u) (nI p) = some (nI (stp9 X.1 p (g u)), h') ∧ repS h' s g (R.set i (X.1, X.2 ++ [(u, p)])) (c1 + 1) c2 c3 ∧ onlyS s h h' := by
  obtain ⟨gf, rf, e1, e2⟩ := H.counts (c1 + 1) c2 c3
  have e3 := wr_S3 (h := h) (s := s) (n := R.length) (c1 := c1) (c2 := c2) (c3 := c3) (gf := gf) (rf := rf) (c1 + 1)
  rw [e1] at e3
  obtain ⟨r', f1, f2, f3, f4⟩ := S_ropeAt W H hi
  obtain ⟨r'', k1, k2, k3, k4⟩ := S_ropeAt W e2 hi
  rw [hr] at f1
  cases f1
  have hsame : f_X3_ropeAt (setSt h s R.length (c1 + 1) c2 c3 gf rf) s (nI i) = some (some r) := by
    obtain ⟨gf9, rf9, π9, A1, -⟩ := H
    have hi2 := (List.getElem?_eq_some_iff.mp hi).1
    have e5 : cSt h s R.length c1 c2 c3 gf rf := by
      have e6 := setSt_c (h := h) (s := s) (n := R.length) (c1 := c1) (c2 := c2) (c3 := c3) (gf := gf) (rf := rf)
      rw [e1] at e6
      exact e6
    rw [X3_ropeAt setSt_c W.2.1 hi2, ← X3_ropeAt e5 W.2.1 hi2, hr]
  rw [hsame] at k1
  cases k1
  obtain ⟨h', p1, p2, p3⟩ := R_put W.1 W' k2
  refine ⟨h', ?_, S_set W e2 hi hsame p3 p2, setSt_only.tr (p3.only (by omega) (by omega))⟩
  obtain ⟨_, _, _, H1, -⟩ := H
  simp only [f_X3_layOn, H1.ok, H1.r3, if_true, Option.bind_some, e3, S_gapAt e2 hu, p1]
end StateOps2
