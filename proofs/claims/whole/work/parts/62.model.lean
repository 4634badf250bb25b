/-! PURE READING, 31: the reference: ropes added, dropped, turned, joined -/
theorem phs_iff {L : List (Nat × Nat)} (hn : (L.map Prod.fst).Nodup) {u p : Nat} : phs L u = some p ↔ (u, p) ∈ L := ⟨phs_mem, phs_of hn⟩
theorem opt_ext {x y : Option Nat} (h : ∀ p, x = some p ↔ y = some p) : x = y := by
  cases x with
  | none =>
    cases y with
    | none => rfl
    | some q => exact absurd ((h q).mpr rfl) (by simp)
  | some p => exact ((h p).mp rfl).symm
/-- a bind, not by unfolding: where a number that is read goes into the next index, the kernel would unfold that -/
theorem bs9 {α β : Type} (x : α) (f : α → Option β) : (some x).bind f = f x := by rw [Option.bind_some]
section ModelWrites2
variable {h : PH} {m : Nat} {I : Nat → Int32} {F : Nat → Nat → Int32} {J : Int64} {s : Nat → Int32} {g : Nat → Nat} {i : Nat} {T : TTt}
theorem M_adds (H : cM h m I (upF F 1 s) J) (HA : repA s T) (W : wfT T) (hR : T.2.1.length < 4) (n : Nat) : ∃ h' s', f_X6_adds h m (nI n) = some h' ∧ cM h' m I (upF F 1 s') J ∧ onM m h h' ∧ repA s' (T.1, T.2.1 ++ [(n, [])], T.2.2) := by
  have e8 : ldI h (m + 1) (8 : Int32) = some (nI T.2.1.length) := (H.l1' (i := 8) (by omega)).trans (congrArg some HA.2.1)
  obtain ⟨h1, s1, a1, a2, a3, a4, a5⟩ := M_clears H hR n
  have e9 : ldI h1 (m + 1) (8 : Int32) = some (nI T.2.1.length) := (a2.l1' (i := 8) (by omega)).trans (congrArg some ((a5 8 (by omega)).trans HA.2.1))
  obtain ⟨h2, b1, b2, b3⟩ := a2.s1' (i := 8) (by omega) (nI (T.2.1.length + 1))
  have b1 : stI h1 (m + 1) (8 : Int32) (nI (T.2.1.length + 1)) = some h2 := b1
  obtain ⟨A1, A2, ⟨A3, A4, A5⟩, A6⟩ := HA
  refine ⟨h2, _, ?_, b2, a3.tr b3, fun u hu => ?_, ?_, ⟨?_, ?_, ?_⟩, fun j X hj => ?_⟩
  · simp only [f_X6_adds, H.ok, H.r1, a2.r1, if_true, e8, a1, e9, nI_1, b1, Option.bind_some]
  · rw [upd_n _ _ (by omega), a5 u (by omega)]; exact A1 u hu
  · rw [upd_s]
    show _ = nI (T.2.1 ++ [(n, [])]).length
    rw [List.length_append]
    rfl
  · rw [upd_n _ _ (by omega), a5 9 (by omega)]; exact A3
  · rw [upd_n _ _ (by omega), a5 10 (by omega)]; exact A4
  · rw [upd_n _ _ (by omega), a5 11 (by omega)]; exact A5
  · have hj : (T.2.1 ++ [(n, [])])[j]? = some X := hj
    rcases Nat.lt_trichotomy j T.2.1.length with c | c | c
    · rw [List.getElem?_append_left c] at hj
      exact (A6 j X hj).kp (W.2.2 X (List.mem_of_getElem? hj)).le8 (fun t t1 t2 => by rw [upd_n _ _ (by omega), a5 t (by omega)])
    · subst c
      rw [List.getElem?_append_right (Nat.le_refl _), Nat.sub_self] at hj
      cases hj
      exact a4.kp (by simp) (fun t t1 t2 => by rw [upd_n _ _ (by omega)])
    · rw [List.getElem?_eq_none (by rw [List.length_append]; exact c)] at hj
      cases hj
theorem repA.set (HA : repA s T) (W : wfT T) {s' : Nat → Int32} (ho : sOn i s s') {X : Nat × List (Nat × Nat)} (HQ : repQ s' i X) : repA s' (T.1, T.2.1.set i X, T.2.2) := by
  obtain ⟨A1, A2, ⟨A3, A4, A5⟩, A6⟩ := HA
  refine ⟨fun u hu => (ho u (by omega)).trans (A1 u hu), ?_, ⟨(ho 9 (by omega)).trans A3, (ho 10 (by omega)).trans A4, (ho 11 (by omega)).trans A5⟩, fun j Y hj => ?_⟩
  · show _ = nI (T.2.1.set i X).length
    rw [List.length_set, ho 8 (by omega)]
    exact A2
  · have hj : (T.2.1.set i X)[j]? = some Y := hj
    rw [List.getElem?_set] at hj
    by_cases c : i = j
    · subst c
      rw [if_pos rfl] at hj
      split at hj
      · cases hj; exact HQ
      · cases hj
    · rw [if_neg c] at hj
      exact (A6 j Y hj).kp (W.2.2 Y (List.mem_of_getElem? hj)).le8 (fun t t1 t2 => ho t (by omega))
/-- the three counts written anew -/
theorem repA.cnt (HA : repA s T) (W : wfT T) {k : Nat} (hk : k = 9 ∨ k = 10 ∨ k = 11) (x : Int32) : repA (upd s k x) (T.1, T.2.1, if k = 9 then x else T.2.2.1, if k = 10 then x else T.2.2.2.1, if k = 11 then x else T.2.2.2.2) := by
  obtain ⟨A1, A2, ⟨A3, A4, A5⟩, A6⟩ := HA
  refine ⟨fun u hu => by rw [upd_n _ _ (by omega)]; exact A1 u hu, by rw [upd_n _ _ (by omega)]; exact A2, ⟨?_, ?_, ?_⟩, fun j Y hj => (A6 j Y hj).kp (W.2.2 Y (List.mem_of_getElem? hj)).le8 (fun t t1 t2 => upd_n _ _ (by omega))⟩
  · show upd s k x 9 = if k = 9 then x else T.2.2.1
    by_cases c : k = 9
    · rw [if_pos c, c, upd_s]
    · rw [if_neg c, upd_n _ _ (by omega)]; exact A3
  · show upd s k x 10 = if k = 10 then x else T.2.2.2.1
    by_cases c : k = 10
    · rw [if_pos c, c, upd_s]
    · rw [if_neg c, upd_n _ _ (by omega)]; exact A4
  · show upd s k x 11 = if k = 11 then x else T.2.2.2.2
    by_cases c : k = 11
    · rw [if_pos c, c, upd_s]
    · rw [if_neg c, upd_n _ _ (by omega)]; exact A5
theorem M_drops (H : cM h m I (upF F 1 s) J) (HA : repA s T) (W : wfT T) (hi : i < T.2.1.length) : ∃ h' s', f_X6_drops h m (nI i) = some h' ∧ cM h' m I (upF F 1 s') J ∧ onM m h h' ∧ repA s' (T.1, T.2.1.eraseIdx i, T.2.2) := by
  have hR := W.2.1
  have e8 : ldI h (m + 1) (8 : Int32) = some (nI T.2.1.length) := (H.l1' (i := 8) (by omega)).trans (congrArg some HA.2.1)
  obtain ⟨N, hN⟩ : ∃ N, T.2.1.length = N + 1 := ⟨T.2.1.length - 1, by omega⟩
  obtain ⟨h1, a1, a2, a3⟩ := H.s1' (i := 8) (by omega) (nI N)
  have a1 : stI h (m + 1) (8 : Int32) (nI N) = some h1 := a1
  -- the cells move
  obtain ⟨h2, q1, s2, q2, q3, q4, q5, q6⟩ := lpn_inv (b := f_X6_drops_L17 m) (fun j (z : Int32 × PH) => z.1 = nI (12 + 18 * i + j) ∧ ∃ s', cM z.2 m I (upF F 1 s') J ∧ onM m h z.2 ∧ s' 8 = nI N ∧ (∀ t, t < j → s' (12 + 18 * i + t) = s (12 + 18 * i + t + 18)) ∧ ∀ t, (t < 12 + 18 * i ∨ 12 + 18 * i + j ≤ t) → ¬ t = 8 → s' t = s t) (fun z => ∃ s', cM z m I (upF F 1 s') J ∧ onM m h z ∧ s' 8 = nI N ∧ (∀ t, t < 18 * (N - i) → s' (12 + 18 * i + t) = s (12 + 18 * i + t + 18)) ∧ ∀ t, (t < 12 + 18 * i ∨ 12 + 18 * N ≤ t) → ¬ t = 8 → s' t = s t) (18 * (N - i)) (by
    rintro j ⟨z1, z2⟩ hj ⟨i1, s', i2, i3, i4, i5, i6⟩
    dsimp only at i1 i2 i3
    subst i1
    have l8 : ldI z2 (m + 1) (8 : Int32) = some (nI N) := (i2.l1' (i := 8) (by omega)).trans (congrArg some i4)
    have c1 : ¬ nI (12 + 18 * N) ≤ nI (12 + 18 * i + j) := nI_ge (by omega) (by omega)
    have e1 : nI (12 + 18 * i + j) + (18 : Int32) = nI (12 + 18 * i + j + 18) := nI_add _ 18
    have l2 := i2.l1' (show 12 + 18 * i + j + 18 < 84 by omega)
    rw [i6 (12 + 18 * i + j + 18) (by omega) (by omega)] at l2
    obtain ⟨y1, d1, d2, d3⟩ := i2.s1' (show 12 + 18 * i + j < 84 by omega) (s (12 + 18 * i + j + 18))
    refine ⟨(nI (12 + 18 * i + (j + 1)), y1), ?_, rfl, _, d2, i3.tr d3, ?_, fun t ht => ?_, fun t ht h8 => ?_⟩
    · simp only [f_X6_drops_L17, i2.r1, l8, bs9]
      rw [M_of0, Option.bind_some, if_neg c1, e1, l2, Option.bind_some, d1, Option.bind_some, nI_1, show 12 + 18 * i + j + 1 = 12 + 18 * i + (j + 1) by omega]
    · rw [upd_n _ _ (by omega)]; exact i4
    · by_cases htj : t = j
      · rw [htj, upd_s]
      · rw [upd_n _ _ (by omega)]; exact i5 t (by omega)
    · rw [upd_n _ _ (by omega)]; exact i6 t (by omega) h8) (by
    rintro ⟨z1, z2⟩ ⟨i1, s', i2, i3, i4, i5, i6⟩
    dsimp only at i1 i2 i3
    subst i1
    have l8 : ldI z2 (m + 1) (8 : Int32) = some (nI N) := (i2.l1' (i := 8) (by omega)).trans (congrArg some i4)
    have c1 : nI (12 + 18 * N) ≤ nI (12 + 18 * i + 18 * (N - i)) := nI_le (by omega) (by omega)
    refine ⟨z2, ?_, s', i2, i3, i4, i5, fun t ht h8 => i6 t (by omega) h8⟩
    simp only [f_X6_drops_L17, i2.r1, l8, M_of0, if_pos c1, bs9]) (18 * (N - i)) 0 LF (nI (12 + 18 * i), h1) (by omega) (by unfold LF; omega) ⟨by rw [Nat.add_zero], _, a2, a3, upd_s _ _ _, fun t ht => by omega, fun t ht h8 => upd_n _ _ h8⟩
  -- the last cells are cleared
  obtain ⟨h3, r1, s3, r2, r3, r4⟩ := lpn_inv (b := f_X6_drops_L55 m) (fun j (z : Int32 × PH) => z.1 = nI j ∧ ∃ s', cM z.2 m I (upF F 1 s') J ∧ onM m h z.2 ∧ ∀ t, t < 12 + 18 * N → s' t = s2 t) (fun z => ∃ s', cM z m I (upF F 1 s') J ∧ onM m h z ∧ ∀ t, t < 12 + 18 * N → s' t = s2 t) 18 (by
    rintro j ⟨z1, z2⟩ hj ⟨i1, s', i2, i3, i4⟩
    dsimp only at i1 i2 i3
    subst i1
    have l8 : ldI z2 (m + 1) (8 : Int32) = some (nI N) := (i2.l1' (i := 8) (by omega)).trans (congrArg some ((i4 8 (by omega)).trans q4))
    have c1 : ¬ (18 : Int32) ≤ nI j := nI_ge (b := 18) (by omega) (by omega)
    obtain ⟨y1, d1, d2, d3⟩ := i2.s1' (show 12 + 18 * N + j < 84 by omega) 0
    refine ⟨(nI (j + 1), y1), ?_, rfl, _, d2, i3.tr d3, fun t ht => by rw [upd_n _ _ (by omega)]; exact i4 t ht⟩
    simp only [f_X6_drops_L55, if_neg c1, i2.r1, l8, bs9]
    rw [M_of, Option.bind_some, d1, Option.bind_some, nI_1]) (by
    rintro ⟨z1, z2⟩ ⟨i1, s', i2⟩
    dsimp only at i1 i2
    subst i1
    have c1 : (18 : Int32) ≤ nI 18 := nI_le (a := 18) (Nat.le_refl _) (by omega)
    refine ⟨z2, ?_, s', i2⟩
    simp only [f_X6_drops_L55, if_pos c1]) 18 0 LF (0, h2) (by omega) (by unfold LF; omega) ⟨rfl, s2, q2, q3, fun t ht => rfl⟩
  obtain ⟨A1, A2, ⟨A3, A4, A5⟩, A6⟩ := HA
  have hlo : ∀ t, t < 12 + 18 * i → ¬ t = 8 → s3 t = s t := fun t ht h8 => (r4 t (by omega)).trans (q6 t (Or.inl ht) h8)
  refine ⟨h3, s3, ?_, r2, r3, fun u hu => (hlo u (by omega) (by omega)).trans (A1 u hu), ?_, ⟨(hlo 9 (by omega) (by omega)).trans A3, (hlo 10 (by omega) (by omega)).trans A4, (hlo 11 (by omega) (by omega)).trans A5⟩, fun j X hj => ?_⟩
  · rw [hN] at e8
    rw [f_X6_drops, if_pos H.ok, H.r1, Option.bind_some, e8, Option.bind_some, nI_pred, a1, Option.bind_some, M_of0, Option.bind_some, q1, Option.bind_some, f_X6_drops_J53, r1, Option.bind_some, f_X6_drops_J84]
  · show _ = nI (T.2.1.eraseIdx i).length
    rw [List.length_eraseIdx, if_pos hi, r4 8 (by omega), q4, hN]
    rfl
  · have hj : (T.2.1.eraseIdx i)[j]? = some X := hj
    rw [List.getElem?_eraseIdx] at hj
    by_cases c : j < i
    · rw [if_pos c] at hj
      exact (A6 j X hj).kp (W.2.2 X (List.mem_of_getElem? hj)).le8 (fun t t1 t2 => hlo t (by omega) (by omega))
    · rw [if_neg c] at hj
      have hj2 := (List.getElem?_eq_some_iff.mp hj).1
      obtain ⟨B1, B2, B3, B4⟩ := A6 (j + 1) X hj
      have h8 := (W.2.2 X (List.mem_of_getElem? hj)).le8
      have mv : ∀ t, 12 + 18 * j ≤ t → t < 30 + 18 * j → s3 t = s (t + 18) := fun t t1 t2 => by
        have := q5 (t - (12 + 18 * i)) (by omega)
        rw [show 12 + 18 * i + (t - (12 + 18 * i)) = t by omega] at this
        exact (r4 t (by omega)).trans this
      refine ⟨?_, ?_, fun k q hq => ?_, fun u hu => ?_⟩
      · rw [mv _ (by omega) (by omega), show 12 + 18 * j + 18 = 12 + 18 * (j + 1) by omega]; exact B1
      · rw [mv _ (by omega) (by omega), show 13 + 18 * j + 18 = 13 + 18 * (j + 1) by omega]; exact B2
      · have := (List.getElem?_eq_some_iff.mp hq).1
        rw [mv _ (by omega) (by omega), show 14 + 18 * j + k + 18 = 14 + 18 * (j + 1) + k by omega]; exact B3 k q hq
      · rw [mv _ (by omega) (by omega), show 22 + 18 * j + u + 18 = 22 + 18 * (j + 1) + u by omega]; exact B4 u hu
theorem M_unlike (H : cM h m I (upF F 1 s) J) (hi : i < 4) (hg : wfg g) (hG : ∀ u, u < 8 → s u = nI (g u)) {X : Nat × List (Nat × Nat)} (W : wfR g X.1 X.2) (HQ : repQ s i X) : f_X6_unlikeTurned h m (nI i) = some (nI (unlA g X)) := by
  have h60 := W.1.2
  have ln := H.l1' (show 12 + 18 * i < 84 by omega)
  rw [HQ.1] at ln
  have hb : ∀ j, 0 ≤ j → j < 0 + X.1 → f_X6_unlikeTurned_L4 h m (nI i) ((fun j => (nI (cnt9 (fun k => decide (¬ col g X.2 k = col g X.2 (X.1 - 1 - k))) j), nI j)) j) = some (.inl ((fun j => (nI (cnt9 (fun k => decide (¬ col g X.2 k = col g X.2 (X.1 - 1 - k))) j), nI j)) (j + 1))) := by
    intro j _ hj
    have b1 : ¬ nI X.1 ≤ nI j := nI_ge (by omega) (by omega)
    have e1 : nI X.1 - 1 - nI j = nI (X.1 - 1 - j) := by
      have : nI X.1 - 1 = nI (X.1 - 1) := nI_sub (b := 1) (by omega)
      rw [this, nI_sub (by omega)]
    have a0 : nI (cnt9 (fun k => decide (¬ col g X.2 k = col g X.2 (X.1 - 1 - k))) j) + (0 : Int32) = nI (cnt9 (fun k => decide (¬ col g X.2 k = col g X.2 (X.1 - 1 - k))) j + 0) := nI_add _ 0
    have e2 := oI_inj (x := col g X.2 j) (y := col g X.2 (X.1 - 1 - j)) (fun n hn => by have := col_lt W hn; omega) (fun n hn => by have := col_lt W hn; omega)
    have x1 := M_hueAt H hi (X := X) HQ hG hg W (show j < X.1 by omega)
    have x2 := M_hueAt H hi (X := X) HQ hG hg W (show X.1 - 1 - j < X.1 by omega)
    simp only [f_X6_unlikeTurned_L4, f_X6_unlikeTurned_J52, H.r1, M_of0, ln, if_neg b1, x1, e1, x2, Option.bind_some, cnt9, nI_1]
    by_cases hc : col g X.2 j = col g X.2 (X.1 - 1 - j)
    · rw [if_pos (e2.mpr hc)]
      simp only [hc, not_true_eq_false, decide_false, Bool.false_eq_true, if_false, a0]
    · rw [if_neg (fun q => hc (e2.mp q))]
      simp only [hc, not_false_eq_true, decide_true, if_true]
      try rfl
  have he : f_X6_unlikeTurned_L4 h m (nI i) ((fun j => (nI (cnt9 (fun k => decide (¬ col g X.2 k = col g X.2 (X.1 - 1 - k))) j), nI j)) (0 + X.1)) = some (.inr (nI (unlA g X))) := by
    have b1 : nI X.1 ≤ nI X.1 := nI_le (Nat.le_refl _) (by omega)
    simp only [Nat.zero_add, f_X6_unlikeTurned_L4, H.r1, M_of0, ln, Option.bind_some, if_pos b1]
    try rfl
  have hw := lpn_run (fun j => (nI (cnt9 (fun k => decide (¬ col g X.2 k = col g X.2 (X.1 - 1 - k))) j), nI j)) _ X.1 0 LF hb he (by unfold LF; omega)
  have hw0 : lpn (f_X6_unlikeTurned_L4 h m (nI i)) LF (0, 0) = _ := hw
  simp only [f_X6_unlikeTurned, f_X6_unlikeTurned_J60, H.ok, if_true, hw0, Option.bind_some]
/-- the first j hues are turned -/
def tnJ (g : Nat → Nat) (len : Nat) (L : List (Nat × Nat)) (j : Nat) : List (Nat × Nat) := (L.take j).map (tnA g len) ++ L.drop j
theorem tnJ_fst (g : Nat → Nat) (len : Nat) (L : List (Nat × Nat)) (j : Nat) : (tnJ g len L j).map Prod.fst = L.map Prod.fst := by
  unfold tnJ
  rw [List.map_append, List.map_map, show Prod.fst ∘ tnA g len = Prod.fst from rfl, ← List.map_append, List.take_append_drop]
theorem tnJ_q {g : Nat → Nat} (hg : wfg g) {len : Nat} {L : List (Nat × Nat)} (W : wfR g len L) (j : Nat) : wfQ g (tnJ g len L j) := by
  refine ⟨by rw [tnJ_fst]; exact W.2.1, fun q hq => ?_⟩
  rcases List.mem_append.mp hq with h1 | h1
  · obtain ⟨q', h2, h3⟩ := List.mem_map.mp h1
    have h4 := (wf_turn hg W).2.2.1 q (by rw [← h3]; exact List.mem_map_of_mem (List.mem_of_mem_take h2))
    exact ⟨h4.1, h4.2.2⟩
  · have h4 := W.2.2.1 q (List.mem_of_mem_drop h1)
    exact ⟨h4.1, h4.2.2⟩
theorem M_turns (H : cM h m I (upF F 1 s) J) (hi : i < 4) (hg : wfg g) (hG : ∀ u, u < 8 → s u = nI (g u)) {X : Nat × List (Nat × Nat)} (W : wfR g X.1 X.2) (HQ : repQ s i X) : ∃ h' s' o, f_X6_turns h m (nI i) = some h' ∧ cM h' m I (upF (upF F 9 o) 1 s') J ∧ onM m h h' ∧ repQ s' i (trnA g X) ∧ sOn i s s' := by
  have h8 := W.le8
  have h60 := W.1.2
  obtain ⟨h1, o, a1, a2, a3, a4⟩ := M_remembers H hi
  have HO := repO_of HQ h8 a4
  have tl : ∀ j, (tnJ g X.1 X.2 j).length = X.2.length := fun j => by
    have := congrArg List.length (tnJ_fst g X.1 X.2 j)
    rw [List.length_map, List.length_map] at this
    exact this
  obtain ⟨h3, q1, s3, q2, q3, q4, q5⟩ := lpn_inv (b := f_X6_turns_L7 m (nI i)) (fun j (z : Int32 × PH) => z.1 = nI j ∧ ∃ s', cM z.2 m I (upF (upF F 9 o) 1 s') J ∧ onM m h z.2 ∧ repQ s' i (X.1, tnJ g X.1 X.2 j) ∧ sOn i s s') (fun z => ∃ s', cM z m I (upF (upF F 9 o) 1 s') J ∧ onM m h z ∧ repQ s' i (trnA g X) ∧ sOn i s s') X.2.length (by
    rintro j ⟨z1, z2⟩ hj ⟨i1, s', i2, i3, i4, i5⟩
    dsimp only at i1 i2 i3
    subst i1
    obtain ⟨q, hq⟩ : ∃ q, X.2[j]? = some q := ⟨_, List.getElem?_eq_getElem hj⟩
    have hm := List.mem_of_getElem? hq
    obtain ⟨w1, w2, w3⟩ := W.2.2.1 q hm
    have hgq := hg q.1
    have c1 : ¬ nI X.2.length ≤ nI j := nI_ge hj (by omega)
    have l0 : ldI z2 (m + 6) 0 = some (nI X.1) := (i2.l9' (i := 0) (by omega)).trans (congrArg some HO.1)
    have l1 : ldI z2 (m + 6) 1 = some (nI X.2.length) := (i2.l9' (i := 1) (by omega)).trans (congrArg some HO.2.1)
    have l2 : ldI z2 (m + 6) ((2 : Int32) + nI j) = some (nI q.1) := by
      have e0 : (2 : Int32) + nI j = nI (2 + j) := nI_add 2 j
      rw [e0]
      exact (i2.l9' (by omega)).trans (congrArg some (HO.2.2.1 j q hq))
    have Wj := tnJ_q hg W j
    have Wj1 := tnJ_q hg W (j + 1)
    have hd : X.2.drop j = q :: X.2.drop (j + 1) := by
      rw [List.drop_eq_getElem_cons hj]
      congr 1
      rw [List.getElem?_eq_getElem hj] at hq
      exact Option.some.inj hq
    have hmj : q ∈ tnJ g X.1 X.2 j := List.mem_append_right _ (by rw [hd]; exact List.mem_cons_self)
    have ll := M_lastOf i2 hi (X := (X.1, tnJ g X.1 X.2 j)) i4 (i5.gap hG) hg Wj h60 hmj w2
    have hl := lst_lt (s := g q.1) w2
    have e2 : nI X.1 - 1 - nI (lst q.2 (g q.1) X.1) = nI (X.1 - 1 - lst q.2 (g q.1) X.1) := by
      have : nI X.1 - 1 = nI (X.1 - 1) := nI_sub (b := 1) (by omega)
      rw [this, nI_sub (by omega)]
    have ll : f_X6_lastOf z2 m (nI i) (nI q.1) = some (nI (lst q.2 (g q.1) X.1)) := ll
    obtain ⟨y1, d1, d2, d3⟩ := i2.s1' (show 22 + 18 * i + q.1 < 84 by omega) (nI (X.1 - 1 - lst q.2 (g q.1) X.1))
    obtain ⟨Q1, Q2, Q3, Q4⟩ := i4
    dsimp only at Q1 Q2 Q3 Q4
    have tj : tnJ g X.1 X.2 (j + 1) = (X.2.take j).map (tnA g X.1) ++ tnA g X.1 q :: X.2.drop (j + 1) := by
      unfold tnJ
      rw [take_s hq, List.map_append, List.append_assoc]
      rfl
    have tj0 : tnJ g X.1 X.2 j = (X.2.take j).map (tnA g X.1) ++ q :: X.2.drop (j + 1) := by
      unfold tnJ
      rw [hd]
    refine ⟨(nI (j + 1), y1), ?_, rfl, _, d2, i3.tr d3, ⟨?_, ?_, fun k r hr => ?_, fun v hv => ?_⟩, i5.tr (sOn_upd _ (by omega) (by omega))⟩
    · simp only [f_X6_turns_L7, i2.r9, l1, if_neg c1, l2, Option.bind_some]
      rw [i2.r1, Option.bind_some, M_of10, Option.bind_some, l0, Option.bind_some, ll, Option.bind_some, e2, d1, Option.bind_some, nI_1]
    · rw [upd_n _ _ (by omega)]; exact Q1
    · rw [upd_n _ _ (by omega), Q2, tl, tl]
    · have hr : (tnJ g X.1 X.2 (j + 1))[k]? = some r := hr
      have hk := (List.getElem?_eq_some_iff.mp hr).1
      rw [tl] at hk
      rw [upd_n _ _ (by omega)]
      have f1 : ((tnJ g X.1 X.2 (j + 1)).map Prod.fst)[k]? = some r.1 := by rw [List.getElem?_map, hr]; rfl
      rw [tnJ_fst, ← tnJ_fst g X.1 X.2 j, List.getElem?_map] at f1
      cases hx : (tnJ g X.1 X.2 j)[k]? with
      | none => rw [hx] at f1; cases f1
      | some y =>
        rw [hx] at f1
        have f2 : y.1 = r.1 := Option.some.inj f1
        rw [Q3 k y hx, f2]
    · show _ = oI (phs (tnJ g X.1 X.2 (j + 1)) v)
      by_cases hvu : v = q.1
      · have f1 : phs (tnJ g X.1 X.2 (j + 1)) q.1 = some (X.1 - 1 - lst q.2 (g q.1) X.1) := by
          refine phs_of Wj1.1 ?_
          rw [tj]
          exact List.mem_append_right _ List.mem_cons_self
        rw [hvu, upd_s, f1]
        rfl
      · rw [upd_n _ _ (by omega), Q4 v hv]
        congr 1
        refine opt_ext (fun p => ?_)
        rw [phs_iff Wj.1, phs_iff Wj1.1, tj, tj0, List.mem_append, List.mem_append, List.mem_cons, List.mem_cons]
        have n1 : ¬ (v, p) = q := fun q9 => hvu (by rw [← q9])
        have n2 : ¬ (v, p) = tnA g X.1 q := fun q9 => hvu (congrArg Prod.fst q9)
        simp only [n1, n2, false_or]) (by
    rintro ⟨z1, z2⟩ ⟨i1, s', i2, i3, i4, i5⟩
    dsimp only at i1 i2 i3
    subst i1
    have c1 : nI X.2.length ≤ nI X.2.length := nI_le (Nat.le_refl _) (by omega)
    have l1 : ldI z2 (m + 6) 1 = some (nI X.2.length) := (i2.l9' (i := 1) (by omega)).trans (congrArg some HO.2.1)
    have te : tnJ g X.1 X.2 X.2.length = X.2.map (tnA g X.1) := by
      unfold tnJ
      rw [List.take_length, List.drop_length, List.append_nil]
    rw [te] at i4
    refine ⟨z2, ?_, s', i2, i3, i4, i5⟩
    simp only [f_X6_turns_L7, i2.r9, l1, if_pos c1, Option.bind_some]) X.2.length 0 LF (0, h1) (by omega) (by unfold LF; omega) ⟨rfl, s, a2, a3, HQ, sOn.rf⟩
  refine ⟨h3, s3, o, ?_, q2, q3, q4, q5⟩
  simp only [f_X6_turns, f_X6_turns_J60, H.ok, if_true, a1, q1, Option.bind_some]
end ModelWrites2
