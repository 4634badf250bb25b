/-! PURE READING, 30: the reference: writes on a rope's cells -/
theorem upd_s (f : Nat → Int32) (k : Nat) (x : Int32) : upd f k x k = x := if_pos rfl
theorem upd_n (f : Nat → Int32) {k j : Nat} (x : Int32) (h : ¬ j = k) : upd f k x j = f j := if_neg h
theorem upF_comm (F : Nat → Nat → Int32) {k j : Nat} (hkj : ¬ k = j) (a b : Nat → Int32) : upF (upF F k a) j b = upF (upF F j b) k a := by
  funext t
  show (if t = j then b else (if t = k then a else F t)) = (if t = k then a else (if t = j then b else F t))
  by_cases h1 : t = j
  · rw [if_pos h1, if_neg (by omega), if_pos h1]
  · rw [if_neg h1, if_neg h1]
/-- only the cells of one rope changed -/
def sOn (i : Nat) (s s' : Nat → Int32) : Prop := ∀ j, j < 12 + 18 * i ∨ 30 + 18 * i ≤ j → s' j = s j
theorem sOn.rf {i : Nat} {s : Nat → Int32} : sOn i s s := fun _ _ => rfl
theorem sOn.tr {i : Nat} {s s' s'' : Nat → Int32} (a : sOn i s s') (b : sOn i s' s'') : sOn i s s'' := fun q hq => (b q hq).trans (a q hq)
theorem sOn_upd {i : Nat} {s : Nat → Int32} {k : Nat} (x : Int32) (h1 : 12 + 18 * i ≤ k) (h2 : k < 30 + 18 * i) : sOn i s (upd s k x) := fun j hj => upd_n s x (by omega)
theorem repQ.kp {s s' : Nat → Int32} {i : Nat} {X : Nat × List (Nat × Nat)} (H : repQ s i X) (h8 : X.2.length ≤ 8) (h : ∀ t, 12 + 18 * i ≤ t → t < 30 + 18 * i → s' t = s t) : repQ s' i X := by
  obtain ⟨H1, H2, H3, H4⟩ := H
  refine ⟨(h _ (by omega) (by omega)).trans H1, (h _ (by omega) (by omega)).trans H2, fun k q hq => ?_, fun u hu => (h _ (by omega) (by omega)).trans (H4 u hu)⟩
  have := (List.getElem?_eq_some_iff.mp hq).1
  exact (h _ (by omega) (by omega)).trans (H3 k q hq)
theorem sOn.gap {i : Nat} {s s' : Nat → Int32} {g : Nat → Nat} (a : sOn i s s') (hG : ∀ u, u < 8 → s u = nI (g u)) : ∀ u, u < 8 → s' u = nI (g u) := fun u hu => (a u (by omega)).trans (hG u hu)
theorem phs_snoc (L : List (Nat × Nat)) (u p v : Nat) (hn : phs L u = none) : phs (L ++ [(u, p)]) v = if v = u then some p else phs L v := by
  unfold phs
  rw [List.find?_append]
  by_cases hv : v = u
  · rw [if_pos hv, hv]
    have h1 : L.find? (fun q => decide (q.1 = u)) = none := by
      unfold phs at hn
      exact Option.map_eq_none_iff.mp hn
    rw [h1]
    show Option.map Prod.snd (List.find? (fun q => decide (q.1 = u)) [(u, p)]) = _
    rw [List.find?_cons]
    simp
  · rw [if_neg hv]
    have h1 : [(u, p)].find? (fun q => decide (q.1 = v)) = none := by
      rw [List.find?_cons]
      have : ¬ u = v := fun q => hv q.symm
      simp [this]
    rw [h1, Option.or_none]
/-- a rope that is remembered -/
def repO (o : Nat → Int32) (X : Nat × List (Nat × Nat)) : Prop := o 0 = nI X.1 ∧ o 1 = nI X.2.length ∧ (∀ k q, X.2[k]? = some q → o (2 + k) = nI q.1) ∧ ∀ u, u < 8 → o (10 + u) = oI (phs X.2 u)
theorem repO_of {s o : Nat → Int32} {i : Nat} {X : Nat × List (Nat × Nat)} (H : repQ s i X) (h8 : X.2.length ≤ 8) (h : ∀ k, k < 18 → o k = s (12 + 18 * i + k)) : repO o X := by
  obtain ⟨H1, H2, H3, H4⟩ := H
  refine ⟨(h 0 (by omega)).trans H1, (h 1 (by omega)).trans (by rw [show 12 + 18 * i + 1 = 13 + 18 * i by omega]; exact H2), fun k q hq => ?_, fun u hu => (h (10 + u) (by omega)).trans (by rw [show 12 + 18 * i + (10 + u) = 22 + 18 * i + u by omega]; exact H4 u hu)⟩
  have := (List.getElem?_eq_some_iff.mp hq).1
  rw [h (2 + k) (by omega), show 12 + 18 * i + (2 + k) = 14 + 18 * i + k by omega]
  exact H3 k q hq
theorem neg_all : ∀ d : Fin 1000, ¬ (0 : Int32) ≤ nI 0 - nI (d + 1) := by decide +kernel
theorem sub_neg {x a : Nat} (h1 : x < a) (h2 : a ≤ 1000) : ¬ (0 : Int32) ≤ nI x - nI a := by
  have h3 := neg_all ⟨a - x - 1, by omega⟩
  have h4 : nI x - nI a = nI 0 - nI (a - x - 1 + 1) := by
    rw [show a - x - 1 + 1 = a - x by omega]
    have h5 : nI a = nI x + nI (a - x) := by rw [nI_add, show x + (a - x) = a by omega]
    rw [h5, nI_0, Int32.zero_sub]
    rw [Int32.sub_eq_add_neg, Int32.neg_add, Int32.sub_eq_add_neg, ← Int32.add_assoc, Int32.add_right_neg, Int32.zero_add]
  rw [h4]
  exact h3
section ModelWrites
variable {h : PH} {m : Nat} {I : Nat → Int32} {F : Nat → Nat → Int32} {J : Int64} {s o : Nat → Int32} {g : Nat → Nat} {i : Nat}
theorem cM.l1' (H : cM h m I (upF F 1 s) J) {i : Nat} (hi : i < 84) : ldI h (m + 1) (nI i) = some (s i) := H.l1 hi
theorem cM.s1' (H : cM h m I (upF F 1 s) J) {i : Nat} (hi : i < 84) (x : Int32) : ∃ h', stI h (m + 1) (nI i) x = some h' ∧ cM h' m I (upF F 1 (upd s i x)) J ∧ onM m h h' := by
  obtain ⟨h', e1, e2, e3⟩ := H.s1 hi x
  rw [upF_upF] at e2
  exact ⟨h', e1, e2, e3⟩
theorem cM.l9' (H : cM h m I (upF (upF F 9 o) 1 s) J) {i : Nat} (hi : i < 18) : ldI h (m + 6) (nI i) = some (o i) := H.l9 hi
theorem M_clears (H : cM h m I (upF F 1 s) J) (hi : i < 4) (n : Nat) : ∃ h' s', f_X6_clears h m (nI i) (nI n) = some h' ∧ cM h' m I (upF F 1 s') J ∧ onM m h h' ∧ repQ s' i (n, []) ∧ sOn i s s' := by
  obtain ⟨h1, a1, a2, a3⟩ := H.s1' (show 12 + 18 * i < 84 by omega) (nI n)
  obtain ⟨h2, b1, b2, b3⟩ := a2.s1' (show 13 + 18 * i < 84 by omega) 0
  obtain ⟨h3, q1, s3, q2, q3, q4, q5, q6, q7⟩ := lpn_inv (b := f_X6_clears_L24 m (nI i)) (fun j (z : Int32 × PH) => z.1 = nI j ∧ ∃ s', cM z.2 m I (upF F 1 s') J ∧ onM m h z.2 ∧ s' (12 + 18 * i) = nI n ∧ s' (13 + 18 * i) = 0 ∧ (∀ u, u < j → s' (22 + 18 * i + u) = -1) ∧ sOn i s s') (fun z => ∃ s', cM z m I (upF F 1 s') J ∧ onM m h z ∧ s' (12 + 18 * i) = nI n ∧ s' (13 + 18 * i) = 0 ∧ (∀ u, u < 8 → s' (22 + 18 * i + u) = -1) ∧ sOn i s s') 8 (by
    rintro j ⟨z1, z2⟩ hj ⟨i1, s', i2, i3, i4, i5, i6, i7⟩
    dsimp only at i1 i2 i3
    subst i1
    have c1 : ¬ (8 : Int32) ≤ nI j := nI_ge (b := 8) (by omega) (by omega)
    obtain ⟨y1, d1, d2, d3⟩ := i2.s1' (show 14 + 18 * i + j < 84 by omega) 0
    obtain ⟨y2, e1, e2, e3⟩ := d2.s1' (show 22 + 18 * i + j < 84 by omega) (-1)
    refine ⟨(nI (j + 1), y2), ?_, rfl, _, e2, i3.tr (d3.tr e3), ?_, ?_, fun u hu => ?_, i7.tr ((sOn_upd _ (by omega) (by omega)).tr (sOn_upd _ (by omega) (by omega)))⟩
    · simp only [f_X6_clears_L24, if_neg c1, i2.r1, d2.r1, M_of2, M_of10, d1, e1, Option.bind_some, nI_1]
    · rw [upd_n _ _ (by omega), upd_n _ _ (by omega)]; exact i4
    · rw [upd_n _ _ (by omega), upd_n _ _ (by omega)]; exact i5
    · by_cases huj : u = j
      · rw [huj, upd_s]
      · rw [upd_n _ _ (by omega), upd_n _ _ (by omega)]; exact i6 u (by omega)) (by
    rintro ⟨z1, z2⟩ ⟨i1, s', i2⟩
    dsimp only at i1 i2
    subst i1
    have c1 : (8 : Int32) ≤ nI 8 := nI_le (a := 8) (Nat.le_refl _) (by omega)
    refine ⟨z2, ?_, s', i2⟩
    simp only [f_X6_clears_L24, if_pos c1]) 8 0 LF (0, h2) (by omega) (by unfold LF; omega) ⟨rfl, _, b2, a3.tr b3, by rw [upd_n _ _ (by omega), upd_s], upd_s _ _ _, fun u hu => by omega, (sOn_upd _ (by omega) (by omega)).tr (sOn_upd _ (by omega) (by omega))⟩
  refine ⟨h3, s3, ?_, q2, q3, ⟨q4, q5, fun k q hq => by simp at hq, fun u hu => q6 u hu⟩, q7⟩
  simp only [f_X6_clears, f_X6_clears_J63, H.ok, H.r1, a2.r1, if_true, M_of0, M_of1, a1, b1, q1, Option.bind_some]
theorem M_lays (H : cM h m I (upF F 1 s) J) (hi : i < 4) {n : Nat} {L : List (Nat × Nat)} (HQ : repQ s i (n, L)) (hL : L.length < 8) {u : Nat} (hu : u < 8) (hn : phs L u = none) (p : Nat) : ∃ h' s', f_X6_lays h m (nI i) (nI u) (nI p) = some h' ∧ cM h' m I (upF F 1 s') J ∧ onM m h h' ∧ repQ s' i (n, L ++ [(u, p)]) ∧ sOn i s s' := by
  obtain ⟨Q1, Q2, Q3, Q4⟩ := HQ
  dsimp only at Q1 Q2 Q3 Q4
  obtain ⟨h1, a1, a2, a3⟩ := H.s1' (show 14 + 18 * i + L.length < 84 by omega) (nI u)
  have l1 := H.l1' (show 13 + 18 * i < 84 by omega)
  rw [Q2] at l1
  have l2 := a2.l1' (show 13 + 18 * i < 84 by omega)
  rw [upd_n _ _ (by omega), Q2] at l2
  obtain ⟨h2, b1, b2, b3⟩ := a2.s1' (show 13 + 18 * i < 84 by omega) (nI (L.length + 1))
  obtain ⟨h3, c1, c2, c3⟩ := b2.s1' (show 22 + 18 * i + u < 84 by omega) (nI p)
  refine ⟨h3, _, ?_, c2, a3.tr (b3.tr c3), ⟨?_, ?_, fun k q hq => ?_, fun v hv => ?_⟩, fun j hj => by rw [upd_n _ _ (by omega), upd_n _ _ (by omega), upd_n _ _ (by omega)]⟩
  · have n1 : nI L.length + (1 : Int32) = nI (L.length + 1) := nI_1 _
    rw [f_X6_lays, if_pos H.ok, H.r1, Option.bind_some, Option.bind_some, M_of1, Option.bind_some, l1, Option.bind_some, M_of2, Option.bind_some, a1, Option.bind_some, a2.r1, Option.bind_some, M_of1, Option.bind_some, l2, Option.bind_some, n1, b1, Option.bind_some, b2.r1, Option.bind_some, M_of10, Option.bind_some, c1, Option.bind_some]
  · rw [upd_n _ _ (by omega), upd_n _ _ (by omega), upd_n _ _ (by omega)]; exact Q1
  · rw [upd_n _ _ (by omega), upd_s, List.length_append]; rfl
  · have hk := (List.getElem?_eq_some_iff.mp hq).1
    rw [List.length_append] at hk
    have hk : k < L.length + 1 := hk
    rw [upd_n _ _ (by omega), upd_n _ _ (by omega)]
    by_cases hkl : k = L.length
    · subst hkl
      rw [upd_s]
      rw [List.getElem?_append_right (Nat.le_refl _), Nat.sub_self] at hq
      cases hq
      rfl
    · rw [upd_n _ _ (by omega)]
      rw [List.getElem?_append_left (by omega)] at hq
      exact Q3 k q hq
  · rw [phs_snoc L u p v hn]
    by_cases hvu : v = u
    · rw [if_pos hvu, hvu, upd_s]
      rfl
    · rw [if_neg hvu, upd_n _ _ (by omega), upd_n _ _ (by omega), upd_n _ _ (by omega)]
      exact Q4 v hv
theorem M_remembers (H : cM h m I (upF F 1 s) J) (hi : i < 4) : ∃ h' o, f_X6_remembers h m (nI i) = some h' ∧ cM h' m I (upF (upF F 9 o) 1 s) J ∧ onM m h h' ∧ ∀ k, k < 18 → o k = s (12 + 18 * i + k) := by
  have H0 : cM h m I (upF (upF F 9 (F 9)) 1 s) J := by rw [upF_self]; exact H
  obtain ⟨h3, q1, o3, q2, q3, q4⟩ := lpn_inv (b := f_X6_remembers_L2 m (nI i)) (fun j (z : Int32 × PH) => z.1 = nI j ∧ ∃ o, cM z.2 m I (upF (upF F 9 o) 1 s) J ∧ onM m h z.2 ∧ ∀ k, k < j → o k = s (12 + 18 * i + k)) (fun z => ∃ o, cM z m I (upF (upF F 9 o) 1 s) J ∧ onM m h z ∧ ∀ k, k < 18 → o k = s (12 + 18 * i + k)) 18 (by
    rintro j ⟨z1, z2⟩ hj ⟨i1, o', i2, i3, i4⟩
    dsimp only at i1 i2 i3
    subst i1
    have c1 : ¬ (18 : Int32) ≤ nI j := nI_ge (b := 18) (by omega) (by omega)
    obtain ⟨y1, d1, d2, d3⟩ := i2.s9 hj (s (12 + 18 * i + j))
    have d2 : cM y1 m I (upF (upF F 9 (upd o' j (s (12 + 18 * i + j)))) 1 s) J := by
      rw [upF_comm _ (by omega), upF_upF] at d2
      exact d2
    refine ⟨(nI (j + 1), y1), ?_, rfl, _, d2, i3.tr d3, fun k hk => ?_⟩
    · simp only [f_X6_remembers_L2, if_neg c1, i2.r9, i2.r1, M_of, i2.l1' (show 12 + 18 * i + j < 84 by omega), d1, Option.bind_some, nI_1]
    · by_cases hkj : k = j
      · rw [hkj, upd_s]
      · rw [upd_n _ _ hkj]; exact i4 k (by omega)) (by
    rintro ⟨z1, z2⟩ ⟨i1, o', i2⟩
    dsimp only at i1 i2
    subst i1
    have c1 : (18 : Int32) ≤ nI 18 := nI_le (a := 18) (Nat.le_refl _) (by omega)
    refine ⟨z2, ?_, o', i2⟩
    simp only [f_X6_remembers_L2, if_pos c1]) 18 0 LF (0, h) (by omega) (by unfold LF; omega) ⟨rfl, _, H0, onM.rf, fun k hk => by omega⟩
  refine ⟨h3, o3, ?_, q2, q3, q4⟩
  simp only [f_X6_remembers, f_X6_remembers_J30, H.ok, if_true, q1, Option.bind_some]
/-- a hue as the reference lays it from a place on -/
def bk2 (g : Nat → Nat) (a n : Nat) (q : Nat × Nat) : Option (Nat × Nat) := if frm q.2 (g q.1) a - a < n then some (q.1, frm q.2 (g q.1) a - a) else none
theorem bk2_fst {g : Nat → Nat} {a n : Nat} {q q' : Nat × Nat} (h : bk2 g a n q = some q') : q'.1 = q.1 := by
  unfold bk2 at h
  split at h
  · cases h; rfl
  · cases h
theorem fmap_no {f : Nat × Nat → Option (Nat × Nat)} (hf : ∀ q q', f q = some q' → q'.1 = q.1) {L : List (Nat × Nat)} {q : Nat × Nat} {j : Nat} (hn : (L.map Prod.fst).Nodup) (hq : L[j]? = some q) : phs ((L.take j).filterMap f) q.1 = none := by
  rw [phs_none]
  intro q' hq' he
  obtain ⟨q2, h1, h2⟩ := List.mem_filterMap.mp hq'
  have h3 := hf _ _ h2
  have h4 : ((L.take (j + 1)).map Prod.fst).Nodup := hn.sublist ((List.take_sublist _ _).map _)
  rw [take_s hq, List.map_append, List.nodup_append] at h4
  exact h4.2.2 q2.1 (List.mem_map_of_mem h1) q.1 (by simp) (by rw [← h3, he])
theorem M_laysFrom (H : cM h m I (upF (upF F 9 o) 1 s) J) (hi : i < 4) (hg : wfg g) (hG : ∀ u, u < 8 → s u = nI (g u)) {X : Nat × List (Nat × Nat)} (W : wfR g X.1 X.2) (HO : repO o X) {n a : Nat} (hn60 : n ≤ 60) (ha : a ≤ 60) (HQ : repQ s i (n, [])) : ∃ h' s', f_X6_laysFrom h m (nI i) (nI a) = some h' ∧ cM h' m I (upF (upF F 9 o) 1 s') J ∧ onM m h h' ∧ repQ s' i (n, X.2.filterMap (bk2 g a n)) ∧ sOn i s s' := by
  have h8 := W.le8
  have h60 := W.1.2
  obtain ⟨h3, q1, s3, q2, q3, q4, q5⟩ := lpn_inv (b := f_X6_laysFrom_L2 m (nI i) (nI a)) (fun j (z : Int32 × PH) => z.1 = nI j ∧ ∃ s', cM z.2 m I (upF (upF F 9 o) 1 s') J ∧ onM m h z.2 ∧ repQ s' i (n, (X.2.take j).filterMap (bk2 g a n)) ∧ sOn i s s') (fun z => ∃ s', cM z m I (upF (upF F 9 o) 1 s') J ∧ onM m h z ∧ repQ s' i (n, X.2.filterMap (bk2 g a n)) ∧ sOn i s s') X.2.length (by
    rintro j ⟨z1, z2⟩ hj ⟨i1, s', i2, i3, i4, i5⟩
    dsimp only at i1 i2 i3
    subst i1
    obtain ⟨q, hq⟩ : ∃ q, X.2[j]? = some q := ⟨_, List.getElem?_eq_getElem hj⟩
    have hm := List.mem_of_getElem? hq
    obtain ⟨w1, w2, w3⟩ := W.2.2.1 q hm
    have hgq := hg q.1
    have c1 : ¬ nI X.2.length ≤ nI j := nI_ge hj (by omega)
    have l1 : ldI z2 (m + 6) 1 = some (nI X.2.length) := (i2.l9' (i := 1) (by omega)).trans (congrArg some HO.2.1)
    have l2 : ldI z2 (m + 6) ((2 : Int32) + nI j) = some (nI q.1) := by
      have e0 : (2 : Int32) + nI j = nI (2 + j) := nI_add 2 j
      rw [e0]
      exact (i2.l9' (by omega)).trans (congrArg some (HO.2.2.1 j q hq))
    have l3 : ldI z2 (m + 6) ((10 : Int32) + nI q.1) = some (nI q.2) := by
      have e0 : (10 : Int32) + nI q.1 = nI (10 + q.1) := nI_add 10 q.1
      have e9 := HO.2.2.2 q.1 w1
      rw [phs_of W.2.1 (show (q.1, q.2) ∈ X.2 from hm)] at e9
      rw [e0]
      exact (i2.l9' (by omega)).trans (congrArg some e9)
    have hG' := i5.gap hG
    -- the phase of the first place
    obtain ⟨K, hK⟩ := frm_on (p := q.2) (s := g q.1) (a := a)
    have hge := frm_ge (p := q.2) (s := g q.1) (a := a) (by omega)
    have hlow : ∀ t, t < K → q.2 + t * g q.1 < a := by
      intro t ht
      rcases Nat.lt_or_ge (q.2 + t * g q.1) a with c | c
      · exact c
      · have d1 := frm_le (p := q.2) (s := g q.1) (a := a) (j := t) (by omega) c
        have d2 := Nat.mul_le_mul_right (g q.1) (show t + 1 ≤ K from ht)
        rw [Nat.add_mul] at d2
        omega
    have hK60 : K ≤ 60 := by
      rcases Nat.lt_or_ge 60 K with c | c
      · have d1 := hlow 60 c
        have d2 := Nat.mul_le_mul_left 60 (show 1 ≤ g q.1 by omega)
        omega
      · exact c
    have hfr : frm q.2 (g q.1) a ≤ 100 := by
      rcases Nat.lt_or_ge q.2 a with c | c
      · have := frm_lt (p := q.2) (s := g q.1) (a := a) (by omega) c
        omega
      · have : frm q.2 (g q.1) a = q.2 := if_pos c
        omega
    have lp : lpn (f_X6_laysFrom_L36 z2 m (nI i) (nI a) (nI j) (nI q.1)) LF (nI q.2 - nI a) = some (nI (frm q.2 (g q.1) a - a)) := by
      have hb : ∀ t, 0 ≤ t → t < 0 + K → f_X6_laysFrom_L36 z2 m (nI i) (nI a) (nI j) (nI q.1) ((fun t => nI (q.2 + t * g q.1) - nI a) t) = some (.inl ((fun t => nI (q.2 + t * g q.1) - nI a) (t + 1))) := by
        intro t _ ht
        have d1 := sub_neg (hlow t (by omega)) (show a ≤ 1000 by omega)
        have e1 : nI (q.2 + t * g q.1) - nI a + nI (g q.1) = nI (q.2 + (t + 1) * g q.1) - nI a := by
          rw [← nI_step]
          rw [Int32.sub_eq_add_neg, Int32.sub_eq_add_neg, Int32.add_assoc, Int32.add_assoc, Int32.add_comm (-nI a)]
        simp only [f_X6_laysFrom_L36, if_neg d1, i2.r1, z0, i2.l1' (show q.1 < 84 by omega), hG' q.1 w1, Option.bind_some, e1]
      have he : f_X6_laysFrom_L36 z2 m (nI i) (nI a) (nI j) (nI q.1) ((fun t => nI (q.2 + t * g q.1) - nI a) (0 + K)) = some (.inr (nI (frm q.2 (g q.1) a - a))) := by
        have e1 : nI (q.2 + K * g q.1) - nI a = nI (frm q.2 (g q.1) a - a) := by
          rw [← hK]
          exact nI_sub hge
        have d1 : (0 : Int32) ≤ nI (frm q.2 (g q.1) a - a) := nI_pos' (by omega)
        simp only [Nat.zero_add, e1, f_X6_laysFrom_L36, if_pos d1]
      have hw := lpn_run (fun t => nI (q.2 + t * g q.1) - nI a) _ K 0 LF hb he (by unfold LF; omega)
      rw [Nat.zero_mul, Nat.add_zero] at hw
      exact hw
    have e5 : (X.2.take (j + 1)).filterMap (bk2 g a n) = (X.2.take j).filterMap (bk2 g a n) ++ (bk2 g a n q).toList := by
      rw [take_s hq, List.filterMap_append, List.filterMap_cons]
      cases bk2 g a n q <;> rfl
    have ln := i2.l1' (show 12 + 18 * i < 84 by omega)
    rw [i4.1] at ln
    by_cases hp : frm q.2 (g q.1) a - a < n
    · have e6 : bk2 g a n q = some (q.1, frm q.2 (g q.1) a - a) := if_pos hp
      rw [e6] at e5
      have e5 : (X.2.take (j + 1)).filterMap (bk2 g a n) = (X.2.take j).filterMap (bk2 g a n) ++ [(q.1, frm q.2 (g q.1) a - a)] := e5
      have d2 : ¬ nI n ≤ nI (frm q.2 (g q.1) a - a) := nI_ge hp (by omega)
      have hlen : ((X.2.take j).filterMap (bk2 g a n)).length < 8 := by
        have y1 := List.length_filterMap_le (bk2 g a n) (X.2.take j)
        rw [List.length_take, Nat.min_eq_left (by omega)] at y1
        omega
      obtain ⟨y1, s9, m1, m2, m3, m4, m5⟩ := M_lays i2 hi i4 hlen w1 (fmap_no (fun q q' => bk2_fst) W.2.1 hq) (frm q.2 (g q.1) a - a)
      refine ⟨(nI (j + 1), y1), ?_, rfl, s9, m2, i3.tr m3, ?_, i5.tr m5⟩
      · simp only [f_X6_laysFrom_L2, f_X6_laysFrom_J58, f_X6_laysFrom_J82, i2.r9, l1, if_neg c1, l2, l3, lp, i2.r1, M_of0, ln, if_neg d2, m1, Option.bind_some, nI_1]
      · rw [e5]; exact m4
    · have e6 : bk2 g a n q = none := if_neg hp
      rw [e6] at e5
      have e5 : (X.2.take (j + 1)).filterMap (bk2 g a n) = (X.2.take j).filterMap (bk2 g a n) := e5.trans (List.append_nil _)
      have d2 : nI n ≤ nI (frm q.2 (g q.1) a - a) := nI_le (by omega) (by omega)
      refine ⟨(nI (j + 1), z2), ?_, rfl, s', i2, i3, ?_, i5⟩
      · simp only [f_X6_laysFrom_L2, f_X6_laysFrom_J58, f_X6_laysFrom_J82, i2.r9, l1, if_neg c1, l2, l3, lp, i2.r1, M_of0, ln, if_pos d2, Option.bind_some, nI_1]
      · rw [e5]; exact i4) (by
    rintro ⟨z1, z2⟩ ⟨i1, s', i2, i3, i4, i5⟩
    dsimp only at i1 i2 i3
    subst i1
    have c1 : nI X.2.length ≤ nI X.2.length := nI_le (Nat.le_refl _) (by omega)
    have l1 : ldI z2 (m + 6) 1 = some (nI X.2.length) := (i2.l9' (i := 1) (by omega)).trans (congrArg some HO.2.1)
    rw [List.take_length] at i4
    refine ⟨z2, ?_, s', i2, i3, i4, i5⟩
    simp only [f_X6_laysFrom_L2, i2.r9, l1, if_pos c1, Option.bind_some]) X.2.length 0 LF (0, h) (by omega) (by unfold LF; omega) ⟨rfl, s, H, onM.rf, HQ, sOn.rf⟩
  refine ⟨h3, s3, ?_, q2, q3, q4, q5⟩
  simp only [f_X6_laysFrom, f_X6_laysFrom_J88, H.ok, if_true, q1, Option.bind_some]
theorem bk2_flt (g : Nat → Nat) (n : Nat) (L : List (Nat × Nat)) : L.filterMap (bk2 g 0 n) = fltA n L := by
  unfold fltA
  rw [← List.filterMap_eq_filter]
  congr 1
  funext q
  unfold bk2 Option.guard
  have h1 : frm q.2 (g q.1) 0 = q.2 := if_pos (Nat.zero_le _)
  rw [h1, Nat.sub_zero]
  by_cases h2 : q.2 < n
  · simp [h2]
  · simp [h2]
theorem bk2_back {g : Nat → Nat} (hg : wfg g) {a len : Nat} (ha : a < len) (L : List (Nat × Nat)) : L.filterMap (bk2 g a (len - a)) = L.filterMap (bkA g a len) := by
  congr 1
  funext q
  unfold bk2 bkA
  have h1 := frm_ge (p := q.2) (s := g q.1) (a := a) (by have := (hg q.1).1; omega)
  by_cases h2 : frm q.2 (g q.1) a < len
  · rw [if_pos (by omega), if_pos h2]
  · rw [if_neg (by omega), if_neg h2]
theorem M_takesOff (H : cM h m I (upF F 1 s) J) (hi : i < 4) {X : Nat × List (Nat × Nat)} (W : wfR g X.1 X.2) (HQ : repQ s i X) {u : Nat} (hu : u < 8) : ∃ h' s' o, f_X6_takesOff h m (nI i) (nI u) = some h' ∧ cM h' m I (upF (upF F 9 o) 1 s') J ∧ onM m h h' ∧ repQ s' i (X.1, X.2.filter (fun q => decide (¬ q.1 = u))) ∧ sOn i s s' := by
  have h8 := W.le8
  obtain ⟨h1, o, a1, a2, a3, a4⟩ := M_remembers H hi
  have HO := repO_of HQ h8 a4
  have l0 : ldI h1 (m + 6) 0 = some (nI X.1) := (a2.l9' (i := 0) (by omega)).trans (congrArg some HO.1)
  obtain ⟨h2, s2, b1, b2, b3, b4, b5⟩ := M_clears a2 hi X.1
  obtain ⟨h3, q1, s3, q2, q3, q4, q5⟩ := lpn_inv (b := f_X6_takesOff_L18 m (nI i) (nI u)) (fun j (z : Int32 × PH) => z.1 = nI j ∧ ∃ s', cM z.2 m I (upF (upF F 9 o) 1 s') J ∧ onM m h z.2 ∧ repQ s' i (X.1, (X.2.take j).filter (fun q => decide (¬ q.1 = u))) ∧ sOn i s s') (fun z => ∃ s', cM z m I (upF (upF F 9 o) 1 s') J ∧ onM m h z ∧ repQ s' i (X.1, X.2.filter (fun q => decide (¬ q.1 = u))) ∧ sOn i s s') X.2.length (by
    rintro j ⟨z1, z2⟩ hj ⟨i1, s', i2, i3, i4, i5⟩
    dsimp only at i1 i2 i3
    subst i1
    obtain ⟨q, hq⟩ : ∃ q, X.2[j]? = some q := ⟨_, List.getElem?_eq_getElem hj⟩
    have hm := List.mem_of_getElem? hq
    obtain ⟨w1, w2, w3⟩ := W.2.2.1 q hm
    have c1 : ¬ nI X.2.length ≤ nI j := nI_ge hj (by omega)
    have l1 : ldI z2 (m + 6) 1 = some (nI X.2.length) := (i2.l9' (i := 1) (by omega)).trans (congrArg some HO.2.1)
    have l2 : ldI z2 (m + 6) ((2 : Int32) + nI j) = some (nI q.1) := by
      have e0 : (2 : Int32) + nI j = nI (2 + j) := nI_add 2 j
      rw [e0]
      exact (i2.l9' (by omega)).trans (congrArg some (HO.2.2.1 j q hq))
    have l3 : ldI z2 (m + 6) ((10 : Int32) + nI q.1) = some (nI q.2) := by
      have e0 : (10 : Int32) + nI q.1 = nI (10 + q.1) := nI_add 10 q.1
      have e9 := HO.2.2.2 q.1 w1
      rw [phs_of W.2.1 (show (q.1, q.2) ∈ X.2 from hm)] at e9
      rw [e0]
      exact (i2.l9' (by omega)).trans (congrArg some e9)
    by_cases hqu : q.1 = u
    · have e5 : (X.2.take (j + 1)).filter (fun q => decide (¬ q.1 = u)) = (X.2.take j).filter (fun q => decide (¬ q.1 = u)) := by
        rw [take_s hq, List.filter_append, List.filter_cons_of_neg (p := fun q : Nat × Nat => decide (¬ q.1 = u)) (by simpa using hqu), List.filter_nil, List.append_nil]
      have d2 : nI q.1 = nI u := by rw [hqu]
      refine ⟨(nI (j + 1), z2), ?_, rfl, s', i2, i3, ?_, i5⟩
      · simp only [f_X6_takesOff_L18, f_X6_takesOff_J69, i2.r9, l1, if_neg c1, l2, if_pos d2, Option.bind_some, nI_1]
      · rw [e5]; exact i4
    · have e5 : (X.2.take (j + 1)).filter (fun q => decide (¬ q.1 = u)) = (X.2.take j).filter (fun q => decide (¬ q.1 = u)) ++ [(q.1, q.2)] := by
        rw [take_s hq, List.filter_append, List.filter_cons_of_pos (p := fun q : Nat × Nat => decide (¬ q.1 = u)) (by simpa using hqu), List.filter_nil]
      have d2 : ¬ nI q.1 = nI u := fun q9 => hqu ((nI_eq (by omega) (by omega)).mp q9)
      have hlen : ((X.2.take j).filter (fun q => decide (¬ q.1 = u))).length < 8 := by
        have y1 := List.length_filter_le (fun q : Nat × Nat => decide (¬ q.1 = u)) (X.2.take j)
        rw [List.length_take, Nat.min_eq_left (by omega)] at y1
        omega
      have hno : phs ((X.2.take j).filter (fun q => decide (¬ q.1 = u))) q.1 = none := by
        rw [phs_none]
        intro q' hq' he
        have h4 : ((X.2.take (j + 1)).map Prod.fst).Nodup := W.2.1.sublist ((List.take_sublist _ _).map _)
        rw [take_s hq, List.map_append, List.nodup_append] at h4
        exact h4.2.2 q'.1 (List.mem_map_of_mem (List.mem_filter.mp hq').1) q.1 (by simp) he
      obtain ⟨y1, s9, m1, m2, m3, m4, m5⟩ := M_lays i2 hi i4 hlen w1 hno q.2
      refine ⟨(nI (j + 1), y1), ?_, rfl, s9, m2, i3.tr m3, ?_, i5.tr m5⟩
      · simp only [f_X6_takesOff_L18, f_X6_takesOff_J69, i2.r9, l1, if_neg c1, l2, if_neg d2, l3, m1, Option.bind_some, nI_1]
      · rw [e5]; exact m4) (by
    rintro ⟨z1, z2⟩ ⟨i1, s', i2, i3, i4, i5⟩
    dsimp only at i1 i2 i3
    subst i1
    have c1 : nI X.2.length ≤ nI X.2.length := nI_le (Nat.le_refl _) (by omega)
    have l1 : ldI z2 (m + 6) 1 = some (nI X.2.length) := (i2.l9' (i := 1) (by omega)).trans (congrArg some HO.2.1)
    rw [List.take_length] at i4
    refine ⟨z2, ?_, s', i2, i3, i4, i5⟩
    simp only [f_X6_takesOff_L18, i2.r9, l1, if_pos c1, Option.bind_some]) X.2.length 0 LF (0, h2) (by omega) (by unfold LF; omega) ⟨rfl, s2, b2, a3.tr b3, b4, b5⟩
  refine ⟨h3, s3, o, ?_, q2, q3, q4, q5⟩
  simp only [f_X6_takesOff, f_X6_takesOff_J75, H.ok, if_true, a1, a2.r9, l0, b1, q1, Option.bind_some]
end ModelWrites
