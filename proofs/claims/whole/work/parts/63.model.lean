/-! PURE READING, 32: the reference: joins, rows copied -/
section ModelWrites3
variable {h : PH} {m : Nat} {I : Nat → Int32} {F : Nat → Nat → Int32} {J : Int64} {s : Nat → Int32} {g : Nat → Nat}
theorem M_putAside (H : cM h m I (upF F 1 s) J) : ∃ h' t, f_X6_putAside h m = some h' ∧ cM h' m I (upF (upF F 2 t) 1 s) J ∧ onM m h h' ∧ ∀ k, k < 84 → t k = s k := by
  have H0 : cM h m I (upF (upF F 2 (F 2)) 1 s) J := by rw [upF_self]; exact H
  obtain ⟨h3, q1, o3, q2, q3, q4⟩ := lpn_inv (b := f_X6_putAside_L2 m) (fun j (z : Int32 × PH) => z.1 = nI j ∧ ∃ o, cM z.2 m I (upF (upF F 2 o) 1 s) J ∧ onM m h z.2 ∧ ∀ k, k < j → o k = s k) (fun z => ∃ o, cM z m I (upF (upF F 2 o) 1 s) J ∧ onM m h z ∧ ∀ k, k < 84 → o k = s k) 84 (by
    rintro j ⟨z1, z2⟩ hj ⟨i1, o', i2, i3, i4⟩
    dsimp only at i1 i2 i3
    subst i1
    have c1 : ¬ (84 : Int32) ≤ nI j := nI_ge (b := 84) (by omega) (by omega)
    obtain ⟨y1, d1, d2, d3⟩ := i2.s2 hj (s j)
    have d2 : cM y1 m I (upF (upF F 2 (upd o' j (s j))) 1 s) J := by
      rw [upF_comm _ (by omega), upF_upF] at d2
      exact d2
    refine ⟨(nI (j + 1), y1), ?_, rfl, _, d2, i3.tr d3, fun k hk => ?_⟩
    · simp only [f_X6_putAside_L2, if_neg c1, i2.r2, i2.r1, i2.l1' (show j < 84 by omega), d1, bs9, nI_1]
    · by_cases hkj : k = j
      · rw [hkj, upd_s]
      · rw [upd_n _ _ hkj]; exact i4 k (by omega)) (by
    rintro ⟨z1, z2⟩ ⟨i1, o', i2⟩
    dsimp only at i1 i2
    subst i1
    have c1 : (84 : Int32) ≤ nI 84 := nI_le (a := 84) (Nat.le_refl _) (by omega)
    refine ⟨z2, ?_, o', i2⟩
    simp only [f_X6_putAside_L2, if_pos c1]) 84 0 LF (0, h) (by omega) (by unfold LF; omega) ⟨rfl, _, H0, onM.rf, fun k hk => by omega⟩
  refine ⟨h3, o3, ?_, q2, q3, q4⟩
  simp only [f_X6_putAside, f_X6_putAside_J26, H.ok, if_true, q1, bs9]
theorem M_putBack {t : Nat → Int32} (H : cM h m I (upF (upF F 2 t) 1 s) J) : ∃ h' s', f_X6_putBack h m = some h' ∧ cM h' m I (upF (upF F 2 t) 1 s') J ∧ onM m h h' ∧ ∀ k, k < 84 → s' k = t k := by
  obtain ⟨h3, q1, o3, q2, q3, q4⟩ := lpn_inv (b := f_X6_putBack_L2 m) (fun j (z : Int32 × PH) => z.1 = nI j ∧ ∃ s', cM z.2 m I (upF (upF F 2 t) 1 s') J ∧ onM m h z.2 ∧ ∀ k, k < j → s' k = t k) (fun z => ∃ s', cM z m I (upF (upF F 2 t) 1 s') J ∧ onM m h z ∧ ∀ k, k < 84 → s' k = t k) 84 (by
    rintro j ⟨z1, z2⟩ hj ⟨i1, o', i2, i3, i4⟩
    dsimp only at i1 i2 i3
    subst i1
    have c1 : ¬ (84 : Int32) ≤ nI j := nI_ge (b := 84) (by omega) (by omega)
    have l2 : ldI z2 (m + 2) (nI j) = some (t j) := i2.l2 hj
    obtain ⟨y1, d1, d2, d3⟩ := i2.s1' hj (t j)
    refine ⟨(nI (j + 1), y1), ?_, rfl, _, d2, i3.tr d3, fun k hk => ?_⟩
    · simp only [f_X6_putBack_L2, if_neg c1, i2.r2, i2.r1, l2, d1, bs9, nI_1]
    · by_cases hkj : k = j
      · rw [hkj, upd_s]
      · rw [upd_n _ _ hkj]; exact i4 k (by omega)) (by
    rintro ⟨z1, z2⟩ ⟨i1, o', i2⟩
    dsimp only at i1 i2
    subst i1
    have c1 : (84 : Int32) ≤ nI 84 := nI_le (a := 84) (Nat.le_refl _) (by omega)
    refine ⟨z2, ?_, o', i2⟩
    simp only [f_X6_putBack_L2, if_pos c1]) 84 0 LF (0, h) (by omega) (by unfold LF; omega) ⟨rfl, s, H, onM.rf, fun k hk => by omega⟩
  refine ⟨h3, o3, ?_, q2, q3, q4⟩
  simp only [f_X6_putBack, f_X6_putBack_J26, H.ok, if_true, q1, bs9]
theorem M_behind (H : cM h m I (upF F 1 s) J) {a b la u pb : Nat} (ha : a < 4) (hb : b < 4) (hg : wfg g) (hG : ∀ u, u < 8 → s u = nI (g u)) (hu : u < 8) (hla : s (12 + 18 * a) = nI la) (hl : la ≤ 60) (hpb : s (22 + 18 * b + u) = nI pb) (hp : pb < g u) : f_X6_phaseBehind h m (nI a) (nI b) (nI u) = some (nI ((la + pb) % g u)) := by
  have hgu := hg u
  have l1 := H.l1' (show 12 + 18 * a < 84 by omega)
  rw [hla] at l1
  have l2 := H.l1' (show 22 + 18 * b + u < 84 by omega)
  rw [hpb] at l2
  have l3 := H.l1' (show u < 84 by omega)
  rw [hG u hu] at l3
  have b0 : ¬ nI (g u) = 0 := nI_ne0 (by omega) (by omega)
  have e1 : f_X6_phaseOf h m (nI b) (nI u) = some (nI pb) := by
    simp only [f_X6_phaseOf, H.ok, H.r1, if_true, M_of10, l2, bs9]
  simp only [f_X6_phaseBehind, H.ok, H.r1, if_true, M_of0, l1, e1, z0, l3, bs9, if_pos b0, nI_add]
  rw [nI_rem (by omega) (by omega) (by omega)]
theorem M_joinsWith (H : cM h m I (upF F 1 s) J) {a b la lb : Nat} (ha : a < 4) (hb : b < 4) (hab : ¬ a = b) (hg : wfg g) (hG : ∀ u, u < 8 → s u = nI (g u)) {La Lb : List (Nat × Nat)} (Wa : wfR g la La) (Wb : wfR g lb Lb) (HA : repQ s a (la, La)) (HB : repQ s b (lb, Lb)) : ∃ h' s', f_X6_joinsWith h m (nI a) (nI b) = some h' ∧ cM h' m I (upF F 1 s') J ∧ onM m h h' ∧ repQ s' a (la + lb, jnA g la La Lb) ∧ sOn a s s' := by
  have h8b := Wb.le8
  have hla := Wa.1.2
  have hlb := Wb.1.2
  have hJ := jn_nodup (g := g) Wa Wb
  have WJ : wfQ g (jnA g la La Lb) := ⟨hJ, fun q hq => by
    obtain ⟨e1, e2, e3⟩ := jn_each hg Wa Wb hq
    exact ⟨e1, e3⟩⟩
  have hJ8 := WJ.le8
  obtain ⟨D, hD⟩ : ∃ D : Nat → List (Nat × Nat), ∀ j, D j = La ++ ((Lb.take j).filter (fun q => decide (phs La q.1 = none))).map (fun q => (q.1, (la + q.2) % g q.1)) := ⟨_, fun _ => rfl⟩
  have hDs : ∀ j, (D j).Sublist (jnA g la La Lb) := fun j => by
    rw [hD]
    exact (List.Sublist.refl La).append (((List.take_sublist _ _).filter _).map _)
  have hDe : D Lb.length = jnA g la La Lb := by rw [hD, List.take_length]; rfl
  have hDq : ∀ j, wfQ g (D j) := fun j => ⟨hJ.sublist ((hDs j).map _), fun q hq => WJ.2 q ((hDs j).subset hq)⟩
  obtain ⟨h3, q1, s3, q2, q3, q4, q5⟩ := lpn_inv (b := f_X6_joinsWith_L2 m (nI a) (nI b)) (fun j (z : Int32 × PH) => z.1 = nI j ∧ ∃ s', cM z.2 m I (upF F 1 s') J ∧ onM m h z.2 ∧ repQ s' a (la, D j) ∧ sOn a s s') (fun z => ∃ s', cM z m I (upF F 1 s') J ∧ onM m h z ∧ repQ s' a (la, jnA g la La Lb) ∧ sOn a s s') Lb.length (by
    rintro j ⟨z1, z2⟩ hj ⟨i1, s', i2, i3, i4, i5⟩
    dsimp only at i1 i2 i3
    subst i1
    obtain ⟨q, hq⟩ : ∃ q, Lb[j]? = some q := ⟨_, List.getElem?_eq_getElem hj⟩
    have hm := List.mem_of_getElem? hq
    obtain ⟨w1, w2, w3⟩ := Wb.2.2.1 q hm
    have hgq := hg q.1
    have HB' : repQ s' b (lb, Lb) := HB.kp h8b (fun t t1 t2 => i5 t (by omega))
    have c1 : ¬ nI Lb.length ≤ nI j := nI_ge hj (by omega)
    have l1 := i2.l1' (show 13 + 18 * b < 84 by omega)
    rw [HB'.2.1] at l1
    have l1 : ldI z2 (m + 1) (nI (13 + 18 * b)) = some (nI Lb.length) := l1
    have l2 := i2.l1' (show 14 + 18 * b + j < 84 by omega)
    rw [HB'.2.2.1 j q hq] at l2
    have e1 := M_isLaid i2 ha (X := (la, D j)) i4 hg (hDq j) w1
    have e1 : f_X6_isLaid z2 m (nI a) (nI q.1) = some (bI (phs (D j) q.1).isSome) := e1
    by_cases hph : phs La q.1 = none
    · have ts : D (j + 1) = D j ++ [(q.1, (la + q.2) % g q.1)] := by
        rw [hD, hD, take_s hq, List.filter_append, List.filter_cons_of_pos (p := fun q : Nat × Nat => decide (phs La q.1 = none)) (decide_eq_true hph), List.map_append, List.append_assoc]
        rfl
      have hno : phs (D j) q.1 = none := by
        rw [phs_none]
        intro q' hq' he
        have h4 := (hDq (j + 1)).1
        rw [ts, List.map_append, List.nodup_append] at h4
        exact h4.2.2 q'.1 (List.mem_map_of_mem hq') q.1 (by simp) he
      rw [hno] at e1
      have hlen : (D j).length < 8 := by
        have := (hDs (j + 1)).length_le
        rw [ts, List.length_append] at this
        have : (D j).length + 1 ≤ (jnA g la La Lb).length := this
        omega
      have hpb : s' (22 + 18 * b + q.1) = nI q.2 := by
        rw [HB'.2.2.2 q.1 w1]
        show oI (phs Lb q.1) = _
        rw [phs_of Wb.2.1 (show (q.1, q.2) ∈ Lb from hm)]
        rfl
      have e2 := M_behind i2 ha hb hg (i5.gap hG) w1 i4.1 hla hpb w3
      have c2 : ¬ ¬ bI (none : Option Nat).isSome = 0 := fun q9 => q9 rfl
      obtain ⟨y1, s9, m1, m2, m3, m4, m5⟩ := M_lays i2 ha i4 hlen w1 hno ((la + q.2) % g q.1)
      refine ⟨(nI (j + 1), y1), ?_, rfl, s9, m2, i3.tr m3, ?_, i5.tr m5⟩
      · simp only [f_X6_joinsWith_L2, f_X6_joinsWith_J55, i2.r1, M_of1, l1, bs9, if_neg c1, M_of2, l2, e1, if_neg c2, e2, m1, nI_1]
      · rw [ts]; exact m4
    · have ts : D (j + 1) = D j := by
        rw [hD, hD, take_s hq, List.filter_append, List.filter_cons_of_neg (p := fun q : Nat × Nat => decide (phs La q.1 = none)) (by simpa using hph), List.filter_nil, List.append_nil]
      have hyes : (phs (D j) q.1).isSome = true := by
        cases hx : phs La q.1 with
        | none => exact absurd hx hph
        | some p =>
          rw [phs_of (hDq j).1 (show (q.1, p) ∈ D j by rw [hD]; exact List.mem_append_left _ (phs_mem hx))]
          rfl
      rw [hyes] at e1
      have c2 : ¬ bI true = 0 := by decide
      refine ⟨(nI (j + 1), z2), ?_, rfl, s', i2, i3, ?_, i5⟩
      · simp only [f_X6_joinsWith_L2, f_X6_joinsWith_J55, i2.r1, M_of1, l1, bs9, if_neg c1, M_of2, l2, e1, if_pos c2, nI_1]
      · rw [ts]; exact i4) (by
    rintro ⟨z1, z2⟩ ⟨i1, s', i2, i3, i4, i5⟩
    dsimp only at i1 i2 i3
    subst i1
    have HB' : repQ s' b (lb, Lb) := HB.kp h8b (fun t t1 t2 => i5 t (by omega))
    have c1 : nI Lb.length ≤ nI Lb.length := nI_le (Nat.le_refl _) (by omega)
    have l1 := i2.l1' (show 13 + 18 * b < 84 by omega)
    rw [HB'.2.1] at l1
    have l1 : ldI z2 (m + 1) (nI (13 + 18 * b)) = some (nI Lb.length) := l1
    rw [hDe] at i4
    refine ⟨z2, ?_, s', i2, i3, i4, i5⟩
    simp only [f_X6_joinsWith_L2, i2.r1, M_of1, l1, bs9, if_pos c1]) Lb.length 0 LF (0, h) (by omega) (by unfold LF; omega) ⟨rfl, s, H, onM.rf, by rw [hD]; simpa using HA, sOn.rf⟩
  have HB' : repQ s3 b (lb, Lb) := HB.kp h8b (fun t t1 t2 => q5 t (by omega))
  have l1 := q2.l1' (show 12 + 18 * a < 84 by omega)
  rw [q4.1] at l1
  have l2 := q2.l1' (show 12 + 18 * b < 84 by omega)
  rw [HB'.1] at l2
  obtain ⟨h4, d1, d2, d3⟩ := q2.s1' (show 12 + 18 * a < 84 by omega) (nI (la + lb))
  obtain ⟨Q1, Q2, Q3, Q4⟩ := q4
  refine ⟨h4, _, ?_, d2, q3.tr d3, ⟨upd_s _ _ _, (upd_n _ _ (by omega)).trans Q2, fun k q hq => ?_, fun u hu => (upd_n _ _ (by omega)).trans (Q4 u hu)⟩, q5.tr (sOn_upd _ (by omega) (by omega))⟩
  · simp only [f_X6_joinsWith, f_X6_joinsWith_J61, H.ok, if_true, q1, q2.r1, M_of0, l1, l2, bs9, nI_add, d1]
  · exact (upd_n _ _ (by omega)).trans (Q3 k q hq)
/-- some hue that both have doesn't come back at its gap, by number -/
def disU (g : Nat → Nat) (la : Nat) (La Lb : List (Nat × Nat)) (u : Nat) : Bool := match phs La u with
  | none => false
  | some pa => match phs Lb u with
    | none => false
    | some pb => decide (¬ pa = (la + pb) % g u)
theorem disU_any {g : Nat → Nat} {la : Nat} {La Lb : List (Nat × Nat)} (W : wfQ g La) : or9 (disU g la La Lb) 8 = La.any (disA g la La Lb) := by
  rw [or9_fst]
  cases hf : fst9 (disU g la La Lb) 0 8 with
  | some u =>
    obtain ⟨-, h1, h2, -⟩ := fst9_some hf
    symm
    unfold disU at h2
    cases hp : phs La u with
    | none => rw [hp] at h2; cases h2
    | some pa =>
      rw [hp] at h2
      refine List.any_eq_true.mpr ⟨(u, pa), phs_mem hp, ?_⟩
      unfold disA
      dsimp only at h2 ⊢
      cases hb : phs Lb u with
      | none => rw [hb] at h2; cases h2
      | some pb => rw [hb] at h2; exact h2
  | none =>
    have h1 := fst9_none hf
    symm
    refine Bool.eq_false_iff.mpr (fun h => ?_)
    obtain ⟨q, hq, h2⟩ := List.any_eq_true.mp h
    have h3 := h1 q.1 (Nat.zero_le _) (by have := (W.2 q hq).1; omega)
    unfold disU at h3
    rw [phs_of W.1 (show (q.1, q.2) ∈ La from hq)] at h3
    unfold disA at h2
    dsimp only at h3
    cases hb : phs Lb q.1 with
    | none => rw [hb] at h2; cases h2
    | some pb =>
      rw [hb] at h2 h3
      dsimp only at h2 h3
      rw [h2] at h3
      cases h3
theorem M_whyNot {T : TTt} (H : cM h m I (upF F 1 s) J) (HA : repA s T) (W : wfT T) {a b : Nat} (ha : a < T.2.1.length) (hb : b < T.2.1.length) : ∃ h' s' t, f_X6_whyNotJoined h m (nI a) (nI b) = some (nI (rjR T.1 T.2.1 a b), h') ∧ cM h' m I (upF (upF F 2 t) 1 s') J ∧ onM m h h' ∧ ∀ k, k < 84 → s' k = s k := by
  have hR := W.2.1
  have hg := W.1
  have QA := HA.q ha
  have QB := HA.q hb
  have Wa := W.2.2 _ (atR_mem ha)
  have Wb := W.2.2 _ (atR_mem hb)
  have hla := Wa.1.2
  have hlb := Wb.1.2
  have l1 := H.l1' (show 12 + 18 * a < 84 by omega)
  rw [QA.1] at l1
  have l2 := H.l1' (show 12 + 18 * b < 84 by omega)
  rw [QB.1] at l2
  have H0 : cM h m I (upF (upF F 2 (F 2)) 1 s) J := by rw [upF_self]; exact H
  unfold rjR
  by_cases hab : a = b
  · rw [if_pos hab]
    subst hab
    have d1 : ¬ ¬ nI a = nI a := fun q => q rfl
    refine ⟨h, s, F 2, ?_, H0, onM.rf, fun k _ => rfl⟩
    simp only [f_X6_whyNotJoined, f_X6_whyNotJoined_J33, f_X6_whyNotJoined_J43, H.ok, H.r1, if_true, M_of0, l1, l2, bs9, if_neg d1]
    rfl
  · rw [if_neg hab]
    have d1 : ¬ nI a = nI b := fun q => hab ((nI_eq (by omega) (by omega)).mp q)
    unfold rjA
    by_cases hn : 60 < (atR T.2.1 a).1 + (atR T.2.1 b).1
    · rw [if_pos hn]
      have b1 : ¬ nI ((atR T.2.1 a).1 + (atR T.2.1 b).1) ≤ (60 : Int32) := nI_ge (a := 60) hn (by omega)
      refine ⟨h, s, F 2, ?_, H0, onM.rf, fun k _ => rfl⟩
      simp only [f_X6_whyNotJoined, f_X6_whyNotJoined_J33, f_X6_whyNotJoined_J43, H.ok, H.r1, if_true, M_of0, l1, l2, bs9, nI_add, if_neg d1, if_neg b1]
      rw [if_pos d1]
      rfl
    · rw [if_neg hn]
      have b1 : nI ((atR T.2.1 a).1 + (atR T.2.1 b).1) ≤ (60 : Int32) := nI_le (b := 60) (by omega) (by omega)
      -- do the phases agree
      have hw : lpn (f_X6_whyNotJoined_L50 h m (nI a) (nI b) (nI ((atR T.2.1 a).1 + (atR T.2.1 b).1))) LF (1, 0) = some (bI (!(or9 (disU T.1 (atR T.2.1 a).1 (atR T.2.1 a).2 (atR T.2.1 b).2) 8))) := by
        have hb9 : ∀ j, 0 ≤ j → j < 0 + 8 → f_X6_whyNotJoined_L50 h m (nI a) (nI b) (nI ((atR T.2.1 a).1 + (atR T.2.1 b).1)) ((fun j => (bI (!(or9 (disU T.1 (atR T.2.1 a).1 (atR T.2.1 a).2 (atR T.2.1 b).2) j)), nI j)) j) = some (.inl ((fun j => (bI (!(or9 (disU T.1 (atR T.2.1 a).1 (atR T.2.1 a).2 (atR T.2.1 b).2) j)), nI j)) (j + 1))) := by
          intro j _ hj
          have hgj := hg j
          have c1 : ¬ (8 : Int32) ≤ nI j := nI_ge (b := 8) (by omega) (by omega)
          have x1 : f_X6_isLaid h m (nI a) (nI j) = some (bI (phs (atR T.2.1 a).2 j).isSome) := M_isLaid H (show a < 4 by omega) (X := atR T.2.1 a) QA hg Wa.q (show j < 8 by omega)
          have x2 : f_X6_isLaid h m (nI b) (nI j) = some (bI (phs (atR T.2.1 b).2 j).isSome) := M_isLaid H (show b < 4 by omega) (X := atR T.2.1 b) QB hg Wb.q (show j < 8 by omega)
          have x3 : f_X6_phaseOf h m (nI a) (nI j) = some (oI (phs (atR T.2.1 a).2 j)) := M_phaseOf H (show a < 4 by omega) (X := atR T.2.1 a) QA (show j < 8 by omega)
          simp only [or9]
          by_cases ho : or9 (disU T.1 (atR T.2.1 a).1 (atR T.2.1 a).2 (atR T.2.1 b).2) j = true
          · simp only [ho, Bool.true_or]
            have c2 : bI (!true) = 0 := rfl
            simp only [f_X6_whyNotJoined_L50, f_X6_whyNotJoined_J104, f_X6_whyNotJoined_J105, if_neg c1, if_pos c2, nI_1]
            rfl
          · have ho : or9 (disU T.1 (atR T.2.1 a).1 (atR T.2.1 a).2 (atR T.2.1 b).2) j = false := by simpa using ho
            simp only [ho, Bool.false_or]
            have c2 : ¬ bI (!false) = 0 := by decide
            unfold disU
            cases hpa : phs (atR T.2.1 a).2 j with
            | none =>
              rw [hpa] at x1
              have c3 : bI (none : Option Nat).isSome = 0 := rfl
              simp only [f_X6_whyNotJoined_L50, f_X6_whyNotJoined_J100, f_X6_whyNotJoined_J105, if_neg c1, if_neg c2, x1, bs9, if_pos c3, nI_1]
              rfl
            | some pa =>
              rw [hpa] at x1 x3
              have c3 : ¬ bI (some pa).isSome = 0 := by simp [bI]
              have hpa2 := phs_lt hg Wa.q hpa
              cases hpb : phs (atR T.2.1 b).2 j with
              | none =>
                rw [hpb] at x2
                have c4 : bI (none : Option Nat).isSome = 0 := rfl
                simp only [f_X6_whyNotJoined_L50, f_X6_whyNotJoined_J100, f_X6_whyNotJoined_J105, if_neg c1, if_neg c2, x1, bs9, if_neg c3, x2, if_pos c4, nI_1]
                rfl
              | some pb =>
                rw [hpb] at x2
                have c4 : ¬ bI (some pb).isSome = 0 := by simp [bI]
                have hpb2 := phs_lt hg Wb.q hpb
                have y1 := QB.2.2.2 j (by omega)
                rw [hpb] at y1
                have x4 := M_behind H (show a < 4 by omega) (show b < 4 by omega) hg HA.1 (show j < 8 by omega) QA.1 hla (pb := pb) y1 hpb2.1
                have hmod := Nat.mod_lt ((atR T.2.1 a).1 + pb) (show 0 < T.1 j by omega)
                dsimp only
                by_cases he : pa = ((atR T.2.1 a).1 + pb) % T.1 j
                · have c5 : ¬ ¬ oI (some pa) = nI (((atR T.2.1 a).1 + pb) % T.1 j) := fun q => q (by rw [← he]; rfl)
                  simp only [f_X6_whyNotJoined_L50, f_X6_whyNotJoined_J100, f_X6_whyNotJoined_J105, if_neg c1, if_neg c2, x1, bs9, if_neg c3, x2, if_neg c4, x3, x4, if_neg c5, nI_1]
                  rw [decide_eq_false (fun q => q he)]
                  rfl
                · have c5 : ¬ oI (some pa) = nI (((atR T.2.1 a).1 + pb) % T.1 j) := fun q => he ((nI_eq (by omega) (by omega)).mp q)
                  simp only [f_X6_whyNotJoined_L50, f_X6_whyNotJoined_J104, f_X6_whyNotJoined_J105, if_neg c1, if_neg c2, x1, bs9, if_neg c3, x2, if_neg c4, x3, x4, if_pos c5, nI_1]
                  rw [decide_eq_true he]
                  rfl
        have he9 : f_X6_whyNotJoined_L50 h m (nI a) (nI b) (nI ((atR T.2.1 a).1 + (atR T.2.1 b).1)) ((fun j => (bI (!(or9 (disU T.1 (atR T.2.1 a).1 (atR T.2.1 a).2 (atR T.2.1 b).2) j)), nI j)) (0 + 8)) = some (.inr (bI (!(or9 (disU T.1 (atR T.2.1 a).1 (atR T.2.1 a).2 (atR T.2.1 b).2) 8)))) := by
          have c1 : (8 : Int32) ≤ nI 8 := nI_le (a := 8) (Nat.le_refl _) (by omega)
          simp only [Nat.zero_add, f_X6_whyNotJoined_L50, if_pos c1]
        have hw := lpn_run (fun j => (bI (!(or9 (disU T.1 (atR T.2.1 a).1 (atR T.2.1 a).2 (atR T.2.1 b).2) j)), nI j)) _ 8 0 LF hb9 he9 (by unfold LF; omega)
        exact hw
      rw [disU_any Wa.q] at hw
      by_cases hd : (atR T.2.1 a).2.any (disA T.1 (atR T.2.1 a).1 (atR T.2.1 a).2 (atR T.2.1 b).2) = true
      · rw [if_pos hd]
        rw [hd] at hw
        have c2 : ¬ ¬ bI (!true) = 0 := fun q => q rfl
        refine ⟨h, s, F 2, ?_, H0, onM.rf, fun k _ => rfl⟩
        simp only [f_X6_whyNotJoined, f_X6_whyNotJoined_J113, H.ok, H.r1, if_true, M_of0, l1, l2, bs9, nI_add, if_neg d1, if_pos b1, hw, if_neg c2]
        rfl
      · rw [if_neg hd]
        have hd : (atR T.2.1 a).2.any (disA T.1 (atR T.2.1 a).1 (atR T.2.1 a).2 (atR T.2.1 b).2) = false := by simpa using hd
        rw [hd] at hw
        have c2 : ¬ bI (!false) = 0 := by decide
        obtain ⟨h1, t, a1, a2, a3, a4⟩ := M_putAside H
        obtain ⟨h2, s2, b1', b2, b3, b4, b5⟩ := M_joinsWith a2 (show a < 4 by omega) (show b < 4 by omega) hab hg HA.1 Wa Wb QA QB
        have WJ : wfQ T.1 (jnA T.1 (atR T.2.1 a).1 (atR T.2.1 a).2 (atR T.2.1 b).2) := ⟨jn_nodup Wa Wb, fun q hq => by
          obtain ⟨e1, e2, e3⟩ := jn_each hg Wa Wb hq
          exact ⟨e1, e3⟩⟩
        have hcl := M_clash b2 (show a < 4 by omega) (X := ((atR T.2.1 a).1 + (atR T.2.1 b).1, jnA T.1 (atR T.2.1 a).1 (atR T.2.1 a).2 (atR T.2.1 b).2)) b4 (b5.gap HA.1) hg WJ
        have hcl : f_X6_clash h2 m (nI a) = some (nI (clashA T.1 (jnA T.1 (atR T.2.1 a).1 (atR T.2.1 a).2 (atR T.2.1 b).2))) := hcl
        have hc60 := clash_le T.1 (jnA T.1 (atR T.2.1 a).1 (atR T.2.1 a).2 (atR T.2.1 b).2)
        obtain ⟨h3, s3, e1, e2, e3, e4⟩ := M_putBack b2
        refine ⟨h3, s3, t, ?_, e2, a3.tr (b3.tr e3), fun k hk => (e4 k hk).trans (a4 k hk)⟩
        by_cases hc : clashA T.1 (jnA T.1 (atR T.2.1 a).1 (atR T.2.1 a).2 (atR T.2.1 b).2) < (atR T.2.1 a).1 + (atR T.2.1 b).1
        · rw [if_pos hc]
          have c3 : ¬ nI ((atR T.2.1 a).1 + (atR T.2.1 b).1) ≤ nI (clashA T.1 (jnA T.1 (atR T.2.1 a).1 (atR T.2.1 a).2 (atR T.2.1 b).2)) := nI_ge hc (by omega)
          have c4 : ¬ (1 : Int32) = 0 := by decide
          simp only [f_X6_whyNotJoined, f_X6_whyNotJoined_J113, f_X6_whyNotJoined_J144, f_X6_whyNotJoined_J160, H.ok, H.r1, if_true, M_of0, l1, l2, bs9, nI_add, if_neg d1, if_pos b1, hw, if_pos c2, a1, b1', hcl, if_neg c3, e1, if_neg c4]
          rfl
        · rw [if_neg hc]
          have c3 : nI ((atR T.2.1 a).1 + (atR T.2.1 b).1) ≤ nI (clashA T.1 (jnA T.1 (atR T.2.1 a).1 (atR T.2.1 a).2 (atR T.2.1 b).2)) := nI_le (by omega) (by omega)
          simp only [f_X6_whyNotJoined, f_X6_whyNotJoined_J113, f_X6_whyNotJoined_J144, f_X6_whyNotJoined_J160, H.ok, H.r1, if_true, M_of0, l1, l2, bs9, nI_add, if_neg d1, if_pos b1, hw, if_pos c2, a1, b1', hcl, if_pos c3, e1]
          rfl
end ModelWrites3
