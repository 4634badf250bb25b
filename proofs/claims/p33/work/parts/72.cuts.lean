/-! THE LAW, 3: a rope that is cut, and joined again -/
section CutMath
variable {g : Nat → Nat} {len a : Nat} {L : List (Nat × Nat)}
theorem flt_phs (W : wfR g len L) {q : Nat × Nat} (hq : q ∈ L) : phs (fltA a L) q.1 = if q.2 < a then some q.2 else none := by
  have hn : ((fltA a L).map Prod.fst).Nodup := W.2.1.sublist (List.filter_sublist.map _)
  by_cases h : q.2 < a
  · rw [if_pos h]
    exact phs_of hn (u := q.1) (p := q.2) (List.mem_filter.mpr ⟨hq, decide_eq_true h⟩)
  · rw [if_neg h, phs_none]
    intro q2 h2 he
    obtain ⟨m1, m2⟩ := List.mem_filter.mp h2
    have := nodup_fst W.2.1 q2 m1 q hq he
    rw [this] at m2
    exact h (of_decide_eq_true m2)
theorem jn_cut_aux (W : wfR g len L) : ∀ M : List (Nat × Nat), (∀ q ∈ M, q ∈ L) → ((M.filterMap (bkA g a len)).filter (fun q => decide (phs (fltA a L) q.1 = none))).map (fun q => (q.1, (a + q.2) % g q.1)) = M.filter (fun q => decide (¬ q.2 < a)) := by
  intro M
  induction M with
  | nil => intro _; rfl
  | cons q M ih =>
    intro hM
    have ih := ih (fun q' h => hM q' (List.mem_cons_of_mem _ h))
    have hq := hM q List.mem_cons_self
    obtain ⟨a1, a2, a3⟩ := W.2.2.1 q hq
    have hp := flt_phs (a := a) W hq
    by_cases h : q.2 < a
    · rw [if_pos h] at hp
      rw [List.filter_cons, if_neg (by simp [h]), List.filterMap_cons]
      cases hb : bkA g a len q with
      | none => exact ih
      | some q' =>
        have e1 := bkA_fst hb
        dsimp only
        rw [List.filter_cons, if_neg (by rw [e1, hp]; simp)]
        exact ih
    · rw [if_neg h] at hp
      have hb : bkA g a len q = some (q.1, q.2 - a) := by
        unfold bkA frm
        rw [if_pos (show a ≤ q.2 by omega), if_pos a2]
      rw [List.filter_cons, if_pos (by simp [h]), List.filterMap_cons, hb]
      dsimp only
      rw [List.filter_cons, if_pos (by rw [hp]; simp), List.map_cons, ih]
      congr 1
      show (q.1, (a + (q.2 - a)) % g q.1) = q
      rw [show a + (q.2 - a) = q.2 by omega, Nat.mod_eq_of_lt a3]
theorem jn_cut (W : wfR g len L) : (jnA g a (fltA a L) (L.filterMap (bkA g a len))).Perm L := by
  unfold jnA
  rw [jn_cut_aux W L (fun q h => h)]
  have h := List.filter_append_perm (fun q : Nat × Nat => decide (q.2 < a)) L
  have e : (fun q : Nat × Nat => decide (¬ q.2 < a)) = fun q : Nat × Nat => !decide (q.2 < a) := by
    funext q
    exact decide_not
  rw [e]
  exact h
theorem cntT_perm {M : List (Nat × Nat)} (h : M.Perm L) (i : Nat) : cntT g M i = cntT g L i := (h.filter _).length_eq
theorem clash_perm {M : List (Nat × Nat)} (h : M.Perm L) : clashA g M = clashA g L := by
  unfold clashA
  rw [fst9_congr (fun i _ _ => by rw [cntT_perm h])]
theorem holL_congr {n : Nat} {M : List (Nat × Nat)} (h : ∀ i, i < n → (col g M i = none ↔ col g L i = none)) : holL g n M = holL g n L := by
  unfold holL
  exact cnt9_congr (fun i hi => by rw [decide_eq_decide]; exact h i hi)
theorem holL_perm {n : Nat} {M : List (Nat × Nat)} (h : M.Perm L) : holL g n M = holL g n L :=
  holL_congr (fun i _ => by rw [← cntT_0, ← cntT_0, cntT_perm h])
theorem cnt9_add {P : Nat → Bool} {n : Nat} : ∀ m, cnt9 P (n + m) = cnt9 P n + cnt9 (fun j => P (n + j)) m := by
  intro m
  induction m with
  | zero => rfl
  | succ m ih =>
    rw [← Nat.add_assoc]
    simp only [cnt9]
    rw [ih]
    omega
theorem bk_tk (hg : wfg g) {q : Nat × Nat} {j : Nat} (hj : a + j < len) : (∃ q', bkA g a len q = some q' ∧ tkb g q' j = true) ↔ tkb g q (a + j) = true := by
  have hs : 0 < g q.1 := by have := (hg q.1).1; omega
  have h2 := frm_ge (p := q.2) (s := g q.1) (a := a) hs
  obtain ⟨k, hk⟩ := frm_on (p := q.2) (s := g q.1) (a := a)
  constructor
  · rintro ⟨q', h, t⟩
    unfold bkA at h
    split at h
    · cases h
      obtain ⟨m, hm⟩ := tkb_iff.mp t
      have hm2 : j = frm q.2 (g q.1) a - a + m * g q.1 := hm
      exact tkb_iff.mpr ⟨k + m, by rw [Nat.add_mul]; omega⟩
    · cases h
  · intro t
    obtain ⟨m, hm⟩ := tkb_iff.mp t
    have h3 := frm_le (p := q.2) (s := g q.1) (a := a) (j := m) hs (by omega)
    refine ⟨(q.1, frm q.2 (g q.1) a - a), ?_, ?_⟩
    · unfold bkA
      rw [if_pos (by omega)]
    · refine tkb_iff.mpr ⟨m - k, ?_⟩
      show j = frm q.2 (g q.1) a - a + (m - k) * g q.1
      have h4 : k ≤ m := by
        rcases Nat.lt_or_ge m k with h5 | h5
        · have h6 := Nat.mul_lt_mul_of_pos_right h5 hs
          omega
        · exact h5
      rw [Nat.sub_mul]
      have h7 := Nat.mul_le_mul_right (g q.1) h4
      omega
theorem hol_cut (hg : wfg g) (ha : a < len) : holL g a (fltA a L) + holL g (len - a) (L.filterMap (bkA g a len)) = holL g len L := by
  have e1 : holL g a (fltA a L) = holL g a L := by
    refine holL_congr (fun i hi => ?_)
    rw [col_none, col_none]
    constructor
    · intro h q hq
      by_cases hp : q.2 < a
      · exact h q (List.mem_filter.mpr ⟨hq, decide_eq_true hp⟩)
      · unfold tkb
        exact decide_eq_false (by omega)
    · intro h q hq
      exact h q (List.mem_filter.mp hq).1
  have e2 : holL g (len - a) (L.filterMap (bkA g a len)) = cnt9 (fun j => decide (col g L (a + j) = none)) (len - a) := by
    unfold holL
    refine cnt9_congr (fun j hj => ?_)
    rw [decide_eq_decide, col_none, col_none]
    constructor
    · intro h q hq
      cases ht : tkb g q (a + j) with
      | false => rfl
      | true =>
        obtain ⟨q', h1, h2⟩ := (bk_tk hg (show a + j < len by omega)).mpr ht
        rw [h q' (List.mem_filterMap.mpr ⟨q, hq, h1⟩)] at h2
        cases h2
    · intro h q' hq'
      obtain ⟨q, hq, h1⟩ := List.mem_filterMap.mp hq'
      cases ht : tkb g q' j with
      | false => rfl
      | true =>
        have h3 := (bk_tk hg (show a + j < len by omega)).mp ⟨q', h1, ht⟩
        rw [h q hq] at h3
        cases h3
  rw [e1, e2]
  unfold holL
  rw [← cnt9_add (P := fun j => decide (col g L j = none)) (n := a) (len - a), show a + (len - a) = len by omega]
theorem rj_cut (hg : wfg g) (W : wfR g len L) (ha : a < len) : rjA g a (len - a) (fltA a L) (L.filterMap (bkA g a len)) = 0 := by
  unfold rjA
  have h60 := W.1.2
  rw [if_neg (by omega), if_neg, if_neg]
  · rw [clash_perm (jn_cut W), show a + (len - a) = len by omega]
    have := clash_len W
    omega
  · intro h
    obtain ⟨q, hq, hd⟩ := List.any_eq_true.mp h
    have hqL := (List.mem_filter.mp hq).1
    obtain ⟨a1, a2, a3⟩ := W.2.2.1 q hqL
    have hs : 0 < g q.1 := by omega
    unfold disA at hd
    cases hp : phs (L.filterMap (bkA g a len)) q.1 with
    | none => rw [hp] at hd; cases hd
    | some p =>
      rw [hp] at hd
      obtain ⟨q2, h2, h3⟩ := List.mem_filterMap.mp (phs_mem hp)
      have h4 := bkA_fst h3
      have h5 := nodup_fst W.2.1 q2 h2 q hqL h4.symm
      subst h5
      unfold bkA at h3
      split at h3
      · have h6 : frm q2.2 (g q2.1) a - a = p := congrArg Prod.snd (Option.some.inj h3)
        obtain ⟨k, hk⟩ := frm_on (p := q2.2) (s := g q2.1) (a := a)
        have h7 := frm_ge (p := q2.2) (s := g q2.1) (a := a) hs
        refine (of_decide_eq_true hd) ?_
        rw [show a + p = q2.2 + k * g q2.1 by omega, Nat.add_mul_mod_self_right, Nat.mod_eq_of_lt a3]
      · cases h3
end CutMath
theorem atR_app {R : RRt} {X : Nat × List (Nat × Nat)} : atR (R ++ [X]) R.length = X := by
  unfold atR
  rw [List.getD_eq_getElem?_getD, List.getElem?_append_right (Nat.le_refl _), Nat.sub_self]
  rfl
theorem atR_ne {R : RRt} {i j : Nat} (h : ¬ i = j) (X : Nat × List (Nat × Nat)) : atR (R.set i X) j = atR R j := by
  unfold atR
  rw [List.getD_eq_getElem?_getD, List.getD_eq_getElem?_getD, List.getElem?_set_ne h]
theorem atR_er {R : RRt} {i j : Nat} (h : i < j) : atR (R.eraseIdx j) i = atR R i := by
  unfold atR
  rw [List.getD_eq_getElem?_getD, List.getD_eq_getElem?_getD, List.getElem?_eraseIdx_of_lt h]
section Law3
variable {h : PH} {x : Nat} {A : AAt}
set_option maxHeartbeats 2000000 in
theorem L_cuts (W : wfA A) (H : repC h x A) {i p : Nat} (hi : i < A.1.2.1.length) (h1 : 1 ≤ p) (h2 : p < (atR A.1.2.1 i).1) (hR4 : ¬ A.1.2.1.length = 4) : Gd (f_L_cuts h x (nI i) (nI p)) x A := by
  have hR := W.1.2.1
  have hg := W.1.1
  have WR := W.1.2.2 _ (atR_mem hi)
  have h60 := WR.1.2
  have e1 := V_rope0 W H hi
  have e2 := V_rope2 W H hi
  have e3 := V_count0 W H
  have e4 := V_count6 W H
  obtain ⟨X, hX⟩ : ∃ X, X = atR A.1.2.1 i := ⟨_, rfl⟩
  obtain ⟨n, hn⟩ : ∃ n, n = A.1.2.1.length := ⟨_, rfl⟩
  -- behind the cut
  obtain ⟨ha, k1, k2, k3⟩ := K_cut W H hi h1 h2 hR4
  have R1 : (cutT A i p).1.2.1 = (A.1.2.1 ++ [(X.1 - p, X.2.filterMap (bkA A.1.1 p X.1))]).set i (p, fltA p X.2) := by rw [hX]; rfl
  have g1 : (cutT A i p).1.1 = A.1.1 := rfl
  have l1 : (cutT A i p).1.2.1.length = n + 1 := by rw [R1, List.length_set, List.length_append, hn]; rfl
  have a1 : atR (cutT A i p).1.2.1 i = (p, fltA p X.2) := by rw [R1]; exact atR_set (by rw [List.length_append]; omega) _
  have a2 : atR (cutT A i p).1.2.1 n = (X.1 - p, X.2.filterMap (bkA A.1.1 p X.1)) := by rw [R1, atR_ne (by omega), hn]; exact atR_app
  have hi1 : i < (cutT A i p).1.2.1.length := by omega
  have hn1 : n < (cutT A i p).1.2.1.length := by omega
  have f1 := V_rope0 k3 k2 hi1
  have f2 := V_rope0 k3 k2 hn1
  have f3 := V_rope2 k3 k2 hi1
  have f4 := V_rope2 k3 k2 hn1
  have f5 := V_count6 k3 k2
  rw [a1] at f1 f3
  rw [a2] at f2 f4
  rw [g1] at f3 f4
  have f5 : okL9 (f_X5_count ha x (6 : Int32)) = some (A.1.2.2.2.2 + 1) := f5
  obtain ⟨hb, m1, m2⟩ := K_joining k3 k2 hi1 hn1
  have hj : rjR (cutT A i p).1.1 (cutT A i p).1.2.1 i n = 0 := by
    unfold rjR
    rw [if_neg (by omega), a1, a2, g1]
    rw [hX]
    exact rj_cut hg WR h2
  rw [hj] at m1
  obtain ⟨hc, q1, q2, q3⟩ := K_join k3 m2 hi1 hn1 hj
  have R2 : (joinT (cutT A i p) i n).1.2.1 = ((cutT A i p).1.2.1.set i (p + (X.1 - p), jnA A.1.1 p (fltA p X.2) (X.2.filterMap (bkA A.1.1 p X.1)))).eraseIdx n := by
    unfold joinT
    rw [a1, a2, g1]
  have a3 : atR (joinT (cutT A i p) i n).1.2.1 i = (p + (X.1 - p), jnA A.1.1 p (fltA p X.2) (X.2.filterMap (bkA A.1.1 p X.1))) := by
    rw [R2, atR_er (by omega)]
    exact atR_set hi1 _
  have hi3 : i < (joinT (cutT A i p) i n).1.2.1.length := by
    rw [R2, List.length_eraseIdx, List.length_set, l1]
    split <;> omega
  have s1 := V_rope2 q3 q2 hi3
  have g3 : (joinT (cutT A i p) i n).1.1 = A.1.1 := rfl
  rw [a3, g3] at s1
  rw [a1, a2] at q1
  have ex : p + (X.1 - p) = X.1 := by rw [hX]; omega
  dsimp only at f1 f2 f3 f4 q1 s1
  rw [ex] at q1 s1
  have WX : wfR A.1.1 X.1 X.2 := by rw [hX]; exact WR
  rw [holL_perm (jn_cut WX)] at s1
  obtain ⟨hd, t1, t2, t3⟩ := K_undo q3 q2 (T := (cutT A i p).1) (sv_last (cutT A i p))
  have u1 := V_count0 t3 t2
  have u1 : okL9 (f_X5_count hd x (0 : Int32)) = some (nI (cutT A i p).1.2.1.length) := u1
  rw [l1] at u1
  have d1 : nI X.1 - nI p = nI (X.1 - p) := nI_sub (by rw [hX]; omega)
  have d2 : nI (holL A.1.1 p (fltA p X.2)) + nI (holL A.1.1 (X.1 - p) (X.2.filterMap (bkA A.1.1 p X.1))) = nI (holL A.1.1 X.1 X.2) := by
    rw [nI_add, hol_cut hg (by rw [hX]; exact h2)]
  have c1 : ¬ nI ((joinT (cutT A i p) i n).2.1.length - 1) < 0 := nI_pos (by have := q3.2.2.1; omega)
  rw [← hX] at e1 e2
  rw [← hn] at e3 k1
  refine ⟨hd, _, ?_, t2, t3, rfl⟩
  have z0 : nI 0 = (0 : Int32) := rfl
  simp only [f_L_cuts, e1, e2, e3, e4, bs9, k1, f1, f2, d1, f3, f4, d2, f5, not_true_eq_false, if_false, f_L_cuts_J101, if_neg (show ¬ (1 : Int32) = 0 by decide), m1, z0, q1, s1, t1, if_neg c1, u1, nI_1, f_L_cuts_J164, z01_1, if_true]
end Law3
