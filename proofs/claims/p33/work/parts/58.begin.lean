/-! PURE READING, 41: what the constructors leave -/
theorem nwC_of {h : PH} {z c zm sm N : Nat} {e : PC} (h1 : z + 1 ≤ zm) (h2 : c + N ≤ sm) : nwC (h, z, c) zm sm N e = some (pu h z e, z + 1, c + N) := if_pos ⟨h1, h2⟩
theorem clC_of {h h' : PH} {z c zm sm cc sc : Nat} {r : Option (PH × Nat)} (e : r = some (h', z + cc)) (h1 : z + cc ≤ zm) (h2 : c + sc ≤ sm) : clC (h, z, c) zm sm cc sc r = some (h', z + cc, c + sc) := by
  subst e
  exact if_pos ⟨rfl, h1, h2⟩
theorem lnA_l {h : PH} {a n : Nat} {f : Nat → Int32} (h1 : h a = some (.inl (n, f))) : lnA h a = some (nI n) := by
  unfold lnA
  rw [h1]
  rfl
theorem lnA_r {h : PH} {a k n : Nat} {f : Nat → Option Nat} (h1 : h a = some (.inr (.inl (k, n, f)))) : lnA h a = some (nI n) := by
  unfold lnA
  rw [h1]
  rfl
section Begin
variable {h : PH}
theorem I_rope {r : Nat} (H : h r = some (.inr (.inr (1, [.null, .null, .int 0, .int 0])))) : ∃ h', f_X2_init h (r + 1) (r + 1 + 2) 68 r = some (h', r + 1 + 2) ∧ jR h' r ∧ ∀ b, b < r ∨ r + 3 ≤ b → h' b = h b := by
  have e1 := nwC_of (h := h) (z := r + 1) (c := 0) (zm := r + 1 + 2) (sm := 68) (N := 60) (e := .inl (60, fun _ => 0)) (by omega) (by omega)
  have a1 : (pu h (r + 1) (.inl (60, fun _ => 0))) r = some (.inr (.inr (1, [.null, .null, .int 0, .int 0]))) := (pu_n (by omega)).trans H
  have e2 := wrF_of (k := 0) (.ref (r + 1)) a1 (by simp)
  have e3 := nwC_of (h := pu (pu h (r + 1) (.inl (60, fun _ => 0))) r (.inr (.inr (1, [.ref (r + 1), .null, .int 0, .int 0])))) (z := r + 1 + 1) (c := 60) (zm := r + 1 + 2) (sm := 68) (N := 8) (e := .inl (8, fun _ => 0)) (by omega) (by omega)
  have a2 : pu (pu (pu h (r + 1) (.inl (60, fun _ => 0))) r (.inr (.inr (1, [.ref (r + 1), .null, .int 0, .int 0])))) (r + 1 + 1) (.inl (8, fun _ => 0)) r = some (.inr (.inr (1, [.ref (r + 1), .null, .int 0, .int 0]))) := (pu_n (by omega)).trans pu_s
  have e4 := wrF_of (k := 1) (.ref (r + 1 + 1)) a2 (by simp)
  have e5 := wrF_of (k := 2) (.int (0 : Int32)) (pu_s (h := pu (pu (pu h (r + 1) (.inl (60, fun _ => 0))) r (.inr (.inr (1, [.ref (r + 1), .null, .int 0, .int 0])))) (r + 1 + 1) (.inl (8, fun _ => 0))) (a := r) (e := .inr (.inr (1, [.ref (r + 1), .ref (r + 1 + 1), .int 0, .int 0])))) (by simp)
  obtain ⟨hp, hpd⟩ : ∃ hp : PH, hp = pu (pu (pu (pu h (r + 1) (.inl (60, fun _ => 0))) r (.inr (.inr (1, [.ref (r + 1), .null, .int 0, .int 0])))) (r + 1 + 1) (.inl (8, fun _ => 0))) r (.inr (.inr (1, [.ref (r + 1), .ref (r + 1 + 1), .int 0, .int 0]))) := ⟨_, rfl⟩
  rw [← hpd] at e5
  have e6 := wrF_of (k := 3) (.int (0 : Int32)) (pu_s (h := hp) (a := r) (e := .inr (.inr (1, [.ref (r + 1), .ref (r + 1 + 1), .int 0, .int 0])))) (by simp)
  refine ⟨pu (pu hp r (.inr (.inr (1, [.ref (r + 1), .ref (r + 1 + 1), .int 0, .int 0])))) r (.inr (.inr (1, [.ref (r + 1), .ref (r + 1 + 1), .int 0, .int 0]))), ?_, ⟨0, 0, fun _ => 0, fun _ => 0, pu_s, (pu_n (by omega)).trans ((pu_n (by omega)).trans ?_), (pu_n (by omega)).trans ((pu_n (by omega)).trans ?_)⟩, fun b hb => (pu_n (by omega)).trans ((pu_n (by omega)).trans ?_)⟩
  · have c1 : r + 1 + 1 + 1 ≤ r + 1 + 2 ∧ 60 + 8 ≤ 68 := ⟨by omega, by omega⟩
    simp only [List.set_cons_zero, List.set_cons_succ] at e2 e4 e5 e6
    rw [← hpd] at e4
    simp only [f_X2_init, Nat.zero_add, e1, bs9, e2, e3, e4, e5, e6, if_pos c1]
  · rw [hpd]
    exact (pu_n (by omega)).trans ((pu_n (by omega)).trans ((pu_n (by omega)).trans pu_s))
  · rw [hpd]
    exact (pu_n (by omega)).trans pu_s
  · rw [hpd]
    exact (pu_n (by omega)).trans ((pu_n (by omega)).trans ((pu_n (by omega)).trans (pu_n (by omega))))
/-- the gaps at the begin -/
def g09 (u : Nat) : Nat := if u < 8 then 2 + u else 2
theorem wfg_09 : wfg g09 := by
  intro u
  unfold g09
  split <;> omega
def T09 : TTt := (g09, [], 0, 0, 0)
def A09 : AAt := (T09, [], none, [])
theorem wf_T09 : wfT T09 := ⟨wfg_09, by show (0 : Nat) ≤ 4; omega, fun X hX => by cases hX⟩
theorem wf_A09 : wfA A09 := ⟨wf_T09, fun T hT => (by cases hT), (by show (0 : Nat) ≤ 6; omega), fun T hT => (by cases hT), (by show (0 : Nat) ≤ 60; omega), fun c hc => (by cases hc)⟩
theorem I_gaps {s z c zm sm : Nat} : ∀ {h : PH} {q : Value}, h s = some (.inr (.inr (2, [.ref (s + 1), q, .int 0, .int 0, .int 0, .int 0]))) → h (s + 1) = some (.inl (8, fun _ => 0)) → ∃ w, lpn (f_X3_init_L14 zm sm s) LF (0, h, z, c) = some w ∧ (w.2 = (z, c) ∧ (∃ gf : Nat → Int32, w.1 (s + 1) = some (.inl (8, gf)) ∧ ∀ u, u < 8 → gf u = nI (g09 u)) ∧ ∀ b, ¬ b = s + 1 → w.1 b = h b) := by
  intro h q H1 H2
  refine lpn_inv (fun j x => x.1 = nI j ∧ x.2.2 = (z, c) ∧ (∃ gf : Nat → Int32, x.2.1 (s + 1) = some (.inl (8, gf)) ∧ ∀ u, u < j → gf u = nI (g09 u)) ∧ ∀ b, ¬ b = s + 1 → x.2.1 b = h b) _ 8 ?_ ?_ 8 0 LF (0, h, z, c) rfl (by unfold LF; omega) ⟨rfl, rfl, ⟨_, H2, fun u hu => by omega⟩, fun b _ => rfl⟩
  · rintro j ⟨i, h1, zc⟩ hj ⟨r1, r2, ⟨gf, r3, r4⟩, r5⟩
    dsimp only at r1 r2 r3 r5
    subst r1 r2
    have e0 : h1 s = some (.inr (.inr (2, [.ref (s + 1), q, .int 0, .int 0, .int 0, .int 0]))) := (r5 s (by omega)).trans H1
    have e1 : rdR h1 s 2 0 = some (s + 1) := rdR_of e0 rfl
    have e2 := lnA_l r3
    have e3 := stI_of (i := j) (nI (2 + j)) r3 hj (by omega)
    have n2 : (2 : Int32) + nI j = nI (2 + j) := nI_add 2 j
    have c1 : ¬ nI 8 ≤ nI j := nI_ge hj (by omega)
    refine ⟨(nI (j + 1), pu h1 (s + 1) (.inl (8, upd gf j (nI (2 + j)))), z, c), ?_, rfl, rfl, ⟨_, pu_s, fun u hu => ?_⟩, fun b hb => (pu_n hb).trans (r5 b hb)⟩
    · simp only [f_X3_init_L14, e1, e2, bs9, if_neg c1, n2, e3, nI_1]
    · by_cases hu2 : u = j
      · subst hu2
        rw [upd_s]
        unfold g09
        rw [if_pos hj]
      · rw [upd_n _ _ hu2]
        exact r4 u (by omega)
  · rintro ⟨i, h1, zc⟩ ⟨r1, r2, ⟨gf, r3, r4⟩, r5⟩
    dsimp only at r1 r2 r3 r5
    subst r1 r2
    have e0 : h1 s = some (.inr (.inr (2, [.ref (s + 1), q, .int 0, .int 0, .int 0, .int 0]))) := (r5 s (by omega)).trans H1
    have e1 : rdR h1 s 2 0 = some (s + 1) := rdR_of e0 rfl
    have e2 := lnA_l r3
    have c1 : nI 8 ≤ nI 8 := Int32.le_refl _
    refine ⟨(h1, z, c), ?_, rfl, ⟨gf, r3, r4⟩, r5⟩
    simp only [f_X3_init_L14, e1, e2, bs9, if_pos c1]
theorem I_ropes {s : Nat} : ∀ {h : PH}, h s = some (.inr (.inr (2, [.ref (s + 1), .ref (s + 2), .int 0, .int 0, .int 0, .int 0]))) → h (s + 2) = some (.inr (.inl (0, 4, fun _ => none))) → ∃ w, lpn (f_X3_init_L48 (s + 1 + 14) 300 s) LF (0, h, s + 3, 12) = some w ∧ (w.2 = (s + 1 + 14, 300) ∧ (∃ rf : Nat → Option Nat, w.1 (s + 2) = some (.inr (.inl (0, 4, rf))) ∧ ∀ i, i < 4 → rf i = some (s + 3 + 3 * i) ∧ jR w.1 (s + 3 + 3 * i)) ∧ ∀ b, b < s + 2 ∨ s + 15 ≤ b → w.1 b = h b) := by
  intro h H1 H2
  refine lpn_inv (fun j x => x.1 = nI j ∧ x.2.2 = (s + 3 + 3 * j, 12 + 72 * j) ∧ (∃ rf : Nat → Option Nat, x.2.1 (s + 2) = some (.inr (.inl (0, 4, rf))) ∧ ∀ i, i < j → rf i = some (s + 3 + 3 * i) ∧ jR x.2.1 (s + 3 + 3 * i)) ∧ ∀ b, b < s + 2 ∨ s + 15 ≤ b → x.2.1 b = h b) _ 4 ?_ ?_ 4 0 LF (0, h, s + 3, 12) rfl (by unfold LF; omega) ⟨rfl, rfl, ⟨_, H2, fun u hu => by omega⟩, fun b _ => rfl⟩
  · rintro j ⟨i, h1, zc⟩ hj ⟨r1, r2, ⟨rf, r3, r4⟩, r5⟩
    dsimp only at r1 r2 r3 r4 r5
    subst r1 r2
    have e0 : h1 s = some (.inr (.inr (2, [.ref (s + 1), .ref (s + 2), .int 0, .int 0, .int 0, .int 0]))) := (r5 s (by omega)).trans H1
    have e1 : rdR h1 s 2 1 = some (s + 2) := rdR_of e0 rfl
    have e2 := lnA_r r3
    have c1 : ¬ nI 4 ≤ nI j := nI_ge hj (by omega)
    have e3 := nwC_of (h := h1) (z := s + 3 + 3 * j) (c := 12 + 72 * j) (zm := s + 1 + 14) (sm := 300) (N := 4) (e := .inr (.inr (1, [.null, .null, .int 0, .int 0]))) (by omega) (by omega)
    obtain ⟨h2, f1, f2, f3⟩ := I_rope (h := pu h1 (s + 3 + 3 * j) (.inr (.inr (1, [.null, .null, .int 0, .int 0])))) (r := s + 3 + 3 * j) pu_s
    have e4 := clC_of (h := pu h1 (s + 3 + 3 * j) (.inr (.inr (1, [.null, .null, .int 0, .int 0])))) (c := 12 + 72 * j + 4) (zm := s + 1 + 14) (sm := 300) (cc := 2) (sc := 68) f1 (by omega) (by omega)
    have r3' : h2 (s + 2) = some (.inr (.inl (0, 4, rf))) := (f3 _ (by omega)).trans ((pu_n (by omega)).trans r3)
    have e5 := stQ_of (i := j) (v := s + 3 + 3 * j) r3' hj (by omega) (Or.inl ⟨rfl, f2.ok⟩)
    refine ⟨(nI (j + 1), pu h2 (s + 2) (.inr (.inl (0, 4, va_up rf j (some (s + 3 + 3 * j))))), s + 3 + 3 * (j + 1), 12 + 72 * (j + 1)), ?_, rfl, rfl, ⟨_, pu_s, fun i hi => ?_⟩, fun b hb => (pu_n (by omega)).trans ((f3 b (by omega)).trans ((pu_n (by omega)).trans (r5 b hb)))⟩
    · have n1 : s + 3 + 3 * j + 1 + 2 = s + 3 + 3 * (j + 1) := by omega
      have n2 : 12 + 72 * j + 4 + 68 = 12 + 72 * (j + 1) := by omega
      rw [n1, n2] at e4
      simp only [f_X3_init_L48, e1, e2, bs9, if_neg c1, e3, n1, e4, e5, nI_1]
    · by_cases hi2 : i = j
      · subst hi2
        refine ⟨?_, f2.sam (fun b b1 b2 => pu_n (by omega))⟩
        simp [va_up]
      · obtain ⟨k1, k2⟩ := r4 i (by omega)
        refine ⟨?_, k2.sam (fun b b1 b2 => (pu_n (by omega)).trans ((f3 b (by omega)).trans (pu_n (by omega))))⟩
        simp [va_up, hi2, k1]
  · rintro ⟨i, h1, zc⟩ ⟨r1, r2, ⟨rf, r3, r4⟩, r5⟩
    dsimp only at r1 r2 r3 r4 r5
    subst r1 r2
    have e0 : h1 s = some (.inr (.inr (2, [.ref (s + 1), .ref (s + 2), .int 0, .int 0, .int 0, .int 0]))) := (r5 s (by omega)).trans H1
    have e1 : rdR h1 s 2 1 = some (s + 2) := rdR_of e0 rfl
    have e2 := lnA_r r3
    have c1 : nI 4 ≤ nI 4 := Int32.le_refl _
    refine ⟨(h1, s + 3 + 3 * 4, 12 + 72 * 4), ?_, rfl, ⟨rf, r3, r4⟩, r5⟩
    simp only [f_X3_init_L48, e1, e2, bs9, if_pos c1]
theorem I_state {s : Nat} (H : h s = some (.inr (.inr (2, [.null, .null, .int 0, .int 0, .int 0, .int 0])))) : ∃ h', f_X3_init h (s + 1) (s + 1 + 14) 300 s = some (h', s + 1 + 14) ∧ repT h' s T09 ∧ onlyS s h h' := by
  have e1 := nwC_of (h := h) (z := s + 1) (c := 0) (zm := s + 1 + 14) (sm := 300) (N := 8) (e := .inl (8, fun _ => 0)) (by omega) (by omega)
  have a1 : (pu h (s + 1) (.inl (8, fun _ => 0))) s = some (.inr (.inr (2, [.null, .null, .int 0, .int 0, .int 0, .int 0]))) := (pu_n (by omega)).trans H
  have e2 := wrF_of (k := 0) (.ref (s + 1)) a1 (by simp)
  simp only [List.set_cons_zero] at e2
  obtain ⟨w, e3, q1, ⟨gf, q2, q3⟩, q4⟩ := I_gaps (s := s) (z := s + 1 + 1) (c := 8) (zm := s + 1 + 14) (sm := 300) (h := pu (pu h (s + 1) (.inl (8, fun _ => 0))) s (.inr (.inr (2, [.ref (s + 1), .null, .int 0, .int 0, .int 0, .int 0])))) (q := .null) pu_s ((pu_n (by omega)).trans pu_s)
  obtain ⟨h3, zc⟩ := w
  dsimp only at q1 q2 q4
  subst q1
  have e4 := nwC_of (h := h3) (z := s + 1 + 1) (c := 8) (zm := s + 1 + 14) (sm := 300) (N := 4) (e := .inr (.inl (0, 4, fun _ => none))) (by omega) (by omega)
  have a2 : pu h3 (s + 1 + 1) (.inr (.inl (0, 4, fun _ => none))) s = some (.inr (.inr (2, [.ref (s + 1), .null, .int 0, .int 0, .int 0, .int 0]))) := (pu_n (by omega)).trans ((q4 s (by omega)).trans pu_s)
  have e5 := wrF_of (k := 1) (.ref (s + 1 + 1)) a2 (by simp)
  simp only [List.set_cons_zero, List.set_cons_succ] at e5
  obtain ⟨w, e6, p1, ⟨rf, p2, p3⟩, p4⟩ := I_ropes (s := s) (h := pu (pu h3 (s + 1 + 1) (.inr (.inl (0, 4, fun _ => none)))) s (.inr (.inr (2, [.ref (s + 1), .ref (s + 1 + 1), .int 0, .int 0, .int 0, .int 0])))) pu_s ((pu_n (by omega)).trans pu_s)
  obtain ⟨h6, zc⟩ := w
  dsimp only at p1 p2 p3 p4
  subst p1
  have b0 : h6 s = some (.inr (.inr (2, [.ref (s + 1), .ref (s + 1 + 1), .int 0, .int 0, .int 0, .int 0]))) := (p4 s (by omega)).trans pu_s
  have w1 := wrF_of (k := 2) (.int (0 : Int32)) b0 (by simp)
  have w2 := wrF_of (k := 3) (.int (0 : Int32)) (pu_s (h := h6) (a := s) (e := .inr (.inr (2, [.ref (s + 1), .ref (s + 1 + 1), .int 0, .int 0, .int 0, .int 0])))) (by simp)
  simp only [List.set_cons_zero, List.set_cons_succ] at w1 w2
  obtain ⟨h7, d7⟩ : ∃ h7 : PH, h7 = pu h6 s (.inr (.inr (2, [.ref (s + 1), .ref (s + 1 + 1), .int 0, .int 0, .int 0, .int 0]))) := ⟨_, rfl⟩
  rw [← d7] at w1 w2
  have w3 := wrF_of (k := 4) (.int (0 : Int32)) (pu_s (h := h7) (a := s) (e := .inr (.inr (2, [.ref (s + 1), .ref (s + 1 + 1), .int 0, .int 0, .int 0, .int 0])))) (by simp)
  simp only [List.set_cons_zero, List.set_cons_succ] at w3
  obtain ⟨h8, d8⟩ : ∃ h8 : PH, h8 = pu h7 s (.inr (.inr (2, [.ref (s + 1), .ref (s + 1 + 1), .int 0, .int 0, .int 0, .int 0]))) := ⟨_, rfl⟩
  rw [← d8] at w2 w3
  have w4 := wrF_of (k := 5) (.int (0 : Int32)) (pu_s (h := h8) (a := s) (e := .inr (.inr (2, [.ref (s + 1), .ref (s + 1 + 1), .int 0, .int 0, .int 0, .int 0])))) (by simp)
  simp only [List.set_cons_zero, List.set_cons_succ] at w4
  obtain ⟨h9, d9⟩ : ∃ h9 : PH, h9 = pu h8 s (.inr (.inr (2, [.ref (s + 1), .ref (s + 1 + 1), .int 0, .int 0, .int 0, .int 0]))) := ⟨_, rfl⟩
  rw [← d9] at w3 w4
  obtain ⟨h10, d10⟩ : ∃ h10 : PH, h10 = pu h9 s (.inr (.inr (2, [.ref (s + 1), .ref (s + 1 + 1), .int 0, .int 0, .int 0, .int 0]))) := ⟨_, rfl⟩
  rw [← d10] at w4
  have fr : ∀ b, ¬ b = s → h10 b = h6 b := fun b hb => by rw [d10, pu_n hb, d9, pu_n hb, d8, pu_n hb, d7, pu_n hb]
  refine ⟨h10, ?_, ⟨gf, rf, fun i => i, ⟨by rw [d10]; exact pu_s, ?_, ?_⟩, q3, fun i hi => ⟨hi, (p3 i hi).1, (p3 i hi).2.sam (fun b b1 b2 => fr b (by omega))⟩, fun i j _ _ e => e, fun i X hX => by simp [T09] at hX⟩, fun b hb => ?_⟩
  · have c1 : s + 1 + 14 ≤ s + 1 + 14 ∧ 300 ≤ 300 := ⟨by omega, by omega⟩
    simp only [f_X3_init, f_X3_init_J38, f_X3_init_J76, Nat.zero_add, e1, bs9, e2, e3, e4, e5]
    rw [e6]
    simp only [bs9, w1, w2, w3, w4, if_pos c1]
  · rw [fr _ (by omega), p4 _ (by omega), pu_n (by omega), pu_n (by omega)]
    exact q2
  · rw [fr _ (by omega)]
    exact p2
  · rw [fr _ (by omega), p4 _ (by omega), pu_n (by omega), pu_n (by omega), q4 _ (by omega), pu_n (by omega), pu_n (by omega)]
end Begin
