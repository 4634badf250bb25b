/-! PURE READING, 43: what the reference's constructor leaves -/
section Begin3
variable {h : PH} {m : Nat}
theorem I_gapsM {zc : Nat × Nat} {I : Nat → Int32} {F : Nat → Nat → Int32} {J : Int64} (H : cM h m I (upF F 1 (fun _ => 0)) J) {zm sm : Nat} : ∃ w, lpn (f_X6_init_L55 zm sm m) LF (0, h, zc) = some w ∧ (w.2 = zc ∧ (∃ s : Nat → Int32, cM w.1 m I (upF F 1 s) J ∧ (∀ u, u < 8 → s u = nI (g09 u)) ∧ ∀ k, 8 ≤ k → s k = 0) ∧ onM m h w.1) := by
  refine lpn_inv (fun j x => x.1 = nI j ∧ x.2.2 = zc ∧ (∃ s : Nat → Int32, cM x.2.1 m I (upF F 1 s) J ∧ (∀ u, u < j → s u = nI (g09 u)) ∧ ∀ k, 8 ≤ k → s k = 0) ∧ onM m h x.2.1) _ 8 ?_ ?_ 8 0 LF (0, h, zc) rfl (by unfold LF; omega) ⟨rfl, rfl, ⟨_, H, fun u hu => by omega, fun k _ => rfl⟩, onM.rf⟩
  · rintro j ⟨i, h1, zc1⟩ hj ⟨r1, r2, ⟨s, r3, r4, r6⟩, r5⟩
    dsimp only at r1 r2 r3 r5
    subst r1 r2
    have n2 : (2 : Int32) + nI j = nI (2 + j) := nI_add 2 j
    obtain ⟨h2, e1, e2, e3⟩ := r3.s1' (i := j) (by omega) (nI (2 + j))
    have c1 : ¬ (8 : Int32) ≤ nI j := nI_ge (b := 8) hj (by omega)
    refine ⟨(nI (j + 1), h2, zc1), ?_, rfl, rfl, ⟨_, e2, fun u hu => ?_, fun k hk => (upd_n _ _ (by omega)).trans (r6 k hk)⟩, r5.tr e3⟩
    · simp only [f_X6_init_L55, r3.r1, bs9, if_neg c1, n2, z0, e1, nI_1]
    · by_cases hu2 : u = j
      · subst hu2
        rw [upd_s]
        unfold g09
        rw [if_pos hj]
      · rw [upd_n _ _ hu2]
        exact r4 u (by omega)
  · rintro ⟨i, h1, zc1⟩ ⟨r1, r2, ⟨s, r3, r4, r6⟩, r5⟩
    dsimp only at r1 r2 r3 r5
    subst r1 r2
    have c1 : (8 : Int32) ≤ nI 8 := Int32.le_refl _
    refine ⟨(h1, zc1), ?_, rfl, ⟨s, r3, r4, r6⟩, r5⟩
    simp only [f_X6_init_L55, if_pos c1]
theorem I_model (H : h m = some (.inr (.inr (5, [.int 0, .null, .null, .null, .int 0, .null, .int 0, .null, .int 0, .null, .int 0, .int 0, .int 0, .int 0, .int 0, .long 0])))) : ∃ h', f_X6_init h (m + 1) (m + 1 + 6) 834 m = some (h', m + 1 + 6) ∧ repM h' m 0 A09 ∧ onM m h h' := by
  have e1 := nwC_of (h := h) (z := m + 1) (c := 0) (zm := m + 1 + 6) (sm := 834) (N := 84) (e := .inl (84, fun _ => 0)) (by omega) (by omega)
  obtain ⟨g1, d1⟩ : ∃ g : PH, g = pu h (m + 1) (.inl (84, fun _ => 0)) := ⟨_, rfl⟩
  rw [← d1] at e1
  have a1 : g1 m = some (.inr (.inr (5, [.int 0, .null, .null, .null, .int 0, .null, .int 0, .null, .int 0, .null, .int 0, .int 0, .int 0, .int 0, .int 0, .long 0]))) := by rw [d1, pu_n (by omega)]; exact H
  have w1 := wrF_of (k := 1) (.ref (m + 1)) a1 (by simp)
  simp only [List.set_cons_zero, List.set_cons_succ] at w1
  obtain ⟨f1, q1⟩ : ∃ g : PH, g = pu g1 m (.inr (.inr (5, [.int 0, .ref (m + 1), .null, .null, .int 0, .null, .int 0, .null, .int 0, .null, .int 0, .int 0, .int 0, .int 0, .int 0, .long 0]))) := ⟨_, rfl⟩
  rw [← q1] at w1
  have e2 := nwC_of (h := f1) (z := m + 1 + 1) (c := 84) (zm := m + 1 + 6) (sm := 834) (N := 84) (e := .inl (84, fun _ => 0)) (by omega) (by omega)
  obtain ⟨g2, d2⟩ : ∃ g : PH, g = pu f1 (m + 1 + 1) (.inl (84, fun _ => 0)) := ⟨_, rfl⟩
  rw [← d2] at e2
  have a2 : g2 m = some (.inr (.inr (5, [.int 0, .ref (m + 1), .null, .null, .int 0, .null, .int 0, .null, .int 0, .null, .int 0, .int 0, .int 0, .int 0, .int 0, .long 0]))) := by rw [d2, pu_n (by omega), q1]; exact pu_s
  have w2 := wrF_of (k := 2) (.ref (m + 1 + 1)) a2 (by simp)
  simp only [List.set_cons_zero, List.set_cons_succ] at w2
  obtain ⟨f2, q2⟩ : ∃ g : PH, g = pu g2 m (.inr (.inr (5, [.int 0, .ref (m + 1), .ref (m + 1 + 1), .null, .int 0, .null, .int 0, .null, .int 0, .null, .int 0, .int 0, .int 0, .int 0, .int 0, .long 0]))) := ⟨_, rfl⟩
  rw [← q2] at w2
  have e3 := nwC_of (h := f2) (z := m + 1 + 1 + 1) (c := 168) (zm := m + 1 + 6) (sm := 834) (N := 84) (e := .inl (84, fun _ => 0)) (by omega) (by omega)
  obtain ⟨g3, d3⟩ : ∃ g : PH, g = pu f2 (m + 1 + 1 + 1) (.inl (84, fun _ => 0)) := ⟨_, rfl⟩
  rw [← d3] at e3
  have a3 : g3 m = some (.inr (.inr (5, [.int 0, .ref (m + 1), .ref (m + 1 + 1), .null, .int 0, .null, .int 0, .null, .int 0, .null, .int 0, .int 0, .int 0, .int 0, .int 0, .long 0]))) := by rw [d3, pu_n (by omega), q2]; exact pu_s
  have w3 := wrF_of (k := 3) (.ref (m + 1 + 1 + 1)) a3 (by simp)
  simp only [List.set_cons_zero, List.set_cons_succ] at w3
  obtain ⟨f3, q3⟩ : ∃ g : PH, g = pu g3 m (.inr (.inr (5, [.int 0, .ref (m + 1), .ref (m + 1 + 1), .ref (m + 1 + 1 + 1), .int 0, .null, .int 0, .null, .int 0, .null, .int 0, .int 0, .int 0, .int 0, .int 0, .long 0]))) := ⟨_, rfl⟩
  rw [← q3] at w3
  have e4 := nwC_of (h := f3) (z := m + 1 + 1 + 1 + 1) (c := 252) (zm := m + 1 + 6) (sm := 834) (N := 504) (e := .inl (504, fun _ => 0)) (by omega) (by omega)
  obtain ⟨g4, d4⟩ : ∃ g : PH, g = pu f3 (m + 1 + 1 + 1 + 1) (.inl (504, fun _ => 0)) := ⟨_, rfl⟩
  rw [← d4] at e4
  have a4 : g4 m = some (.inr (.inr (5, [.int 0, .ref (m + 1), .ref (m + 1 + 1), .ref (m + 1 + 1 + 1), .int 0, .null, .int 0, .null, .int 0, .null, .int 0, .int 0, .int 0, .int 0, .int 0, .long 0]))) := by rw [d4, pu_n (by omega), q3]; exact pu_s
  have w4 := wrF_of (k := 5) (.ref (m + 1 + 1 + 1 + 1)) a4 (by simp)
  simp only [List.set_cons_zero, List.set_cons_succ] at w4
  obtain ⟨f4, q4⟩ : ∃ g : PH, g = pu g4 m (.inr (.inr (5, [.int 0, .ref (m + 1), .ref (m + 1 + 1), .ref (m + 1 + 1 + 1), .int 0, .ref (m + 1 + 1 + 1 + 1), .int 0, .null, .int 0, .null, .int 0, .int 0, .int 0, .int 0, .int 0, .long 0]))) := ⟨_, rfl⟩
  rw [← q4] at w4
  have e5 := nwC_of (h := f4) (z := m + 1 + 1 + 1 + 1 + 1) (c := 756) (zm := m + 1 + 6) (sm := 834) (N := 60) (e := .inl (60, fun _ => 0)) (by omega) (by omega)
  obtain ⟨g5, d5⟩ : ∃ g : PH, g = pu f4 (m + 1 + 1 + 1 + 1 + 1) (.inl (60, fun _ => 0)) := ⟨_, rfl⟩
  rw [← d5] at e5
  have a5 : g5 m = some (.inr (.inr (5, [.int 0, .ref (m + 1), .ref (m + 1 + 1), .ref (m + 1 + 1 + 1), .int 0, .ref (m + 1 + 1 + 1 + 1), .int 0, .null, .int 0, .null, .int 0, .int 0, .int 0, .int 0, .int 0, .long 0]))) := by rw [d5, pu_n (by omega), q4]; exact pu_s
  have w5 := wrF_of (k := 7) (.ref (m + 1 + 1 + 1 + 1 + 1)) a5 (by simp)
  simp only [List.set_cons_zero, List.set_cons_succ] at w5
  obtain ⟨f5, q5⟩ : ∃ g : PH, g = pu g5 m (.inr (.inr (5, [.int 0, .ref (m + 1), .ref (m + 1 + 1), .ref (m + 1 + 1 + 1), .int 0, .ref (m + 1 + 1 + 1 + 1), .int 0, .ref (m + 1 + 1 + 1 + 1 + 1), .int 0, .null, .int 0, .int 0, .int 0, .int 0, .int 0, .long 0]))) := ⟨_, rfl⟩
  rw [← q5] at w5
  have e6 := nwC_of (h := f5) (z := m + 1 + 1 + 1 + 1 + 1 + 1) (c := 816) (zm := m + 1 + 6) (sm := 834) (N := 18) (e := .inl (18, fun _ => 0)) (by omega) (by omega)
  obtain ⟨g6, d6⟩ : ∃ g : PH, g = pu f5 (m + 1 + 1 + 1 + 1 + 1 + 1) (.inl (18, fun _ => 0)) := ⟨_, rfl⟩
  rw [← d6] at e6
  have a6 : g6 m = some (.inr (.inr (5, [.int 0, .ref (m + 1), .ref (m + 1 + 1), .ref (m + 1 + 1 + 1), .int 0, .ref (m + 1 + 1 + 1 + 1), .int 0, .ref (m + 1 + 1 + 1 + 1 + 1), .int 0, .null, .int 0, .int 0, .int 0, .int 0, .int 0, .long 0]))) := by rw [d6, pu_n (by omega), q5]; exact pu_s
  have w6 := wrF_of (k := 9) (.ref (m + 1 + 1 + 1 + 1 + 1 + 1)) a6 (by simp)
  simp only [List.set_cons_zero, List.set_cons_succ] at w6
  obtain ⟨f6, q6⟩ : ∃ g : PH, g = pu g6 m (.inr (.inr (5, [.int 0, .ref (m + 1), .ref (m + 1 + 1), .ref (m + 1 + 1 + 1), .int 0, .ref (m + 1 + 1 + 1 + 1), .int 0, .ref (m + 1 + 1 + 1 + 1 + 1), .int 0, .ref (m + 1 + 1 + 1 + 1 + 1 + 1), .int 0, .int 0, .int 0, .int 0, .int 0, .long 0]))) := ⟨_, rfl⟩
  rw [← q6] at w6
  have r5 : ∀ b, ¬ b = m → ¬ b = m + 1 + 1 + 1 + 1 + 1 + 1 → f6 b = f5 b := fun b b1 b2 => by rw [q6, pu_n b1, d6, pu_n b2]
  have r4 : ∀ b, ¬ b = m → ¬ b = m + 1 + 1 + 1 + 1 + 1 → f5 b = f4 b := fun b b1 b2 => by rw [q5, pu_n b1, d5, pu_n b2]
  have r3 : ∀ b, ¬ b = m → ¬ b = m + 1 + 1 + 1 + 1 → f4 b = f3 b := fun b b1 b2 => by rw [q4, pu_n b1, d4, pu_n b2]
  have r2 : ∀ b, ¬ b = m → ¬ b = m + 1 + 1 + 1 → f3 b = f2 b := fun b b1 b2 => by rw [q3, pu_n b1, d3, pu_n b2]
  have r1 : ∀ b, ¬ b = m → ¬ b = m + 1 + 1 → f2 b = f1 b := fun b b1 b2 => by rw [q2, pu_n b1, d2, pu_n b2]
  have r0 : ∀ b, ¬ b = m → ¬ b = m + 1 → f1 b = h b := fun b b1 b2 => by rw [q1, pu_n b1, d1, pu_n b2]
  have K : cM f6 m (fun _ => 0) (upF (fun _ _ => 0) 1 (fun _ => 0)) 0 := by
    refine ⟨by rw [q6]; exact pu_s, ?_, ?_, ?_, ?_, ?_, ?_⟩
    · rw [r5 _ (by omega) (by omega), r4 _ (by omega) (by omega), r3 _ (by omega) (by omega), r2 _ (by omega) (by omega), r1 _ (by omega) (by omega), q1, pu_n (by omega), d1]
      exact pu_s
    · rw [r5 _ (by omega) (by omega), r4 _ (by omega) (by omega), r3 _ (by omega) (by omega), r2 _ (by omega) (by omega), q2, pu_n (by omega), d2]
      exact pu_s
    · rw [r5 _ (by omega) (by omega), r4 _ (by omega) (by omega), r3 _ (by omega) (by omega), q3, pu_n (by omega), d3]
      exact pu_s
    · rw [r5 _ (by omega) (by omega), r4 _ (by omega) (by omega), q4, pu_n (by omega), d4]
      exact pu_s
    · rw [r5 _ (by omega) (by omega), q5, pu_n (by omega), d5]
      exact pu_s
    · rw [q6, pu_n (by omega), d6]
      exact pu_s
  obtain ⟨w, l1, l2, ⟨s, l3, l4, l5⟩, l6⟩ := I_gapsM (zc := (m + 1 + 1 + 1 + 1 + 1 + 1 + 1, 834)) K (zm := m + 1 + 6) (sm := 834)
  obtain ⟨h9, zc⟩ := w
  dsimp only at l2 l3 l6
  subst l2
  refine ⟨h9, ?_, ⟨_, _, _, l3, rfl, ⟨l4, l5 8 (by omega), ⟨l5 9 (by omega), l5 10 (by omega), l5 11 (by omega)⟩, fun i X hX => by simp [A09, T09] at hX⟩, ⟨rfl, fun T hT => (by cases hT)⟩, ⟨rfl, fun k T hT => by simp [A09] at hT⟩, rfl, fun i c hc => by simp [A09] at hc⟩, fun b hb => ?_⟩
  · have z1 : m + 1 + 1 + 1 + 1 + 1 + 1 + 1 ≤ m + 1 + 6 ∧ 834 ≤ 834 := ⟨by omega, by omega⟩
    simp only [f_X6_init, f_X6_init_J78, Nat.zero_add, e1, bs9, w1, e2, w2, e3, w3, e4, w4, e5, w5, e6, w6]
    rw [l1]
    simp only [bs9, if_pos z1]
  · rw [l6 b hb, r5 _ (by omega) (by omega), r4 _ (by omega) (by omega), r3 _ (by omega) (by omega), r2 _ (by omega) (by omega), r1 _ (by omega) (by omega), r0 _ (by omega) (by omega)]
end Begin3
