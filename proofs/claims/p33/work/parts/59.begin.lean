/-! PURE READING, 42: what the constructors leave: history, text, the class, the reference -/
section Begin2
variable {h : PH}
theorem jS.frm {h' : PH} {s s2 : Nat} (H : jS h s) (ho : onlyS s2 h h') (hd : s + 15 ≤ s2 ∨ s2 + 15 ≤ s) : jS h' s := H.same (fun b b1 b2 => ho b (by omega))
theorem I_saved {y : Nat} : ∀ {h : PH}, h y = some (.inr (.inr (0, [.ref (y + 1), .int 0]))) → h (y + 1) = some (.inr (.inl (1, 6, fun _ => none))) → ∃ w, lpn (f_X0_init_L15 (y + 1 + 91) 1842 y) LF (0, h, y + 2, 6) = some w ∧ (w.2 = (y + 1 + 91, 1842) ∧ (∃ qf : Nat → Option Nat, w.1 (y + 1) = some (.inr (.inl (1, 6, qf))) ∧ ∀ i, i < 6 → qf i = some (y + 2 + 15 * i) ∧ jS w.1 (y + 2 + 15 * i)) ∧ ∀ b, b < y + 1 ∨ y + 92 ≤ b → w.1 b = h b) := by
  intro h H1 H2
  refine lpn_inv (fun j x => x.1 = nI j ∧ x.2.2 = (y + 2 + 15 * j, 6 + 306 * j) ∧ (∃ qf : Nat → Option Nat, x.2.1 (y + 1) = some (.inr (.inl (1, 6, qf))) ∧ ∀ i, i < j → qf i = some (y + 2 + 15 * i) ∧ jS x.2.1 (y + 2 + 15 * i)) ∧ ∀ b, b < y + 1 ∨ y + 92 ≤ b → x.2.1 b = h b) _ 6 ?_ ?_ 6 0 LF (0, h, y + 2, 6) rfl (by unfold LF; omega) ⟨rfl, rfl, ⟨_, H2, fun u hu => by omega⟩, fun b _ => rfl⟩
  · rintro j ⟨i, h1, zc⟩ hj ⟨r1, r2, ⟨qf, r3, r4⟩, r5⟩
    dsimp only at r1 r2 r3 r4 r5
    subst r1 r2
    have e0 : h1 y = some (.inr (.inr (0, [.ref (y + 1), .int 0]))) := (r5 y (by omega)).trans H1
    have e1 : rdR h1 y 0 0 = some (y + 1) := rdR_of e0 rfl
    have e2 := lnA_r r3
    have c1 : ¬ nI 6 ≤ nI j := nI_ge hj (by omega)
    have e3 := nwC_of (h := h1) (z := y + 2 + 15 * j) (c := 6 + 306 * j) (zm := y + 1 + 91) (sm := 1842) (N := 6) (e := .inr (.inr (2, [.null, .null, .int 0, .int 0, .int 0, .int 0]))) (by omega) (by omega)
    obtain ⟨h2, f1, f2, f3⟩ := I_state (h := pu h1 (y + 2 + 15 * j) (.inr (.inr (2, [.null, .null, .int 0, .int 0, .int 0, .int 0])))) (s := y + 2 + 15 * j) pu_s
    have e4 := clC_of (h := pu h1 (y + 2 + 15 * j) (.inr (.inr (2, [.null, .null, .int 0, .int 0, .int 0, .int 0])))) (c := 6 + 306 * j + 6) (zm := y + 1 + 91) (sm := 1842) (cc := 14) (sc := 300) f1 (by omega) (by omega)
    have f4 : jS h2 (y + 2 + 15 * j) := repS.j f2
    have r3' : h2 (y + 1) = some (.inr (.inl (1, 6, qf))) := (f3 _ (by omega)).trans ((pu_n (by omega)).trans r3)
    have e5 := stQ_of (i := j) (v := y + 2 + 15 * j) r3' hj (by omega) (Or.inr ⟨rfl, f4.ok⟩)
    refine ⟨(nI (j + 1), pu h2 (y + 1) (.inr (.inl (1, 6, va_up qf j (some (y + 2 + 15 * j))))), y + 2 + 15 * (j + 1), 6 + 306 * (j + 1)), ?_, rfl, rfl, ⟨_, pu_s, fun i hi => ?_⟩, fun b hb => (pu_n (by omega)).trans ((f3 b (by omega)).trans ((pu_n (by omega)).trans (r5 b hb)))⟩
    · have n1 : y + 2 + 15 * j + 1 + 14 = y + 2 + 15 * (j + 1) := by omega
      have n2 : 6 + 306 * j + 6 + 300 = 6 + 306 * (j + 1) := by omega
      rw [n1, n2] at e4
      simp only [f_X0_init_L15, e1, e2, bs9, if_neg c1, e3, n1, e4, e5, nI_1]
    · by_cases hi2 : i = j
      · subst hi2
        refine ⟨?_, f4.same (fun b b1 b2 => pu_n (by omega))⟩
        simp [va_up]
      · obtain ⟨k1, k2⟩ := r4 i (by omega)
        refine ⟨?_, k2.same (fun b b1 b2 => (pu_n (by omega)).trans ((f3 b (by omega)).trans (pu_n (by omega))))⟩
        simp [va_up, hi2, k1]
  · rintro ⟨i, h1, zc⟩ ⟨r1, r2, ⟨qf, r3, r4⟩, r5⟩
    dsimp only at r1 r2 r3 r4 r5
    subst r1 r2
    have e0 : h1 y = some (.inr (.inr (0, [.ref (y + 1), .int 0]))) := (r5 y (by omega)).trans H1
    have e1 : rdR h1 y 0 0 = some (y + 1) := rdR_of e0 rfl
    have e2 := lnA_r r3
    have c1 : nI 6 ≤ nI 6 := Int32.le_refl _
    refine ⟨(h1, y + 2 + 15 * 6, 6 + 306 * 6), ?_, rfl, ⟨qf, r3, r4⟩, r5⟩
    simp only [f_X0_init_L15, e1, e2, bs9, if_pos c1]
theorem I_hist {y : Nat} (H : h y = some (.inr (.inr (0, [.null, .int 0])))) : ∃ h', f_X0_init h (y + 1) (y + 1 + 91) 1842 y = some (h', y + 1 + 91) ∧ repH h' y [] ∧ onlyH y h h' := by
  have e1 := nwC_of (h := h) (z := y + 1) (c := 0) (zm := y + 1 + 91) (sm := 1842) (N := 6) (e := .inr (.inl (1, 6, fun _ => none))) (by omega) (by omega)
  have a1 : (pu h (y + 1) (.inr (.inl (1, 6, fun _ => none)))) y = some (.inr (.inr (0, [.null, .int 0]))) := (pu_n (by omega)).trans H
  have e2 := wrF_of (k := 0) (.ref (y + 1)) a1 (by simp)
  simp only [List.set_cons_zero] at e2
  obtain ⟨w, e3, q1, ⟨qf, q2, q3⟩, q4⟩ := I_saved (y := y) (h := pu (pu h (y + 1) (.inr (.inl (1, 6, fun _ => none)))) y (.inr (.inr (0, [.ref (y + 1), .int 0])))) pu_s ((pu_n (by omega)).trans pu_s)
  obtain ⟨h3, zc⟩ := w
  dsimp only at q1 q2 q3 q4
  subst q1
  have b0 : h3 y = some (.inr (.inr (0, [.ref (y + 1), .int 0]))) := (q4 y (by omega)).trans pu_s
  have w1 := wrF_of (k := 1) (.int (0 : Int32)) b0 (by simp)
  simp only [List.set_cons_zero, List.set_cons_succ] at w1
  refine ⟨pu h3 y (.inr (.inr (0, [.ref (y + 1), .int 0]))), ?_, ⟨qf, fun i => i, ⟨pu_s, (pu_n (by omega)).trans q2⟩, fun k hk => ⟨hk, (q3 k hk).1, (q3 k hk).2.same (fun b b1 b2 => pu_n (by omega))⟩, fun i j _ _ e => e, fun k T hT => (by simp at hT)⟩, fun b hb => (pu_n (by omega)).trans ((q4 b (by omega)).trans ((pu_n (by omega)).trans (pu_n (by omega))))⟩
  have c1 : y + 1 + 91 ≤ y + 1 + 91 ∧ 1842 ≤ 1842 := ⟨by omega, by omega⟩
  simp only [f_X0_init, f_X0_init_J43, Nat.zero_add, e1, bs9, e2]
  rw [e3]
  simp only [bs9, w1, if_pos c1]
theorem I_text {t : Nat} (H : h t = some (.inr (.inr (3, [.null, .int 0])))) : ∃ h', f_X4_init h (t + 1) (t + 1 + 1) 60 t = some (h', t + 1 + 1) ∧ repX h' t [] ∧ ∀ b, b < t ∨ t + 2 ≤ b → h' b = h b := by
  have e1 := nwC_of (h := h) (z := t + 1) (c := 0) (zm := t + 1 + 1) (sm := 60) (N := 60) (e := .inl (60, fun _ => 0)) (by omega) (by omega)
  have a1 : (pu h (t + 1) (.inl (60, fun _ => 0))) t = some (.inr (.inr (3, [.null, .int 0]))) := (pu_n (by omega)).trans H
  have e2 := wrF_of (k := 0) (.ref (t + 1)) a1 (by simp)
  simp only [List.set_cons_zero] at e2
  have e3 := wrF_of (k := 1) (.int (0 : Int32)) (pu_s (h := pu h (t + 1) (.inl (60, fun _ => 0))) (a := t) (e := .inr (.inr (3, [.ref (t + 1), .int 0])))) (by simp)
  simp only [List.set_cons_zero, List.set_cons_succ] at e3
  refine ⟨pu (pu (pu h (t + 1) (.inl (60, fun _ => 0))) t (.inr (.inr (3, [.ref (t + 1), .int 0])))) t (.inr (.inr (3, [.ref (t + 1), .int 0]))), ?_, ⟨fun _ => 0, ⟨pu_s, (pu_n (by omega)).trans ((pu_n (by omega)).trans pu_s)⟩, fun i c hc => (by simp at hc)⟩, fun b hb => (pu_n (by omega)).trans ((pu_n (by omega)).trans (pu_n (by omega)))⟩
  have c1 : t + 1 + 1 ≤ t + 1 + 1 ∧ 60 ≤ 60 := ⟨by omega, by omega⟩
  simp only [f_X4_init, Nat.zero_add, e1, bs9, e2, e3, if_pos c1]
theorem I_class {x : Nat} (H : h x = some (.inr (.inr (4, [.null, .null, .null, .null, .null, .int 0])))) : ∃ h', f_X5_init h (x + 1) (x + 1 + 127) 2590 x = some (h', x + 1 + 127) ∧ repC h' x A09 ∧ onX x h h' := by
  have e1 := nwC_of (h := h) (z := x + 1) (c := 0) (zm := x + 1 + 127) (sm := 2590) (N := 6) (e := .inr (.inr (2, [.null, .null, .int 0, .int 0, .int 0, .int 0]))) (by omega) (by omega)
  obtain ⟨h1, f1, f2, f3⟩ := I_state (h := pu h (x + 1) (.inr (.inr (2, [.null, .null, .int 0, .int 0, .int 0, .int 0])))) (s := x + 1) pu_s
  have e2 := clC_of (h := pu h (x + 1) (.inr (.inr (2, [.null, .null, .int 0, .int 0, .int 0, .int 0])))) (c := 6) (zm := x + 1 + 127) (sm := 2590) (cc := 14) (sc := 300) f1 (by omega) (by omega)
  have a1 : h1 x = some (.inr (.inr (4, [.null, .null, .null, .null, .null, .int 0]))) := (f3 x (by omega)).trans ((pu_n (by omega)).trans H)
  have e3 := wrF_of (k := 0) (.ref (x + 1)) a1 (by simp)
  simp only [List.set_cons_zero, List.set_cons_succ] at e3
  have fr3 : ∀ b, ¬ b = x → pu h1 x (.inr (.inr (4, [.ref (x + 1), .null, .null, .null, .null, .int 0]))) b = h1 b := fun b hb => pu_n hb
  have a3 := pu_s (h := h1) (a := x) (e := .inr (.inr (4, [.ref (x + 1), .null, .null, .null, .null, .int 0])))
  obtain ⟨g3, d3⟩ : ∃ g : PH, g = pu h1 x (.inr (.inr (4, [.ref (x + 1), .null, .null, .null, .null, .int 0]))) := ⟨_, rfl⟩
  rw [← d3] at e3 fr3 a3
  -- the state that is kept
  have e4 := nwC_of (h := g3) (z := x + 1 + 1 + 14) (c := 306) (zm := x + 1 + 127) (sm := 2590) (N := 6) (e := .inr (.inr (2, [.null, .null, .int 0, .int 0, .int 0, .int 0]))) (by omega) (by omega)
  obtain ⟨h4, k1, k2, k3⟩ := I_state (h := pu g3 (x + 1 + 1 + 14) (.inr (.inr (2, [.null, .null, .int 0, .int 0, .int 0, .int 0])))) (s := x + 1 + 1 + 14) pu_s
  have e5 := clC_of (h := pu g3 (x + 1 + 1 + 14) (.inr (.inr (2, [.null, .null, .int 0, .int 0, .int 0, .int 0])))) (c := 312) (zm := x + 1 + 127) (sm := 2590) (cc := 14) (sc := 300) k1 (by omega) (by omega)
  have a4 : h4 x = some (.inr (.inr (4, [.ref (x + 1), .null, .null, .null, .null, .int 0]))) := (k3 x (by omega)).trans ((pu_n (by omega)).trans a3)
  have e6 := wrF_of (k := 1) (.ref (x + 1 + 1 + 14)) a4 (by simp)
  simp only [List.set_cons_zero, List.set_cons_succ] at e6
  have fr6 : ∀ b, ¬ b = x → pu h4 x (.inr (.inr (4, [.ref (x + 1), .ref (x + 1 + 1 + 14), .null, .null, .null, .int 0]))) b = h4 b := fun b hb => pu_n hb
  have a6 := pu_s (h := h4) (a := x) (e := .inr (.inr (4, [.ref (x + 1), .ref (x + 1 + 1 + 14), .null, .null, .null, .int 0])))
  obtain ⟨g6, d6⟩ : ∃ g : PH, g = pu h4 x (.inr (.inr (4, [.ref (x + 1), .ref (x + 1 + 1 + 14), .null, .null, .null, .int 0]))) := ⟨_, rfl⟩
  rw [← d6] at e6 fr6 a6
  -- the history
  have e7 := nwC_of (h := g6) (z := x + 1 + 1 + 14 + 1 + 14) (c := 612) (zm := x + 1 + 127) (sm := 2590) (N := 2) (e := .inr (.inr (0, [.null, .int 0]))) (by omega) (by omega)
  obtain ⟨h7, l1, l2, l3⟩ := I_hist (h := pu g6 (x + 1 + 1 + 14 + 1 + 14) (.inr (.inr (0, [.null, .int 0])))) (y := x + 1 + 1 + 14 + 1 + 14) pu_s
  have e8 := clC_of (h := pu g6 (x + 1 + 1 + 14 + 1 + 14) (.inr (.inr (0, [.null, .int 0])))) (c := 614) (zm := x + 1 + 127) (sm := 2590) (cc := 91) (sc := 1842) l1 (by omega) (by omega)
  have a7 : h7 x = some (.inr (.inr (4, [.ref (x + 1), .ref (x + 1 + 1 + 14), .null, .null, .null, .int 0]))) := (l3 x (by omega)).trans ((pu_n (by omega)).trans a6)
  have e9 := wrF_of (k := 2) (.ref (x + 1 + 1 + 14 + 1 + 14)) a7 (by simp)
  simp only [List.set_cons_zero, List.set_cons_succ] at e9
  have fr9 : ∀ b, ¬ b = x → pu h7 x (.inr (.inr (4, [.ref (x + 1), .ref (x + 1 + 1 + 14), .ref (x + 1 + 1 + 14 + 1 + 14), .null, .null, .int 0]))) b = h7 b := fun b hb => pu_n hb
  have a9 := pu_s (h := h7) (a := x) (e := .inr (.inr (4, [.ref (x + 1), .ref (x + 1 + 1 + 14), .ref (x + 1 + 1 + 14 + 1 + 14), .null, .null, .int 0])))
  obtain ⟨g9, d9⟩ : ∃ g : PH, g = pu h7 x (.inr (.inr (4, [.ref (x + 1), .ref (x + 1 + 1 + 14), .ref (x + 1 + 1 + 14 + 1 + 14), .null, .null, .int 0]))) := ⟨_, rfl⟩
  rw [← d9] at e9 fr9 a9
  -- the text
  have e10 := nwC_of (h := g9) (z := x + 1 + 1 + 14 + 1 + 14 + 1 + 91) (c := 2456) (zm := x + 1 + 127) (sm := 2590) (N := 2) (e := .inr (.inr (3, [.null, .int 0]))) (by omega) (by omega)
  obtain ⟨h10, m1, m2, m3⟩ := I_text (h := pu g9 (x + 1 + 1 + 14 + 1 + 14 + 1 + 91) (.inr (.inr (3, [.null, .int 0])))) (t := x + 1 + 1 + 14 + 1 + 14 + 1 + 91) pu_s
  have e11 := clC_of (h := pu g9 (x + 1 + 1 + 14 + 1 + 14 + 1 + 91) (.inr (.inr (3, [.null, .int 0])))) (c := 2458) (zm := x + 1 + 127) (sm := 2590) (cc := 1) (sc := 60) m1 (by omega) (by omega)
  have a10 : h10 x = some (.inr (.inr (4, [.ref (x + 1), .ref (x + 1 + 1 + 14), .ref (x + 1 + 1 + 14 + 1 + 14), .null, .null, .int 0]))) := (m3 x (by omega)).trans ((pu_n (by omega)).trans a9)
  have e12 := wrF_of (k := 3) (.ref (x + 1 + 1 + 14 + 1 + 14 + 1 + 91)) a10 (by simp)
  simp only [List.set_cons_zero, List.set_cons_succ] at e12
  have fr12 : ∀ b, ¬ b = x → pu h10 x (.inr (.inr (4, [.ref (x + 1), .ref (x + 1 + 1 + 14), .ref (x + 1 + 1 + 14 + 1 + 14), .ref (x + 1 + 1 + 14 + 1 + 14 + 1 + 91), .null, .int 0]))) b = h10 b := fun b hb => pu_n hb
  have a12 := pu_s (h := h10) (a := x) (e := .inr (.inr (4, [.ref (x + 1), .ref (x + 1 + 1 + 14), .ref (x + 1 + 1 + 14 + 1 + 14), .ref (x + 1 + 1 + 14 + 1 + 14 + 1 + 91), .null, .int 0])))
  obtain ⟨g12, d12⟩ : ∃ g : PH, g = pu h10 x (.inr (.inr (4, [.ref (x + 1), .ref (x + 1 + 1 + 14), .ref (x + 1 + 1 + 14 + 1 + 14), .ref (x + 1 + 1 + 14 + 1 + 14 + 1 + 91), .null, .int 0]))) := ⟨_, rfl⟩
  rw [← d12] at e12 fr12 a12
  -- the draft
  have e13 := nwC_of (h := g12) (z := x + 1 + 1 + 14 + 1 + 14 + 1 + 91 + 1 + 1) (c := 2518) (zm := x + 1 + 127) (sm := 2590) (N := 4) (e := .inr (.inr (1, [.null, .null, .int 0, .int 0]))) (by omega) (by omega)
  obtain ⟨h13, n1, n2, n3⟩ := I_rope (h := pu g12 (x + 1 + 1 + 14 + 1 + 14 + 1 + 91 + 1 + 1) (.inr (.inr (1, [.null, .null, .int 0, .int 0])))) (r := x + 1 + 1 + 14 + 1 + 14 + 1 + 91 + 1 + 1) pu_s
  have e14 := clC_of (h := pu g12 (x + 1 + 1 + 14 + 1 + 14 + 1 + 91 + 1 + 1) (.inr (.inr (1, [.null, .null, .int 0, .int 0])))) (c := 2522) (zm := x + 1 + 127) (sm := 2590) (cc := 2) (sc := 68) n1 (by omega) (by omega)
  have a13 : h13 x = some (.inr (.inr (4, [.ref (x + 1), .ref (x + 1 + 1 + 14), .ref (x + 1 + 1 + 14 + 1 + 14), .ref (x + 1 + 1 + 14 + 1 + 14 + 1 + 91), .null, .int 0]))) := (n3 x (by omega)).trans ((pu_n (by omega)).trans a12)
  have e15 := wrF_of (k := 4) (.ref (x + 1 + 1 + 14 + 1 + 14 + 1 + 91 + 1 + 1)) a13 (by simp)
  simp only [List.set_cons_zero, List.set_cons_succ] at e15
  have fr15 : ∀ b, ¬ b = x → pu h13 x (.inr (.inr (4, [.ref (x + 1), .ref (x + 1 + 1 + 14), .ref (x + 1 + 1 + 14 + 1 + 14), .ref (x + 1 + 1 + 14 + 1 + 14 + 1 + 91), .ref (x + 1 + 1 + 14 + 1 + 14 + 1 + 91 + 1 + 1), .int 0]))) b = h13 b := fun b hb => pu_n hb
  have a15 := pu_s (h := h13) (a := x) (e := .inr (.inr (4, [.ref (x + 1), .ref (x + 1 + 1 + 14), .ref (x + 1 + 1 + 14 + 1 + 14), .ref (x + 1 + 1 + 14 + 1 + 14 + 1 + 91), .ref (x + 1 + 1 + 14 + 1 + 14 + 1 + 91 + 1 + 1), .int 0])))
  obtain ⟨g15, d15⟩ : ∃ g : PH, g = pu h13 x (.inr (.inr (4, [.ref (x + 1), .ref (x + 1 + 1 + 14), .ref (x + 1 + 1 + 14 + 1 + 14), .ref (x + 1 + 1 + 14 + 1 + 14 + 1 + 91), .ref (x + 1 + 1 + 14 + 1 + 14 + 1 + 91 + 1 + 1), .int 0]))) := ⟨_, rfl⟩
  rw [← d15] at e15 fr15 a15
  have e16 := wrF_of (k := 5) (.int (0 : Int32)) a15 (by simp)
  simp only [List.set_cons_zero, List.set_cons_succ] at e16
  have fr16 : ∀ b, ¬ b = x → pu g15 x (.inr (.inr (4, [.ref (x + 1), .ref (x + 1 + 1 + 14), .ref (x + 1 + 1 + 14 + 1 + 14), .ref (x + 1 + 1 + 14 + 1 + 14 + 1 + 91), .ref (x + 1 + 1 + 14 + 1 + 14 + 1 + 91 + 1 + 1), .int 0]))) b = g15 b := fun b hb => pu_n hb
  have a16 := pu_s (h := g15) (a := x) (e := .inr (.inr (4, [.ref (x + 1), .ref (x + 1 + 1 + 14), .ref (x + 1 + 1 + 14 + 1 + 14), .ref (x + 1 + 1 + 14 + 1 + 14 + 1 + 91), .ref (x + 1 + 1 + 14 + 1 + 14 + 1 + 91 + 1 + 1), .int 0])))
  obtain ⟨g16, d16⟩ : ∃ g : PH, g = pu g15 x (.inr (.inr (4, [.ref (x + 1), .ref (x + 1 + 1 + 14), .ref (x + 1 + 1 + 14 + 1 + 14), .ref (x + 1 + 1 + 14 + 1 + 14 + 1 + 91), .ref (x + 1 + 1 + 14 + 1 + 14 + 1 + 91 + 1 + 1), .int 0]))) := ⟨_, rfl⟩
  rw [← d16] at e16 fr16 a16
  -- what stays where
  have K13 : ∀ b, ¬ b = x → (b < x + 125 ∨ x + 128 ≤ b) → g16 b = g12 b := fun b b1 b2 => by rw [fr16 b b1, fr15 b b1, n3 b (by omega), pu_n (by omega)]
  have K10 : ∀ b, ¬ b = x → (b < x + 123 ∨ x + 128 ≤ b) → g16 b = g9 b := fun b b1 b2 => by rw [K13 b b1 (by omega), fr12 b b1, m3 b (by omega), pu_n (by omega)]
  have K7 : ∀ b, ¬ b = x → (b < x + 31 ∨ x + 128 ≤ b) → g16 b = g6 b := fun b b1 b2 => by rw [K10 b b1 (by omega), fr9 b b1, l3 b (by omega), pu_n (by omega)]
  have K4 : ∀ b, ¬ b = x → (b < x + 16 ∨ x + 128 ≤ b) → g16 b = g3 b := fun b b1 b2 => by rw [K7 b b1 (by omega), fr6 b b1, k3 b (by omega), pu_n (by omega)]
  have q2 : x + 1 + 1 + 14 = x + 16 := by omega
  have q3 : x + 1 + 1 + 14 + 1 + 14 = x + 31 := by omega
  have q4 : x + 1 + 1 + 14 + 1 + 14 + 1 + 91 = x + 123 := by omega
  have q5 : x + 1 + 1 + 14 + 1 + 14 + 1 + 91 + 1 + 1 = x + 125 := by omega
  refine ⟨g16, ?_, ⟨?_, ?_, ?_, fun T hT => (by cases hT), ?_, ?_, ?_⟩, fun b hb => ?_⟩
  · have z1 : x + 1 + 1 + 14 + 1 + 14 + 1 + 91 + 1 + 1 + 1 + 2 ≤ x + 1 + 127 ∧ 2590 ≤ 2590 := ⟨by omega, by omega⟩
    simp only [f_X5_init, Nat.zero_add, e1, bs9]
    rw [e2]
    simp only [bs9, e3, e4]
    rw [e5]
    simp only [bs9, e6, e7]
    rw [e8]
    simp only [bs9, e9, e10]
    rw [e11]
    simp only [bs9, e12, e13]
    rw [e14]
    simp only [bs9, e15, e16, if_pos z1]
  · rw [q5, q4, q3, q2] at a16
    exact a16
  · exact repS.same (R := []) (by show (0 : Nat) ≤ 4; omega) f2 (fun b b1 b2 => (K4 b (by omega) (by omega)).trans (fr3 b (by omega)))
  · rw [q2] at k2
    exact (repS.j k2).same (fun b b1 b2 => (K7 b (by omega) (by omega)).trans (fr6 b (by omega)))
  · rw [q3] at l2
    exact repH.same (S := []) (fun T hT => by cases hT) (by show (0 : Nat) ≤ 6; omega) l2 (fun b b1 b2 => (K10 b (by omega) (by omega)).trans (fr9 b (by omega)))
  · rw [q4] at m2
    exact m2.same (fun b b1 b2 => (K13 b (by omega) (by omega)).trans (fr12 b (by omega)))
  · rw [q5] at n2
    exact n2.sam (fun b b1 b2 => (fr16 b (by omega)).trans (fr15 b (by omega)))
  · rw [K4 b (by omega) (by omega), fr3 b (by omega), f3 b (by omega), pu_n (by omega)]
end Begin2
