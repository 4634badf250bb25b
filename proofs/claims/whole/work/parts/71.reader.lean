/-! PURE READING, 40: the reference: what a part does, firstError, play -/
section Reader2
variable {h : PH} {m : Nat} {t : Int32} {A : AAt} {a : Nat} {wr : Bool} {sg f s : Int32}
theorem repR9.opn (H : repR9 h m t A a wr sg f s) : ∃ I F J s1, cM h m I (upF F 1 s1) J ∧ repA s1 A.1 ∧ ∀ {h' : PH} {F' : Nat → Nat → Int32} {J' : Int64} {s' : Nat → Int32} {T' : TTt}, cM h' m I (upF F' 1 s') J' → F' 3 = F 3 → F' 5 = F 5 → F' 7 = F 7 → repA s' T' → repR9 h' m t (T', A.2) a wr sg f s := by
  obtain ⟨I, F, J, H1, H2, ⟨H3, H4, H5, H6, H7⟩, H8⟩ := H
  refine ⟨I, F, J, F 1, by rw [upF_self]; exact H1, H3, fun {h' F' J' s' T'} K k3 k5 k7 HA => ⟨I, upF F' 1 s', J', K, H2, ⟨HA, ⟨H4.1, fun T hT => ?_⟩, ⟨H5.1, fun k T hT => ?_⟩, H6, fun i c hc => ?_⟩, H8⟩⟩
  · show repA (F' 3) T
    rw [k3]
    exact H4.2 T hT
  · show repA (fun j => F' 5 (84 * k + j)) T
    rw [k5]
    exact H5.2 k T hT
  · show F' 7 i = _
    rw [k7]
    exact H7 i c hc
/-- what a part does -/
theorem M_does (W : wfA A) {kd f9 s9 : Nat} (H : repR9 h m t A a wr (nI kd) f (nI s9)) (hr : (kd = 114 ∧ 1 ≤ f9 ∧ f9 ≤ 60 ∧ s9 = 0) ∨ (kd = 97 ∧ f9 < 8 ∧ s9 < 20) ∨ (kd = 45 ∧ f9 < 8 ∧ s9 = 0) ∨ (kd = 60 ∧ s9 = 0)) (hf : ¬ kd = 60 → f = nI f9) : ∃ h', f_X6_does h m = some (bI (doA A.1 kd f9 s9).isSome, h') ∧ repR9 h' m t ((doA A.1 kd f9 s9).getD A.1, A.2) a wr (nI kd) f (nI s9) ∧ onM m h h' := by
  have hR := W.1.2.1
  obtain ⟨I, F, J, s1, K, KA, close⟩ := H.opn
  have e8 : ldI h (m + 1) (8 : Int32) = some (nI A.1.2.1.length) := (K.l1' (i := 8) (by omega)).trans (congrArg some KA.2.1)
  have ne : ∀ k : Nat, k < 200 → (nI kd = nI k ↔ kd = k) := fun k hk => nI_eq (by omega) (by omega)
  unfold doA
  by_cases k114 : kd = 114
  · subst k114
    rw [if_pos rfl]
    have c1 : ¬ ¬ nI 114 = (114 : Int32) := fun q => q rfl
    by_cases hl : A.1.2.1.length = 4
    · rw [if_pos hl]
      have c3 : ¬ ¬ nI A.1.2.1.length = (4 : Int32) := fun q => q (by rw [hl]; rfl)
      refine ⟨h, ?_, H, onM.rf⟩
      simp only [f_X6_does, f_X6_does_J37, K.ok, if_true, K.r1, e8, H.i12, bs9, if_neg c1, if_neg c3]
      rfl
    · rw [if_neg hl]
      have c3 : ¬ nI A.1.2.1.length = (4 : Int32) := fun q => hl ((nI_eq (b := 4) (by omega) (by omega)).mp q)
      obtain ⟨h3, s3, d1, d2, d3, d4⟩ := M_adds K KA W.1 (by omega) f9
      have c45 : ¬ nI 114 = (45 : Int32) := by decide
      have c97 : ¬ nI 114 = (97 : Int32) := by decide
      have c2 : nI 114 = (114 : Int32) := rfl
      have hf := hf (by omega)
      subst hf
      refine ⟨h3, ?_, close d2 rfl rfl rfl d4, d3⟩
      simp only [f_X6_does, f_X6_does_J39, K.ok, if_true, K.r1, e8, H.i12, H.i13, bs9, if_neg c1, if_pos c3, if_neg c45, if_neg c97, if_pos c2, d1]
      rfl
  · rw [if_neg k114]
    have c1 : ¬ nI kd = (114 : Int32) := fun q => k114 ((ne 114 (by omega)).mp q)
    by_cases hl : A.1.2.1.length = 0
    · rw [if_pos hl]
      have c2 : ¬ (0 : Int32) ≤ nI A.1.2.1.length - 1 := by rw [hl]; decide
      refine ⟨h, ?_, H, onM.rf⟩
      simp only [f_X6_does, f_X6_does_J37, K.ok, if_true, K.r1, e8, H.i12, bs9, if_pos c1, if_neg c2]
      rfl
    · rw [if_neg hl]
      have hi : A.1.2.1.length - 1 < A.1.2.1.length := by omega
      have el : nI A.1.2.1.length - 1 = nI (A.1.2.1.length - 1) := nI_sub (b := 1) (by omega)
      have c2 : (0 : Int32) ≤ nI (A.1.2.1.length - 1) := nI_le (a := 0) (by omega) (by omega)
      have WR := W.1.2.2 _ (atR_mem hi)
      have hi4 : A.1.2.1.length - 1 < 4 := by omega
      by_cases k97 : kd = 97
      · subst k97
        rw [if_pos rfl]
        have c45 : ¬ nI 97 = (45 : Int32) := by decide
        have c97 : nI 97 = (97 : Int32) := rfl
        have hf := hf (by omega)
        subst hf
        have hu : f9 < 8 := by omega
        have e5 := M_isPhase' W H.toM hu (nI s9)
        by_cases hs : s9 < A.1.1 f9
        · have e6 : (rng (A.1.1 f9) (nI s9)).isSome = true := by rw [rng_of hs (by have := (W.1.1 f9).2; omega)]; rfl
          rw [e6] at e5
          have c5 : ¬ bI true = 0 := by decide
          have ew := M_why K hi4 (KA.q hi) KA.1 W.1.1 WR hu (show s9 ≤ 100 by omega)
          have hw3 := whyA_le A.1.1 (atR A.1.2.1 (A.1.2.1.length - 1)).1 (atR A.1.2.1 (A.1.2.1.length - 1)).2 f9 s9
          by_cases hw : whyA A.1.1 (atR A.1.2.1 (A.1.2.1.length - 1)).1 (atR A.1.2.1 (A.1.2.1.length - 1)).2 f9 s9 = 0
          · rw [if_pos ⟨hs, hw⟩]
            rw [hw] at ew
            have WL := wf_lay W.1.1 WR hu hs hw
            have hno : phs (atR A.1.2.1 (A.1.2.1.length - 1)).2 f9 = none := by
              rw [phs_none]
              intro q hq he
              have h4 := WL.2.1
              rw [List.map_append, List.nodup_append] at h4
              exact h4.2.2 q.1 (List.mem_map_of_mem hq) f9 (by simp) he
            have hlen : (atR A.1.2.1 (A.1.2.1.length - 1)).2.length < 8 := by
              have := WL.le8
              rw [List.length_append] at this
              have : (atR A.1.2.1 (A.1.2.1.length - 1)).2.length + 1 ≤ 8 := this
              omega
            obtain ⟨h3, s3, d1, d2, d3, d4, d5⟩ := M_lays K hi4 (KA.q hi) hlen hu hno s9
            have KA3 := KA.set W.1 d5 d4
            have l9 : ldI h3 (m + 1) (9 : Int32) = some A.1.2.2.1 := (d2.l1' (i := 9) (by omega)).trans (congrArg some KA3.2.2.1.1)
            obtain ⟨h4, f1, f2, f3⟩ := d2.s1' (i := 9) (by omega) (A.1.2.2.1 + 1)
            have f1 : stI h3 (m + 1) (9 : Int32) (A.1.2.2.1 + 1) = some h4 := f1
            have KA4 := KA3.cnt (wf_set W.1 (A.1.2.1.length - 1) WL) (k := 9) (Or.inl rfl) (A.1.2.2.1 + 1)
            have c6 : nI 0 ≤ 0 := by decide
            refine ⟨h4, ?_, close f2 rfl rfl rfl KA4, d3.tr f3⟩
            simp only [f_X6_does, f_X6_does_J39, K.ok, if_true, K.r1, e8, H.i12, H.i13, H.i14, bs9, if_pos c1, el, if_pos c2, if_neg c45, if_pos c97, e5, if_neg c5, ew, if_pos c6, d1, d2.r1, l9, f1]
            rfl
          · rw [if_neg (fun q => hw q.2)]
            have c6 : ¬ nI (whyA A.1.1 (atR A.1.2.1 (A.1.2.1.length - 1)).1 (atR A.1.2.1 (A.1.2.1.length - 1)).2 f9 s9) ≤ 0 := nI_nle (by omega) (by omega)
            refine ⟨h, ?_, H, onM.rf⟩
            simp only [f_X6_does, f_X6_does_J39, f_X6_does_J117, K.ok, if_true, K.r1, e8, H.i12, H.i13, H.i14, bs9, if_pos c1, el, if_pos c2, if_neg c45, if_pos c97, e5, if_neg c5, ew, if_neg c6]
            rfl
        · rw [if_neg (fun q => hs q.1)]
          have e6 : (rng (A.1.1 f9) (nI s9)).isSome = false := by
            cases hv : rng (A.1.1 f9) (nI s9) with
            | none => rfl
            | some p =>
              have hg := (W.1.1 f9).2
              obtain ⟨p1, p2⟩ := rng_some (by omega) hv
              have := (nI_eq (a := s9) (b := p) (by omega) (by omega)).mp p2
              omega
          rw [e6] at e5
          have c5 : bI false = 0 := rfl
          refine ⟨h, ?_, H, onM.rf⟩
          simp only [f_X6_does, f_X6_does_J39, f_X6_does_J117, K.ok, if_true, K.r1, e8, H.i12, H.i13, H.i14, bs9, if_pos c1, el, if_pos c2, if_neg c45, if_pos c97, e5, if_pos c5]
          rfl
      · rw [if_neg k97]
        have c97 : ¬ nI kd = (97 : Int32) := fun q => k97 ((ne 97 (by omega)).mp q)
        by_cases k45 : kd = 45
        · rw [if_pos k45]
          have c45 : nI kd = (45 : Int32) := (ne 45 (by omega)).mpr k45
          have hf := hf (by omega)
          subst hf
          have hu : f9 < 8 := by omega
          have e3 := M_isLaid K hi4 (KA.q hi) W.1.1 WR.q hu
          cases hp : phs (atR A.1.2.1 (A.1.2.1.length - 1)).2 f9 with
          | none =>
            rw [hp] at e3
            have c5 : ¬ ¬ bI (none : Option Nat).isSome = 0 := fun q => q rfl
            refine ⟨h, ?_, H, onM.rf⟩
            simp only [f_X6_does, f_X6_does_J39, K.ok, if_true, K.r1, e8, H.i12, H.i13, bs9, if_pos c1, el, if_pos c2, if_pos c45, e3, if_neg c5]
            rfl
          | some p =>
            rw [hp] at e3
            have c5 : ¬ bI (some p).isSome = 0 := by simp [bI]
            obtain ⟨h3, s3, o, d1, d2, d3, d4, d5⟩ := M_takesOff K hi4 WR (KA.q hi) hu
            refine ⟨h3, ?_, close d2 rfl rfl rfl (KA.set W.1 d5 d4), d3⟩
            simp only [f_X6_does, f_X6_does_J39, K.ok, if_true, K.r1, e8, H.i12, H.i13, bs9, if_pos c1, el, if_pos c2, if_pos c45, e3, if_pos c5, d1]
            rfl
        · rw [if_neg k45]
          have c45 : ¬ nI kd = (45 : Int32) := fun q => k45 ((ne 45 (by omega)).mp q)
          obtain ⟨h3, s3, o, d1, d2, d3, d4, d5⟩ := M_turns K hi4 W.1.1 KA.1 WR (KA.q hi)
          refine ⟨h3, ?_, close d2 rfl rfl rfl (KA.set W.1 d5 d4), d3⟩
          simp only [f_X6_does, f_X6_does_J39, K.ok, if_true, K.r1, e8, H.i12, bs9, if_pos c1, el, if_pos c2, if_neg c45, if_neg c97, if_neg c1, d1]
          rfl
-- after a part: its end, a comma, or neither
theorem G_end (x1 c : Int32) (H : repR9 h m t A A.2.2.2.length false sg f s) : f_X6_goes_J33 h m x1 c = some (.inl (c + 1, 0, h)) := by
  have c1 : ¬ (1 : Int32) = 0 := by decide
  have c2 : ¬ ¬ bI false = 0 := fun q => q rfl
  have c3 : nI A.2.2.2.length ≤ nI A.2.2.2.length := Int32.le_refl _
  simp only [f_X6_goes_J33, f_X6_goes_J38, f_X6_goes_J51, f_X6_goes_J80, f_X6_goes_J81, f_X6_goes_J109, if_neg c1, H.i11, bs9, if_neg c2, H.i10, H.i8, if_pos c3, if_true]
theorem G_wrong (x1 c : Int32) (H : repR9 h m t A a true sg f s) : f_X6_goes_J33 h m x1 c = some (.inl (c + 1, 0, h)) := by
  have c1 : ¬ (1 : Int32) = 0 := by decide
  have c2 : ¬ bI true = 0 := by decide
  simp only [f_X6_goes_J33, f_X6_goes_J38, f_X6_goes_J51, f_X6_goes_J80, f_X6_goes_J81, f_X6_goes_J109, if_neg c1, H.i11, bs9, if_pos c2, if_true]
theorem G_comma (W : wfX A.2.2.2) (x1 c : Int32) (H : repR9 h m t A a false sg f s) (ha : a < A.2.2.2.length) (hc : A.2.2.2.getD a 0 = 44) : ∃ h', f_X6_goes_J33 h m x1 c = some (.inl (c + 1, 1, h')) ∧ repR9 h' m t A (a + 1) false sg f s ∧ onM m h h' := by
  have hX := W.1
  have c1 : ¬ (1 : Int32) = 0 := by decide
  have c2 : ¬ ¬ bI false = 0 := fun q => q rfl
  have c3 : ¬ nI A.2.2.2.length ≤ nI a := nI_ge ha (by omega)
  obtain ⟨h1, a1, a2, a3⟩ := M_readsY W H (by omega) (lo := 44) (hi := 44) (by omega) (by omega) (by omega)
  have a1 : f_X6_reads h m (44 : Int32) (44 : Int32) = _ := a1
  refine ⟨h1, ?_, a2, a3⟩
  simp only [f_X6_goes_J33, f_X6_goes_J38, f_X6_goes_J51, f_X6_goes_J80, f_X6_goes_J81, f_X6_goes_J108, f_X6_goes_J109, if_neg c1, H.i11, bs9, if_neg c2, H.i10, H.i8, if_neg c3, a1, a2.i11]
theorem G_else (W : wfX A.2.2.2) (x1 c : Int32) (H : repR9 h m t A a false sg f s) (ha : a < A.2.2.2.length) (hc : ¬ A.2.2.2.getD a 0 = 44) : ∃ h', f_X6_goes_J33 h m x1 c = some (.inl (c + 1, 0, h')) ∧ repR9 h' m t A a true sg f s ∧ onM m h h' := by
  have hX := W.1
  have c1 : ¬ (1 : Int32) = 0 := by decide
  have c2 : ¬ ¬ bI false = 0 := fun q => q rfl
  have c4 : ¬ bI true = 0 := by decide
  have c3 : ¬ nI A.2.2.2.length ≤ nI a := nI_ge ha (by omega)
  obtain ⟨v, h1, a1, a2, a3⟩ := M_readsN W H (by omega) (lo := 44) (hi := 44) (by omega) (by omega) (Or.inr (by omega))
  have a1 : f_X6_reads h m (44 : Int32) (44 : Int32) = _ := a1
  refine ⟨h1, ?_, a2, a3⟩
  simp only [f_X6_goes_J33, f_X6_goes_J38, f_X6_goes_J51, f_X6_goes_J80, f_X6_goes_J81, f_X6_goes_J108, f_X6_goes_J109, if_neg c1, H.i11, bs9, if_neg c2, H.i10, H.i8, if_neg c3, a1, a2.i11, if_pos c4]
theorem L14_0 (x1 c : Int32) : f_X6_goes_L14 m x1 (c, 0, h) = some (.inr (c, h)) := by
  simp only [f_X6_goes_L14, if_true]
theorem L14_r {h1 : PH} (c : Int32) (e : f_X6_readsPart h m = some h1) : f_X6_goes_L14 m 0 (c, 1, h) = f_X6_goes_J33 h1 m 0 c := by
  have c1 : ¬ (1 : Int32) = 0 := by decide
  simp only [f_X6_goes_L14, if_neg c1, e, bs9, if_true]
/-- the whole text is read through, or up to where it is wrong -/
theorem G_loop0 (W : wfX A.2.2.2) : ∀ (k a fuel : Nat) (c : Int32) (h : PH) (sg f s : Int32), beg A.2.2.2 a → A.2.2.2.length - a < k → k < fuel → repR9 h m t A a false sg f s → ∃ c' h' b w sg' f' s', lpn (f_X6_goes_L14 m 0) fuel (c, 1, h) = some (c', h') ∧ repR9 h' m t A b w sg' f' s' ∧ onM m h h' ∧ ((w = true ∧ errA A.2.2.2 = b ∧ endS (dueS A.2.2.2 A.2.2.2.length) = false) ∨ (w = false ∧ errA A.2.2.2 = A.2.2.2.length ∧ endS (dueS A.2.2.2 A.2.2.2.length) = true)) := by
  intro k
  induction k with
  | zero => intro a fuel c h sg f s hb h1; omega
  | succ k ih =>
    intro a fuel c h sg f s hb hk hfu H
    obtain ⟨fuel, rfl⟩ : ∃ q, fuel = q + 1 + 1 := ⟨fuel - 2, by omega⟩
    obtain ⟨b1, b2, b3⟩ := hb
    have G := prt_grm W b1 b2
    obtain ⟨h1, q1, q2, q3⟩ := M_readsPart W H b1
    cases hp : prt A.2.2.2 a with
    | error w =>
      rw [hp] at G q3
      obtain ⟨g1, g2, g3, g4, g5⟩ := G
      obtain ⟨sg', f', s', q3⟩ := q3
      have st := (L14_r c q1).trans (G_wrong 0 c q3)
      refine ⟨c + 1, h1, w, true, sg', f', s', (lpn_l st).trans (lpn_r (L14_0 _ _)), q3, q2, Or.inl ⟨rfl, ?_⟩⟩
      have no7 : ∀ j, j ≤ w → ¬ dueS A.2.2.2 j = 7 := fun j hj => by
        rcases Nat.lt_or_ge a j with c9 | c9
        · exact g4 j c9 hj
        · exact b3 j c9
      by_cases hw : w < A.2.2.2.length
      · exact err_at hw (g3 hw) no7
      · have hw : w = A.2.2.2.length := by omega
        have e2 := g5 hw
        rw [hw] at e2 no7
        exact ⟨(err_no no7).trans hw.symm, e2⟩
    | ok v =>
      obtain ⟨kd, f9, s9, e⟩ := v
      rw [hp] at G q3
      obtain ⟨g1, g2, g3, g4, g5, g6⟩ := G
      dsimp only at g1 g2 g3 g4 g5 g6
      obtain ⟨f', q3, -⟩ := q3
      dsimp only at q3
      have no7 : ∀ j, j ≤ e → ¬ dueS A.2.2.2 j = 7 := fun j hj => by
        rcases Nat.lt_or_ge a j with c9 | c9
        · exact g3 j c9 hj
        · exact b3 j c9
      by_cases he : e < A.2.2.2.length
      · have g6 := g6 he
        by_cases h44 : A.2.2.2.getD e 0 = 44
        · rw [if_pos h44] at g6
          obtain ⟨h2, p1, p2, p3⟩ := G_comma W 0 c q3 he h44
          have st := (L14_r c q1).trans p1
          obtain ⟨c', h', b, w, sg', f'', s', r1, r2, r3, r4⟩ := ih (e + 1) (fuel + 1) (c + 1) h2 _ _ _ ⟨by omega, g6, fun j hj => by
            rcases Nat.lt_or_ge e j with c9 | c9
            · rw [show j = e + 1 by omega, g6]; omega
            · exact no7 j c9⟩ (by omega) (by omega) p2
          exact ⟨c', h', b, w, sg', f'', s', (lpn_l st).trans r1, r2, q2.tr (p3.tr r3), r4⟩
        · rw [if_neg h44] at g6
          obtain ⟨h2, p1, p2, p3⟩ := G_else W 0 c q3 he h44
          have st := (L14_r c q1).trans p1
          exact ⟨_, h2, e, true, _, _, _, (lpn_l st).trans (lpn_r (L14_0 _ _)), p2, q2.tr p3, Or.inl ⟨rfl, err_at he g6 no7⟩⟩
      · have he : e = A.2.2.2.length := by omega
        subst he
        have st := (L14_r c q1).trans (G_end 0 c q3)
        exact ⟨_, h1, _, false, _, _, _, (lpn_l st).trans (lpn_r (L14_0 _ _)), q3, q2, Or.inr ⟨rfl, err_no no7, g4⟩⟩
theorem repM.toR (H : repM h m t A) : ∃ h1 h2 sg f s, wrF h m 5 10 (.int (0 : Int32)) = some h1 ∧ wrF h1 m 5 11 (.int (0 : Int32)) = some h2 ∧ repR9 h2 m t A 0 false sg f s ∧ onM m h h2 := by
  obtain ⟨I, F, J, H1, H2, H3⟩ := H
  have H3 : repI I F A := H3
  obtain ⟨h1, a1, a2, a3⟩ := H1.w10 0
  obtain ⟨h2, b1, b2, b3⟩ := a2.w11 0
  exact ⟨h1, h2, _, _, _, a1, b1, ⟨_, F, J, b2, (upd_n _ _ (by omega)).trans ((upd_n _ _ (by omega)).trans H2), (H3.up (by omega) _).up (by omega) _, (upd_n _ _ (by omega)).trans (upd_s _ _ _), upd_s _ _ _, rfl, rfl, rfl⟩, a3.tr b3⟩
theorem M_goes0 (W : wfX A.2.2.2) (H : repM h m t A) : ∃ c h' b w sg f s, f_X6_goes h m 0 = some (c, h') ∧ repR9 h' m t A b w sg f s ∧ onM m h h' ∧ ((w = true ∧ errA A.2.2.2 = b ∧ endS (dueS A.2.2.2 A.2.2.2.length) = false) ∨ (w = false ∧ errA A.2.2.2 = A.2.2.2.length ∧ endS (dueS A.2.2.2 A.2.2.2.length) = true)) := by
  have hX := W.1
  obtain ⟨h1, h2, sg, f, s, a1, a2, a3, a4⟩ := H.toR
  obtain ⟨c', h', b, w, sg', f', s', r1, r2, r3, r4⟩ := G_loop0 W 62 0 LF 0 h2 sg f s (beg_0 _) (by omega) (by unfold LF; omega) a3
  refine ⟨c', h', b, w, sg', f', s', ?_, r2, a4.tr r3, r4⟩
  simp only [f_X6_goes, f_X6_goes_J112, H.ok, if_true, a1, a2, r1, bs9]
theorem M_op_firstError (W : wfA A) (H : repM h m t A) : MW (f_X6_firstError h m) h m (nI (errA A.2.2.2)) A := by
  obtain ⟨I, F, J, H1, H2, H3⟩ := id H
  obtain ⟨h1, a1, a2, a3⟩ := H1.w0 0
  have K : repM h1 m 0 A := ⟨_, F, J, a2, upd_s _ _ _, H3⟩
  obtain ⟨c, h', b, w, sg, f, s, r1, r2, r3, r4⟩ := M_goes0 W.2.2.2.2 K
  refine ⟨h', ?_, r2.toM, a3.tr r3⟩
  rcases r4 with ⟨rfl, e1, -⟩ | ⟨rfl, e1, -⟩
  · have c2 : ¬ bI true = 0 := by decide
    simp only [f_X6_firstError, f_X6_firstError_J29, H.ok, if_true, a1, r1, r2.i11, bs9, if_neg c2, r2.i10, e1]
  · have c2 : bI false = 0 := rfl
    simp only [f_X6_firstError, f_X6_firstError_J29, H.ok, if_true, a1, r1, r2.i11, bs9, if_pos c2, r2.i8, e1]
/-- a complete text is played -/
theorem G_loop1 {B : List Nat} (WB : wfX B) (hc : endS (dueS B B.length) = true) {S : List TTt} {K : Option TTt} : ∀ (k : Nat) (T : TTt) (a cnt fuel : Nat) (h : PH) (sg f s : Int32), beg B a → a < B.length → B.length - a < k → k < fuel → wfA (T, S, K, B) → repR9 h m t (T, S, K, B) a false sg f s → ∃ h' b w sg' f' s', lpn (f_X6_goes_L14 m 1) fuel (nI cnt, 1, h) = some (nI (cnt + (runT B k T a).1), h') ∧ repR9 h' m t ((runT B k T a).2, S, K, B) b w sg' f' s' ∧ onM m h h' := by
  intro k
  induction k with
  | zero => intro T a cnt fuel h sg f s _ _ h3; omega
  | succ k ih =>
    intro T a cnt fuel h sg f s hb ha h3 h4 W H
    obtain ⟨fuel, rfl⟩ : ∃ q, fuel = q + 1 + 1 := ⟨fuel - 2, by omega⟩
    obtain ⟨kd, f9, s9, e, hp, p1, p2, p3, p4⟩ := prt_ok WB hb hc
    have er : runT B (k + 1) T a = (match doA T kd f9 s9 with
      | none => (0, T)
      | some T' => if e < B.length then ((runT B k T' (e + 1)).1 + 1, (runT B k T' (e + 1)).2) else (1, T')) := by
      show (match prt B a with
        | .error _ => (0, T)
        | .ok v => match doA T v.1 v.2.1 v.2.2.1 with
          | none => (0, T)
          | some T' => if v.2.2.2 < B.length then ((runT B k T' (v.2.2.2 + 1)).1 + 1, (runT B k T' (v.2.2.2 + 1)).2) else (1, T')) = _
      rw [hp]
    obtain ⟨h1, q1, q2, q3⟩ := M_readsPart WB H (show a ≤ B.length by omega)
    have hp' : prt ((T, S, K, B) : AAt).2.2.2 a = .ok (kd, f9, s9, e) := hp
    rw [hp'] at q3
    obtain ⟨f', q3, q4⟩ := q3
    obtain ⟨h2, d1, d2, d3⟩ := M_does W q3 (prt_rng hp) q4
    have d1 : f_X6_does h1 m = some (bI (doA T kd f9 s9).isSome, h2) := d1
    have d2 : repR9 h2 m t ((doA T kd f9 s9).getD T, S, K, B) e false (nI kd) f' (nI s9) := d2
    have c1 : ¬ (1 : Int32) = 0 := by decide
    cases hd : doA T kd f9 s9 with
    | none =>
      rw [hd] at d1 d2 er
      have d2 : repR9 h2 m t (T, S, K, B) e false (nI kd) f' (nI s9) := d2
      dsimp only at er
      have c3 : bI (none : Option TTt).isSome = 0 := rfl
      have st : f_X6_goes_L14 m 1 (nI cnt, 1, h) = some (.inl (nI (cnt + 0), 0, h2)) := by
        have e0 : nI cnt + (0 : Int32) = nI (cnt + 0) := nI_add cnt 0
        simp only [f_X6_goes_L14, f_X6_goes_J38, f_X6_goes_J51, f_X6_goes_J80, f_X6_goes_J81, f_X6_goes_J109, if_neg c1, q1, bs9, d1, if_pos c3, if_true, e0]
      rw [er]
      exact ⟨h2, e, false, _, _, _, (lpn_l st).trans (lpn_r (L14_0 _ _)), d2, q2.tr d3⟩
    | some T' =>
      rw [hd] at d1 d2 er
      have d2 : repR9 h2 m t (T', S, K, B) e false (nI kd) f' (nI s9) := d2
      dsimp only at er
      have c3 : ¬ bI (some T').isSome = 0 := by simp [bI]
      have st0 : f_X6_goes_L14 m 1 (nI cnt, 1, h) = f_X6_goes_J33 h2 m 1 (nI cnt) := by
        simp only [f_X6_goes_L14, if_neg c1, q1, bs9, d1, if_neg c3]
      have W1 : wfA (T', S, K, B) := W.put (doA_wf W.1 (prt_rng hp) hd)
      by_cases he : e < B.length
      · rw [if_pos he] at er
        obtain ⟨h44, hb2⟩ := p4 he
        have hlt : e + 1 < B.length := by
          rcases Nat.lt_or_ge (e + 1) B.length with c | c
          · exact c
          · have := hb2.2.1
            rw [show e + 1 = B.length by omega] at this
            rw [this] at hc
            cases hc
        obtain ⟨h5, g1, g2, g3⟩ := G_comma WB 1 (nI cnt) d2 he h44
        have st := st0.trans g1
        obtain ⟨h', b, w, sg', f'', s', w1, w2, w3⟩ := ih T' (e + 1) (cnt + 1) (fuel + 1) h5 _ _ _ hb2 hlt (by omega) (by omega) W1 g2
        rw [er]
        refine ⟨h', b, w, sg', f'', s', (lpn_l st).trans ?_, w2, q2.tr (d3.tr (g3.tr w3))⟩
        rw [nI_1, w1]
        dsimp only
        rw [show cnt + ((runT B k T' (e + 1)).1 + 1) = cnt + 1 + (runT B k T' (e + 1)).1 by omega]
      · have he2 : e = B.length := by omega
        rw [if_neg he] at er
        rw [er]
        subst he2
        have st := st0.trans (G_end (A := (T', S, K, B)) 1 (nI cnt) d2)
        refine ⟨h2, _, false, _, _, _, (lpn_l st).trans ((lpn_r (L14_0 _ _)).trans ?_), d2, q2.tr d3⟩
        rw [nI_1]
theorem M_op_play (W : wfA A) (H : repM h m t A) : MK (f_X6_play h m) h m A (sp_play A) := by
  have WX := W.2.2.2.2
  have hX := WX.1
  obtain ⟨c, h1, b, w, sg, f, s, r1, r2, r3, r4⟩ := M_goes0 WX H
  unfold MK sp_play
  rcases r4 with ⟨rfl, -, e1⟩ | ⟨rfl, -, e1⟩
  · rw [if_neg (by rw [e1]; decide)]
    obtain ⟨h', a1, a2, a3⟩ := M_holds1 r2.toM (v := 1) (by decide)
    have c2 : ¬ bI true = 0 := by decide
    have c4 : ¬ ¬ (0 : Int32) = 0 := fun q => q rfl
    refine ⟨h', ?_, a2, r3.tr a3⟩
    simp only [f_X6_play, f_X6_play_J19, H.ok, if_true, r1, r2.i11, bs9, if_neg c2, a1, if_neg c4]
    rfl
  · rw [if_pos e1]
    have c2 : bI false = 0 := rfl
    have c4 : ¬ (1 : Int32) = 0 := by decide
    have hne : 0 < A.2.2.2.length := by
      rcases Nat.eq_zero_or_pos A.2.2.2.length with c | c
      · rw [c] at e1; cases e1
      · exact c
    obtain ⟨h2, a1, a2, a3⟩ := M_holds0 r2.toM
    obtain ⟨h3, b1, b2, b3⟩ := M_save W a2
    obtain ⟨h4, h5, sg1, f1, s1, d1, d2, d3, d4⟩ := b2.toR
    obtain ⟨h6, b', w', sg2, f2, s2, l1, l2, l3⟩ := G_loop1 WX e1 61 A.1 0 0 LF h5 sg1 f1 s1 (beg_0 _) hne (by omega) (by unfold LF; omega) W.sv d3
    rw [Nat.zero_add] at l1
    have l1 : lpn (f_X6_goes_L14 m 1) LF (0, 1, h5) = some _ := l1
    have g1 : f_X6_goes h3 m 1 = some (nI (runT A.2.2.2 61 A.1 0).1, h6) := by
      simp only [f_X6_goes, f_X6_goes_J112, b2.ok, if_true, d1, d2, l1, bs9]
    obtain ⟨I, F, J, H1, H2, H3, H4, H5, H6, H7⟩ := l2.toM
    obtain ⟨h7, p1, p2, p3⟩ := H1.w8 0
    refine ⟨h7, ?_, ⟨_, F, J, p2, (upd_n _ _ (by omega)).trans H2, H3, ⟨(upd_n _ _ (by omega)).trans H4.1, H4.2⟩, ⟨(upd_n _ _ (by omega)).trans H5.1, H5.2⟩, upd_s _ _ _, fun i c hc => by simp [nxt] at hc⟩, r3.tr (a3.tr (b3.tr (d4.tr (l3.tr p3))))⟩
    simp only [f_X6_play, f_X6_play_J19, H.ok, if_true, r1, r2.i11, bs9, if_pos c2, a1, if_pos c4, b1, g1, p1]
    rfl
end Reader2
