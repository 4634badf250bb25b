/-! PURE READING, 34: the reference: stretch, cut, turn, join, joining -/
section ModelOps2
variable {h : PH} {m : Nat} {I : Nat → Int32} {F : Nat → Nat → Int32} {J : Int64} {t : Int32} {A : AAt}
theorem M_op_stretch (W : wfA A) (H : repM h m t A) (a b : Int32) : MK (f_X6_stretch h m a b) h m A (sp_stretch A a b) := by
  have hR := W.1.2.1
  have e2 : f_X6_in h b (1 : Int32) (60 : Int32) = some (bI (btw 1 60 b).isSome) := M_btw h b (lo := 1) (hi := 60) (by omega) (by omega)
  unfold MK sp_stretch
  cases hv : rng A.1.2.1.length a with
  | none =>
    obtain ⟨h', a1, a2, a3⟩ := M_holds1 H (v := 1) (by decide)
    refine ⟨h', ?_, a2, a3⟩
    have c2 : ¬ ¬ bI (none : Option Nat).isSome = 0 := fun q => q rfl
    simp only [f_X6_stretch, f_X6_stretch_J41, H.ok, if_true, bs9, M_isRope' W H, hv, if_neg c2, a1]
    rfl
  | some i =>
    obtain ⟨v1, rfl⟩ := rng_some (by omega) hv
    have c2 : ¬ bI (some i).isSome = 0 := by simp [bI]
    dsimp only
    cases hu : btw 1 60 b with
    | none =>
      obtain ⟨h', a1, a2, a3⟩ := M_holds1 H (v := 2) (by decide)
      refine ⟨h', ?_, a2, a3⟩
      rw [hu] at e2
      have c3 : ¬ ¬ bI (none : Option Nat).isSome = 0 := fun q => q rfl
      simp only [f_X6_stretch, f_X6_stretch_J41, H.ok, if_true, bs9, M_isRope' W H, hv, if_pos c2, e2, if_neg c3, a1]
      rfl
    | some n =>
      obtain ⟨u1, u2, rfl⟩ := btw_some (by omega) hu
      rw [hu] at e2
      have c3 : ¬ bI (some n).isSome = 0 := by simp [bI]
      have WR := W.1.2.2 _ (atR_mem v1)
      have e3 : f_X6_clash h m (nI i) = some (nI (clashA A.1.1 (atR A.1.2.1 i).2)) := by
        obtain ⟨I, F, J, H1, H2, H3, -⟩ := H
        exact M_clash H1 (show i < 4 by omega) (H3.q v1) H3.1 W.1.1 WR.q
      have h60 := clash_le A.1.1 (atR A.1.2.1 i).2
      dsimp only
      by_cases hc : n ≤ clashA A.1.1 (atR A.1.2.1 i).2
      · rw [if_pos hc]
        have c5 : nI n ≤ nI (clashA A.1.1 (atR A.1.2.1 i).2) := nI_le hc (by omega)
        obtain ⟨h1, a1, a2, a3⟩ := M_holds0 H
        obtain ⟨h2, b1, b2, b3⟩ := M_save W a2
        obtain ⟨I, F, J, s, K, KA, close⟩ := b2.opn
        have KA : repA s A.1 := KA
        obtain ⟨h3, o, d1, d2, d3, d4⟩ := M_remembers K (show i < 4 by omega)
        have HO := repO_of (KA.q v1) WR.le8 d4
        obtain ⟨h4, s4, f1, f2, f3, f4, f5⟩ := M_clears d2 (show i < 4 by omega) n
        obtain ⟨h5, s5, g1, g2, g3, g4, g5⟩ := M_laysFrom f2 (show i < 4 by omega) W.1.1 (f5.gap KA.1) WR HO (n := n) (a := 0) u2 (by omega) f4
        rw [bk2_flt] at g4
        have g1 : f_X6_laysFrom h4 m (nI i) 0 = some h5 := g1
        have l1 : ldI h5 (m + 6) 1 = some (nI (atR A.1.2.1 i).2.length) := (g2.l9' (i := 1) (by omega)).trans (congrArg some HO.2.1)
        have l2 := g2.l1' (show 13 + 18 * i < 84 by omega)
        rw [g4.2.1] at l2
        have l2 : ldI h5 (m + 1) (nI (13 + 18 * i)) = some (nI (fltA n (atR A.1.2.1 i).2).length) := l2
        have hle : (fltA n (atR A.1.2.1 i).2).length ≤ (atR A.1.2.1 i).2.length := List.length_filter_le _ _
        have c4 : ¬ (1 : Int32) = 0 := by decide
        refine ⟨h5, ?_, close g2 rfl rfl rfl (KA.set W.1 (f5.tr g5) g4), a3.tr (b3.tr (d3.tr (f3.tr g3)))⟩
        simp only [f_X6_stretch, f_X6_stretch_J41, H.ok, if_true, bs9, M_isRope' W H, hv, if_pos c2, e2, if_pos c3, e3, if_pos c5, a1, if_pos c4, b1, d1, f1, g1, g2.r9, l1, g2.r1, M_of1, l2, nI_sub hle]
        rfl
      · rw [if_neg hc]
        obtain ⟨h', a1, a2, a3⟩ := M_holds1 H (v := 3) (by decide)
        refine ⟨h', ?_, a2, a3⟩
        have c5 : ¬ nI n ≤ nI (clashA A.1.1 (atR A.1.2.1 i).2) := nI_ge (by omega) (by omega)
        simp only [f_X6_stretch, f_X6_stretch_J41, H.ok, if_true, bs9, M_isRope' W H, hv, if_pos c2, e2, if_pos c3, e3, if_neg c5, a1]
        rfl
theorem M_op_turn (W : wfA A) (H : repM h m t A) (a : Int32) : MK (f_X6_turn h m a) h m A (sp_turn A a) := by
  have hR := W.1.2.1
  unfold MK sp_turn
  cases hv : rng A.1.2.1.length a with
  | none =>
    obtain ⟨h', a1, a2, a3⟩ := M_holds1 H (v := 1) (by decide)
    refine ⟨h', ?_, a2, a3⟩
    have c2 : bI (none : Option Nat).isSome = 0 := rfl
    simp only [f_X6_turn, f_X6_turn_J14, H.ok, if_true, bs9, M_isRope' W H, hv, if_pos c2, a1]
    rfl
  | some i =>
    obtain ⟨v1, rfl⟩ := rng_some (by omega) hv
    have c2 : ¬ bI (some i).isSome = 0 := by simp [bI]
    have WR := W.1.2.2 _ (atR_mem v1)
    obtain ⟨h1, a1, a2, a3⟩ := M_holds0 H
    obtain ⟨h2, b1, b2, b3⟩ := M_save W a2
    obtain ⟨I, F, J, s, K, KA, close⟩ := b2.opn
    have KA : repA s A.1 := KA
    have e5 := M_unlike K (show i < 4 by omega) W.1.1 KA.1 WR (KA.q v1)
    obtain ⟨h3, s3, o, d1, d2, d3, d4, d5⟩ := M_turns K (show i < 4 by omega) W.1.1 KA.1 WR (KA.q v1)
    have c4 : ¬ (1 : Int32) = 0 := by decide
    refine ⟨h3, ?_, close d2 rfl rfl rfl (KA.set W.1 d5 d4), a3.tr (b3.tr d3)⟩
    simp only [f_X6_turn, f_X6_turn_J14, H.ok, if_true, bs9, M_isRope' W H, hv, if_neg c2, a1, if_pos c4, b1, e5, d1]
    rfl
theorem M_op_cut (W : wfA A) (H : repM h m t A) (a b : Int32) : MK (f_X6_cut h m a b) h m A (sp_cut A a b) := by
  have hR := W.1.2.1
  unfold MK sp_cut
  cases hv : rng A.1.2.1.length a with
  | none =>
    obtain ⟨h', a1, a2, a3⟩ := M_holds1 H (v := 1) (by decide)
    refine ⟨h', ?_, a2, a3⟩
    have c2 : ¬ ¬ bI (none : Option Nat).isSome = 0 := fun q => q rfl
    simp only [f_X6_cut, f_X6_cut_J55, H.ok, if_true, bs9, M_isRope' W H, hv, if_neg c2, a1]
    rfl
  | some i =>
    obtain ⟨v1, rfl⟩ := rng_some (by omega) hv
    have c2 : ¬ bI (some i).isSome = 0 := by simp [bI]
    have WR := W.1.2.2 _ (atR_mem v1)
    obtain ⟨w1, w2⟩ := WR.1
    obtain ⟨I0, F0, J0, s0, K0, KA0, -⟩ := H.opn
    have e8 : ldI h (m + 1) (8 : Int32) = some (nI A.1.2.1.length) := (K0.l1' (i := 8) (by omega)).trans (congrArg some KA0.2.1)
    have l0 := K0.l1' (show 12 + 18 * i < 84 by omega)
    rw [(KA0.q v1).1] at l0
    have el : nI (atR A.1.2.1 i).1 - 1 = nI ((atR A.1.2.1 i).1 - 1) := nI_sub (b := 1) w1
    have e2 : f_X6_in h b (1 : Int32) (nI ((atR A.1.2.1 i).1 - 1)) = some (bI (btw 1 ((atR A.1.2.1 i).1 - 1) b).isSome) := M_btw h b (lo := 1) (by omega) (by omega)
    dsimp only
    cases hu : btw 1 ((atR A.1.2.1 i).1 - 1) b with
    | none =>
      obtain ⟨h', a1, a2, a3⟩ := M_holds1 H (v := 2) (by decide)
      refine ⟨h', ?_, a2, a3⟩
      rw [hu] at e2
      have c3 : ¬ ¬ bI (none : Option Nat).isSome = 0 := fun q => q rfl
      simp only [f_X6_cut, f_X6_cut_J55, H.ok, if_true, bs9, M_isRope' W H, hv, if_pos c2, K0.r1, M_of0, l0, el, e2, if_neg c3, a1]
      rfl
    | some p =>
      obtain ⟨u1, u2, rfl⟩ := btw_some (by omega) hu
      rw [hu] at e2
      have c3 : ¬ bI (some p).isSome = 0 := by simp [bI]
      dsimp only
      by_cases hl : A.1.2.1.length = 4
      · rw [if_pos hl]
        obtain ⟨h', a1, a2, a3⟩ := M_holds1 H (v := 3) (by decide)
        refine ⟨h', ?_, a2, a3⟩
        have c5 : ¬ ¬ nI A.1.2.1.length = (4 : Int32) := fun q => q (by rw [hl]; rfl)
        simp only [f_X6_cut, f_X6_cut_J55, H.ok, if_true, bs9, M_isRope' W H, hv, if_pos c2, K0.r1, M_of0, l0, el, e2, if_pos c3, e8, if_neg c5, a1]
        rfl
      · rw [if_neg hl]
        have c5 : ¬ nI A.1.2.1.length = (4 : Int32) := fun q => hl ((nI_eq (b := 4) (by omega) (by omega)).mp q)
        have hcl := clash_len WR
        obtain ⟨h1, a1, a2, a3⟩ := M_holds0 H
        obtain ⟨h2, b1, b2, b3⟩ := M_save W a2
        obtain ⟨I, F, J, s, K, KA, close⟩ := b2.opn
        have KA : repA s A.1 := KA
        obtain ⟨h3, o, d1, d2, d3, d4⟩ := M_remembers K (show i < 4 by omega)
        have HO := repO_of (KA.q v1) WR.le8 d4
        have l3 : ldI h3 (m + 6) 0 = some (nI (atR A.1.2.1 i).1) := (d2.l9' (i := 0) (by omega)).trans (congrArg some HO.1)
        have el2 : nI (atR A.1.2.1 i).1 - nI p = nI ((atR A.1.2.1 i).1 - p) := nI_sub (by omega)
        obtain ⟨h4, s4, f1, f2, f3, f4⟩ := M_adds d2 KA W.1 (by omega) ((atR A.1.2.1 i).1 - p)
        have W4 : wfT (A.1.1, A.1.2.1 ++ [((atR A.1.2.1 i).1 - p, [])], A.1.2.2) := wf_rope W.1 hl (by omega) (by omega)
        have ll : (A.1.2.1 ++ [((atR A.1.2.1 i).1 - p, [])]).length = A.1.2.1.length + 1 := by rw [List.length_append]; rfl
        have e9 : ldI h4 (m + 1) (8 : Int32) = some (nI (A.1.2.1.length + 1)) := by
          refine (f2.l1' (i := 8) (by omega)).trans (congrArg some (f4.2.1.trans ?_))
          show nI (A.1.2.1 ++ [((atR A.1.2.1 i).1 - p, [])]).length = _
          rw [ll]
        have q4 := f4.q (i := A.1.2.1.length) (by show A.1.2.1.length < (A.1.2.1 ++ _).length; rw [ll]; omega)
        have x1 : atR (A.1.2.1 ++ [((atR A.1.2.1 i).1 - p, [])]) A.1.2.1.length = ((atR A.1.2.1 i).1 - p, []) := by
          unfold atR
          rw [List.getD_eq_getElem?_getD, List.getElem?_append_right (Nat.le_refl _), Nat.sub_self]
          rfl
        have q4 : repQ s4 A.1.2.1.length ((atR A.1.2.1 i).1 - p, []) := by rw [← x1]; exact q4
        obtain ⟨h5, s5, g1, g2, g3, g4, g5⟩ := M_laysFrom f2 (show A.1.2.1.length < 4 by omega) W.1.1 f4.1 WR HO (n := (atR A.1.2.1 i).1 - p) (a := p) (by omega) (by omega) q4
        rw [bk2_back W.1.1 (by omega)] at g4
        have KA5 := f4.set W4 g5 g4
        have ss : (A.1.2.1 ++ [((atR A.1.2.1 i).1 - p, [])]).set A.1.2.1.length ((atR A.1.2.1 i).1 - p, (atR A.1.2.1 i).2.filterMap (bkA A.1.1 p (atR A.1.2.1 i).1)) = A.1.2.1 ++ [((atR A.1.2.1 i).1 - p, (atR A.1.2.1 i).2.filterMap (bkA A.1.1 p (atR A.1.2.1 i).1))] := by
          rw [List.set_append_right _ _ (Nat.le_refl _), Nat.sub_self]
          rfl
        have W5 : wfT (A.1.1, A.1.2.1 ++ [((atR A.1.2.1 i).1 - p, (atR A.1.2.1 i).2.filterMap (bkA A.1.1 p (atR A.1.2.1 i).1))], A.1.2.2) := by
          show wfS A.1.1 (A.1.2.1 ++ [((atR A.1.2.1 i).1 - p, (atR A.1.2.1 i).2.filterMap (bkA A.1.1 p (atR A.1.2.1 i).1))])
          rw [← ss]
          exact wf_set W4 _ (wf_back W.1.1 WR (by omega))
        have KA5 : repA s5 (A.1.1, A.1.2.1 ++ [((atR A.1.2.1 i).1 - p, (atR A.1.2.1 i).2.filterMap (bkA A.1.1 p (atR A.1.2.1 i).1))], A.1.2.2) := by
          have := KA5
          dsimp only at this
          rw [ss] at this
          exact this
        obtain ⟨h6, s6, k1, k2, k3, k4, k5⟩ := M_clears g2 (show i < 4 by omega) p
        obtain ⟨h7, s7, n1, n2, n3, n4, n5⟩ := M_laysFrom k2 (show i < 4 by omega) W.1.1 (k5.gap KA5.1) WR HO (n := p) (a := 0) (by omega) (by omega) k4
        rw [bk2_flt] at n4
        have n1 : f_X6_laysFrom h6 m (nI i) 0 = some h7 := n1
        have KA7 := KA5.set W5 (k5.tr n5) n4
        have W7 : wfT (A.1.1, (A.1.2.1 ++ [((atR A.1.2.1 i).1 - p, (atR A.1.2.1 i).2.filterMap (bkA A.1.1 p (atR A.1.2.1 i).1))]).set i (p, fltA p (atR A.1.2.1 i).2), A.1.2.2) := wf_set W5 i (wf_flt WR (n := p) u1 (by omega) (by omega))
        have l11 : ldI h7 (m + 1) (11 : Int32) = some A.1.2.2.2.2 := (n2.l1' (i := 11) (by omega)).trans (congrArg some KA7.2.2.1.2.2)
        obtain ⟨h8, r1, r2, r3⟩ := n2.s1' (i := 11) (by omega) (A.1.2.2.2.2 + 1)
        have r1 : stI h7 (m + 1) (11 : Int32) (A.1.2.2.2.2 + 1) = some h8 := r1
        have KA8 := KA7.cnt W7 (k := 11) (Or.inr (Or.inr rfl)) (A.1.2.2.2.2 + 1)
        have e10 : ldI h8 (m + 1) (8 : Int32) = some (nI (A.1.2.1.length + 1)) := by
          refine (r2.l1' (i := 8) (by omega)).trans (congrArg some (KA8.2.1.trans ?_))
          show nI ((A.1.2.1 ++ _).set i _).length = _
          rw [List.length_set, List.length_append]
          rfl
        have c4 : ¬ (1 : Int32) = 0 := by decide
        refine ⟨h8, ?_, close r2 rfl rfl rfl KA8, a3.tr (b3.tr (d3.tr (f3.tr (g3.tr (k3.tr (n3.tr r3))))))⟩
        simp only [f_X6_cut, f_X6_cut_J55, H.ok, if_true, bs9, M_isRope' W H, hv, if_pos c2, K0.r1, M_of0, l0, el, e2, if_pos c3, e8, if_pos c5, a1, if_pos c4, b1, d1, d2.r9, l3, el2, f1, f2.r1, e9, g1, k1, n1, n2.r1, l11, r1, r2.r1, e10, nI_pred]
        rfl
theorem M_whyNot' (W : wfA A) (H : repM h m t A) {i j : Nat} (hi : i < A.1.2.1.length) (hj : j < A.1.2.1.length) : ∃ h', f_X6_whyNotJoined h m (nI i) (nI j) = some (nI (rjR A.1.1 A.1.2.1 i j), h') ∧ repM h' m t A ∧ onM m h h' := by
  obtain ⟨I, F, J, s, K, KA, close⟩ := H.opn
  obtain ⟨h', s', o, e1, e2, e3, e4⟩ := M_whyNot K KA W.1 hi hj
  exact ⟨h', e1, close e2 rfl rfl rfl (KA.kp W.1 e4), e3⟩
theorem rjR_le (g : Nat → Nat) (R : RRt) (i j : Nat) : rjR g R i j ≤ 4 := by
  unfold rjR
  split
  · omega
  · exact rjA_le _ _ _ _ _
theorem M_op_joining (W : wfA A) (H : repM h m t A) (a b : Int32) : MK (f_X6_joining h m a b) h m A (sp_joining A a b) := by
  have hR := W.1.2.1
  unfold MK sp_joining
  cases hv : rng A.1.2.1.length a with
  | none =>
    obtain ⟨h', a1, a2, a3⟩ := M_holds1 H (v := 1) (by decide)
    refine ⟨h', ?_, a2, a3⟩
    have c2 : bI (none : Option Nat).isSome = 0 := rfl
    simp only [f_X6_joining, f_X6_joining_J21, f_X6_joining_J22, f_X6_joining_J38, H.ok, if_true, bs9, M_isRope' W H, hv, if_pos c2, a1]
    rfl
  | some i =>
    obtain ⟨v1, rfl⟩ := rng_some (by omega) hv
    have c2 : ¬ bI (some i).isSome = 0 := by simp [bI]
    dsimp only
    cases hu : rng A.1.2.1.length b with
    | none =>
      obtain ⟨h', a1, a2, a3⟩ := M_holds1 H (v := 1) (by decide)
      refine ⟨h', ?_, a2, a3⟩
      have c3 : bI (none : Option Nat).isSome = 0 := rfl
      simp only [f_X6_joining, f_X6_joining_J21, f_X6_joining_J22, f_X6_joining_J38, H.ok, if_true, bs9, M_isRope' W H, hv, if_neg c2, hu, if_pos c3, a1]
      rfl
    | some j =>
      obtain ⟨u1, rfl⟩ := rng_some (by omega) hu
      have c3 : ¬ bI (some j).isSome = 0 := by simp [bI]
      have c4 : ¬ (1 : Int32) = 0 := by decide
      obtain ⟨h1, a1, a2, a3⟩ := M_holds0 H
      obtain ⟨h2, b1, b2, b3⟩ := M_whyNot' W a2 v1 u1
      refine ⟨h2, ?_, b2, a3.tr b3⟩
      simp only [f_X6_joining, f_X6_joining_J22, f_X6_joining_J38, H.ok, if_true, bs9, M_isRope' W H, hv, if_neg c2, hu, if_neg c3, a1, if_neg c4, b1]
      rfl
theorem M_op_join (W : wfA A) (H : repM h m t A) (a b : Int32) : MK (f_X6_join h m a b) h m A (sp_join A a b) := by
  have hR := W.1.2.1
  unfold MK sp_join
  cases hv : rng A.1.2.1.length a with
  | none =>
    obtain ⟨h', a1, a2, a3⟩ := M_holds1 H (v := 1) (by decide)
    refine ⟨h', ?_, a2, a3⟩
    have c2 : bI (none : Option Nat).isSome = 0 := rfl
    simp only [f_X6_join, f_X6_join_J17, f_X6_join_J35, H.ok, if_true, bs9, M_isRope' W H, hv, if_pos c2, a1]
    rfl
  | some i =>
    obtain ⟨v1, rfl⟩ := rng_some (by omega) hv
    have c2 : ¬ bI (some i).isSome = 0 := by simp [bI]
    dsimp only
    cases hu : rng A.1.2.1.length b with
    | none =>
      obtain ⟨h', a1, a2, a3⟩ := M_holds1 H (v := 1) (by decide)
      refine ⟨h', ?_, a2, a3⟩
      have c3 : ¬ ¬ bI (none : Option Nat).isSome = 0 := fun q => q rfl
      simp only [f_X6_join, f_X6_join_J17, f_X6_join_J35, H.ok, if_true, bs9, M_isRope' W H, hv, if_neg c2, hu, if_neg c3, a1]
      rfl
    | some j =>
      obtain ⟨u1, rfl⟩ := rng_some (by omega) hu
      have c3 : ¬ bI (some j).isSome = 0 := by simp [bI]
      have c4 : ¬ (1 : Int32) = 0 := by decide
      have Wa := W.1.2.2 _ (atR_mem v1)
      have Wb := W.1.2.2 _ (atR_mem u1)
      obtain ⟨h1, b1, b2, b3⟩ := M_whyNot' W H v1 u1
      have hle := rjR_le A.1.1 A.1.2.1 i j
      dsimp only
      have bad : ¬ rjR A.1.1 A.1.2.1 i j = 0 → ∃ h', f_X6_join h m (nI i) (nI j) = some (0, h') ∧ repM h' m 2 A ∧ onM m h h' := by
        intro hz
        obtain ⟨h', a1, a2, a3⟩ := M_holds1 b2 (v := 2) (by decide)
        refine ⟨h', ?_, a2, b3.tr a3⟩
        have c5 : ¬ nI (rjR A.1.1 A.1.2.1 i j) ≤ 0 := nI_nle (by omega) (by omega)
        simp only [f_X6_join, f_X6_join_J35, H.ok, if_true, bs9, M_isRope' W H, hv, if_neg c2, hu, if_pos c3, b1, if_neg c5, a1]
        rfl
      by_cases hij : i = j
      · rw [if_pos hij]
        have hz : ¬ rjR A.1.1 A.1.2.1 i j = 0 := by unfold rjR; rw [if_pos hij]; omega
        exact bad hz
      · rw [if_neg hij]
        have hrj : rjR A.1.1 A.1.2.1 i j = rjA A.1.1 (atR A.1.2.1 i).1 (atR A.1.2.1 j).1 (atR A.1.2.1 i).2 (atR A.1.2.1 j).2 := by unfold rjR; rw [if_neg hij]
        by_cases hw : rjA A.1.1 (atR A.1.2.1 i).1 (atR A.1.2.1 j).1 (atR A.1.2.1 i).2 (atR A.1.2.1 j).2 = 0
        · rw [if_pos hw]
          rw [hrj, hw] at b1
          have Wj := wf_join W.1.1 Wa Wb hw
          obtain ⟨h2, a1, a2, a3⟩ := M_holds0 b2
          obtain ⟨h3, d1, d2, d3⟩ := M_save W a2
          obtain ⟨I, F, J, s, K, KA, close⟩ := d2.opn
          have KA : repA s A.1 := KA
          obtain ⟨h4, s4, f1, f2, f3, f4, f5⟩ := M_joinsWith K (show i < 4 by omega) (show j < 4 by omega) hij W.1.1 KA.1 Wa Wb (KA.q v1) (KA.q u1)
          have KA4 := KA.set W.1 f5 f4
          have W4 : wfT (A.1.1, A.1.2.1.set i ((atR A.1.2.1 i).1 + (atR A.1.2.1 j).1, jnA A.1.1 (atR A.1.2.1 i).1 (atR A.1.2.1 i).2 (atR A.1.2.1 j).2), A.1.2.2) := wf_set W.1 i Wj
          have l0 := f2.l1' (show 12 + 18 * i < 84 by omega)
          rw [f4.1] at l0
          have l0 : ldI h4 (m + 1) (nI (12 + 18 * i)) = some (nI ((atR A.1.2.1 i).1 + (atR A.1.2.1 j).1)) := l0
          obtain ⟨h5, s5, g1, g2, g3, g4⟩ := M_drops f2 KA4 W4 (i := j) (by show j < (A.1.2.1.set _ _).length; rw [List.length_set]; exact u1)
          have W5 : wfT (A.1.1, (A.1.2.1.set i ((atR A.1.2.1 i).1 + (atR A.1.2.1 j).1, jnA A.1.1 (atR A.1.2.1 i).1 (atR A.1.2.1 i).2 (atR A.1.2.1 j).2)).eraseIdx j, A.1.2.2) := wf_drop W4 j
          have l10 : ldI h5 (m + 1) (10 : Int32) = some A.1.2.2.2.1 := (g2.l1' (i := 10) (by omega)).trans (congrArg some g4.2.2.1.2.1)
          obtain ⟨h6, r1, r2, r3⟩ := g2.s1' (i := 10) (by omega) (A.1.2.2.2.1 + 1)
          have r1 : stI h5 (m + 1) (10 : Int32) (A.1.2.2.2.1 + 1) = some h6 := r1
          have KA6 := g4.cnt W5 (k := 10) (Or.inr (Or.inl rfl)) (A.1.2.2.2.1 + 1)
          have c5 : nI 0 ≤ 0 := by decide
          refine ⟨h6, ?_, close r2 rfl rfl rfl KA6, b3.tr (a3.tr (d3.tr (f3.tr (g3.tr r3))))⟩
          simp only [f_X6_join, f_X6_join_J35, H.ok, if_true, bs9, M_isRope' W H, hv, if_neg c2, hu, if_pos c3, b1, if_pos c5, a1, if_pos c4, d1, f1, f2.r1, M_of0, l0, g1, g2.r1, l10, r1]
          rfl
        · rw [if_neg hw]
          exact bad (by rw [hrj]; exact hw)
end ModelOps2
