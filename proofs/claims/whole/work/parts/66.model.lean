/-! PURE READING, 35: the reference: append, clearBuffer, undo, keep, restore, looks -/
def MW (f : Option (Int32 × PH)) (h : PH) (m : Nat) (v : Int32) (A : AAt) : Prop := ∃ h', f = some (v, h') ∧ repM h' m 0 A ∧ onM m h h'
def outVL : Except Nat Int32 → Int32
  | .error _ => 0
  | .ok v => v
def outTL : Except Nat Int32 → Int32
  | .error k => nI k
  | .ok _ => 0
def ML (f : Option (Int32 × PH)) (h : PH) (m : Nat) (A : AAt) (sp : Except Nat Int32) : Prop := ∃ h', f = some (outVL sp, h') ∧ repM h' m (outTL sp) A ∧ onM m h h'
section ModelOps3
variable {h : PH} {m : Nat} {t : Int32} {A : AAt}
theorem M_op_append (W : wfA A) (H : repM h m t A) (a : Int32) : MK (f_X6_append h m a) h m A (sp_append A a) := by
  have hB := W.2.2.2.2.1
  have e2 : f_X6_in h a (33 : Int32) (126 : Int32) = some (bI (btw 33 126 a).isSome) := M_btw h a (lo := 33) (hi := 126) (by omega) (by omega)
  have e3 : rdI h m 5 8 = some (nI A.2.2.2.length) := by
    obtain ⟨I, F, J, H1, H2, H3, H4, H5, H6, H7⟩ := H
    exact H1.i8.trans (congrArg some H6)
  unfold MK sp_append
  cases hv : btw 33 126 a with
  | none =>
    obtain ⟨h', a1, a2, a3⟩ := M_holds1 H (v := 1) (by decide)
    refine ⟨h', ?_, a2, a3⟩
    rw [hv] at e2
    have c2 : ¬ ¬ bI (none : Option Nat).isSome = 0 := fun q => q rfl
    simp only [f_X6_append, f_X6_append_J30, H.ok, if_true, bs9, e2, if_neg c2, a1]
    rfl
  | some c =>
    obtain ⟨v1, v2, rfl⟩ := btw_some (by omega) hv
    rw [hv] at e2
    have c2 : ¬ bI (some c).isSome = 0 := by simp [bI]
    dsimp only
    by_cases hf : A.2.2.2.length < 60
    · rw [if_pos hf]
      have c3 : ¬ nI A.2.2.2.length = (60 : Int32) := fun q => by
        have := (nI_eq (b := 60) (show A.2.2.2.length < 2 ^ 31 by omega) (by omega)).mp q
        omega
      have c4 : ¬ (1 : Int32) = 0 := by decide
      obtain ⟨h1, a1, a2, a3⟩ := M_holds0 H
      obtain ⟨I, F, J, H1, H2, H3, H4, H5, H6, H7⟩ := a2
      have i8 := H1.i8
      rw [H6] at i8
      obtain ⟨h2, b1, b2, b3⟩ := H1.s7 (show A.2.2.2.length < 60 from hf) (nI c)
      have j8 := b2.i8
      rw [H6] at j8
      obtain ⟨h3, d1, d2, d3⟩ := b2.w8 (nI (A.2.2.2.length + 1))
      have k8 := d2.i8
      rw [upd_s] at k8
      refine ⟨h3, ?_, ⟨_, _, J, d2, (upd_n _ _ (by omega)).trans H2, H3, ⟨(upd_n _ _ (by omega)).trans H4.1, H4.2⟩, ⟨(upd_n _ _ (by omega)).trans H5.1, H5.2⟩, ?_, fun i c' hc => ?_⟩, a3.tr (b3.tr d3)⟩
      · simp only [f_X6_append, f_X6_append_J30, H.ok, if_true, bs9, e2, if_pos c2, e3, if_pos c3, a1, if_pos c4, H1.r7, i8, b1, j8, nI_1, d1, k8]
        rfl
      · rw [upd_s]
        show _ = nI (A.2.2.2 ++ [c]).length
        rw [List.length_append]
        rfl
      · have hc : (A.2.2.2 ++ [c])[i]? = some c' := hc
        show upd (F 7) A.2.2.2.length (nI c) i = nI c'
        rcases Nat.lt_trichotomy i A.2.2.2.length with q | q | q
        · rw [List.getElem?_append_left q] at hc
          rw [upd_n _ _ (by omega)]
          exact H7 i c' hc
        · subst q
          rw [List.getElem?_append_right (Nat.le_refl _), Nat.sub_self] at hc
          cases hc
          exact upd_s _ _ _
        · rw [List.getElem?_eq_none (by rw [List.length_append]; exact q)] at hc
          cases hc
    · rw [if_neg hf]
      have c3 : ¬ ¬ nI A.2.2.2.length = (60 : Int32) := fun q => q (by rw [show A.2.2.2.length = 60 by omega]; rfl)
      obtain ⟨h', a1, a2, a3⟩ := M_holds1 H (v := 2) (by decide)
      refine ⟨h', ?_, a2, a3⟩
      simp only [f_X6_append, f_X6_append_J30, H.ok, if_true, bs9, e2, if_pos c2, e3, if_neg c3, a1]
      rfl
theorem M_op_clear (H : repM h m t A) : MW (f_X6_clearBuffer h m) h m (nI A.2.2.2.length) (A.1, A.2.1, A.2.2.1, []) := by
  obtain ⟨I, F, J, H1, H2, H3, H4, H5, H6, H7⟩ := H
  obtain ⟨h1, a1, a2, a3⟩ := H1.w0 0
  have i8 := a2.i8
  rw [upd_n _ _ (by omega), H6] at i8
  obtain ⟨h2, b1, b2, b3⟩ := a2.w8 0
  refine ⟨h2, ?_, ⟨_, F, J, b2, (upd_n _ _ (by omega)).trans (upd_s _ _ _), H3, ⟨(upd_n _ _ (by omega)).trans ((upd_n _ _ (by omega)).trans H4.1), H4.2⟩, ⟨(upd_n _ _ (by omega)).trans ((upd_n _ _ (by omega)).trans H5.1), H5.2⟩, upd_s _ _ _, fun i c hc => by simp at hc⟩, a3.tr b3⟩
  simp only [f_X6_clearBuffer, H1.ok, if_true, bs9, a1, i8, b1]
theorem M_op_undo (W : wfA A) (H : repM h m t A) : MK (f_X6_undo h m) h m A (sp_undo A) := by
  have e3 : rdI h m 5 6 = some (nI A.2.1.length) := by
    obtain ⟨I, F, J, H1, H2, H3, H4, H5, H6, H7⟩ := H
    exact H1.i6.trans (congrArg some H5.1)
  have hS := W.2.2.1
  unfold MK sp_undo
  cases hT : A.2.1[A.2.1.length - 1]? with
  | none =>
    have h0 : A.2.1.length = 0 := by have := List.getElem?_eq_none_iff.mp hT; omega
    have c1 : nI A.2.1.length ≤ 0 := by rw [h0]; decide
    obtain ⟨h', a1, a2, a3⟩ := M_holds1 H (v := 1) (by decide)
    refine ⟨h', ?_, a2, a3⟩
    simp only [f_X6_undo, f_X6_undo_J13, H.ok, if_true, bs9, e3, if_pos c1, a1]
    rfl
  | some T =>
    have hl := (List.getElem?_eq_some_iff.mp hT).1
    obtain ⟨N, hN⟩ : ∃ N, A.2.1.length = N + 1 := ⟨A.2.1.length - 1, by omega⟩
    have hN1 : A.2.1.length - 1 = N := by omega
    rw [hN1] at hT
    have c1 : ¬ nI A.2.1.length ≤ 0 := nI_nle (by omega) (by omega)
    have c4 : ¬ (1 : Int32) = 0 := by decide
    obtain ⟨h1, a1, a2, a3⟩ := M_holds0 H
    obtain ⟨I, F, J, H1, H2, H3, H4, H5, H6, H7⟩ := a2
    have i6 := H1.i6
    rw [H5.1, hN] at i6
    obtain ⟨h2, b1, b2, b3⟩ := H1.w6 (nI N)
    have H0 : cM h2 m (upd I 6 (nI N)) (upF F 1 (F 1)) J := by rw [upF_self]; exact b2
    obtain ⟨h3, q1, s3, q2, q3, q4⟩ := lpn_inv (b := f_X6_undo_L33 m) (fun j (z : Int32 × PH) => z.1 = nI j ∧ ∃ s', cM z.2 m (upd I 6 (nI N)) (upF F 1 s') J ∧ onM m h2 z.2 ∧ ∀ k, k < j → s' k = F 5 (84 * N + k)) (fun z => ∃ s', cM z m (upd I 6 (nI N)) (upF F 1 s') J ∧ onM m h2 z ∧ ∀ k, k < 84 → s' k = F 5 (84 * N + k)) 84 (by
      rintro j ⟨z1, z2⟩ hj ⟨i1, s', i2, i3, i4⟩
      dsimp only at i1 i2 i3
      subst i1
      have c1 : ¬ (84 : Int32) ≤ nI j := nI_ge (b := 84) (by omega) (by omega)
      have e0 : (84 : Int32) * nI N = nI (84 * N) := nI_mul 84 N
      have e6 := i2.i6
      rw [upd_s] at e6
      have l1 : ldI z2 (m + 4) (nI (84 * N + j)) = some (F 5 (84 * N + j)) := i2.l5 (show 84 * N + j < 504 by omega)
      obtain ⟨y1, d1, d2, d3⟩ := i2.s1' hj (F 5 (84 * N + j))
      refine ⟨(nI (j + 1), y1), ?_, rfl, _, d2, i3.tr d3, fun k hk => ?_⟩
      · simp only [f_X6_undo_L33, if_neg c1, i2.r5, e6, i2.r1, bs9, e0, nI_add, l1, d1, nI_1]
      · by_cases hkj : k = j
        · rw [hkj, upd_s]
        · rw [upd_n _ _ (by omega)]; exact i4 k (by omega)) (by
      rintro ⟨z1, z2⟩ ⟨i1, s', i2⟩
      dsimp only at i1 i2
      subst i1
      have c1 : (84 : Int32) ≤ nI 84 := nI_le (a := 84) (Nat.le_refl _) (by omega)
      refine ⟨z2, ?_, s', i2⟩
      simp only [f_X6_undo_L33, if_pos c1]) 84 0 LF (0, h2) (by omega) (by unfold LF; omega) ⟨rfl, F 1, H0, onM.rf, fun k hk => by omega⟩
    have k6 := q2.i6
    rw [upd_s] at k6
    have HT : repA s3 T := (H5.2 N T hT).kp (W.2.1 T (List.mem_of_getElem? hT)) (fun k hk => q4 k hk)
    refine ⟨h3, ?_, ⟨_, _, J, q2, (upd_n _ _ (by omega)).trans H2, HT, ⟨(upd_n _ _ (by omega)).trans H4.1, H4.2⟩, ⟨?_, fun k T' hk => ?_⟩, (upd_n _ _ (by omega)).trans H6, H7⟩, a3.tr (b3.tr q3)⟩
    · simp only [f_X6_undo, f_X6_undo_J13, f_X6_undo_J65, H.ok, if_true, bs9, e3, if_neg c1, a1, if_pos c4, i6, nI_pred, b1, q1, k6]
      rw [← hN1]
      rfl
    · rw [upd_s]
      show _ = nI (A.2.1.take (A.2.1.length - 1)).length
      rw [List.length_take, hN1, Nat.min_eq_left (by omega)]
    · have hk : (A.2.1.take (A.2.1.length - 1))[k]? = some T' := hk
      rw [List.getElem?_take] at hk
      split at hk
      · exact H5.2 k T' hk
      · cases hk
theorem M_op_keep (W : wfA A) (H : repM h m t A) : MW (f_X6_keep h m) h m (nI A.1.2.1.length) (A.1, A.2.1, some A.1, A.2.2.2) := by
  obtain ⟨I, F, J, H1, H2, H3, H4, H5, H6, H7⟩ := H
  obtain ⟨h1, a1, a2, a3⟩ := H1.w0 0
  have H0 : cM h1 m (upd I 0 0) (upF F 3 (F 3)) J := by rw [upF_self]; exact a2
  obtain ⟨h3, q1, s3, q2, q3, q4⟩ := lpn_inv (b := f_X6_keep_L7 m) (fun j (z : Int32 × PH) => z.1 = nI j ∧ ∃ s', cM z.2 m (upd I 0 0) (upF F 3 s') J ∧ onM m h1 z.2 ∧ ∀ k, k < j → s' k = F 1 k) (fun z => ∃ s', cM z m (upd I 0 0) (upF F 3 s') J ∧ onM m h1 z ∧ ∀ k, k < 84 → s' k = F 1 k) 84 (by
    rintro j ⟨z1, z2⟩ hj ⟨i1, s', i2, i3, i4⟩
    dsimp only at i1 i2 i3
    subst i1
    have c1 : ¬ (84 : Int32) ≤ nI j := nI_ge (b := 84) (by omega) (by omega)
    have l1 : ldI z2 (m + 1) (nI j) = some (F 1 j) := i2.l1 hj
    obtain ⟨y1, d1, d2, d3⟩ := i2.s3 hj (F 1 j)
    rw [upF_upF] at d2
    refine ⟨(nI (j + 1), y1), ?_, rfl, _, d2, i3.tr d3, fun k hk => ?_⟩
    · simp only [f_X6_keep_L7, if_neg c1, i2.r3, i2.r1, bs9, l1, d1, nI_1]
    · by_cases hkj : k = j
      · rw [hkj, upd_s]
      · rw [upd_n _ _ (by omega)]; exact i4 k (by omega)) (by
    rintro ⟨z1, z2⟩ ⟨i1, s', i2⟩
    dsimp only at i1 i2
    subst i1
    have c1 : (84 : Int32) ≤ nI 84 := nI_le (a := 84) (Nat.le_refl _) (by omega)
    refine ⟨z2, ?_, s', i2⟩
    simp only [f_X6_keep_L7, if_pos c1]) 84 0 LF (0, h1) (by omega) (by unfold LF; omega) ⟨rfl, F 3, H0, onM.rf, fun k hk => by omega⟩
  obtain ⟨h4, b1, b2, b3⟩ := q2.w4 1
  have l8 : ldI h4 (m + 1) (8 : Int32) = some (nI A.1.2.1.length) := (b2.l1 (i := 8) (by omega)).trans (congrArg some H3.2.1)
  have HT : repA s3 A.1 := H3.kp W.1 q4
  refine ⟨h4, ?_, ⟨_, _, J, b2, (upd_n _ _ (by omega)).trans (upd_s _ _ _), H3, ⟨upd_s _ _ _, fun T hT => by cases hT; exact HT⟩, ⟨(upd_n _ _ (by omega)).trans ((upd_n _ _ (by omega)).trans H5.1), H5.2⟩, (upd_n _ _ (by omega)).trans ((upd_n _ _ (by omega)).trans H6), H7⟩, a3.tr (q3.tr b3)⟩
  simp only [f_X6_keep, f_X6_keep_J31, H1.ok, if_true, bs9, a1, q1, b1, b2.r1, l8]
theorem M_op_restore (W : wfA A) (H : repM h m t A) : MK (f_X6_restore h m) h m A (sp_restore A) := by
  have e3 : rdI h m 5 4 = some (bI A.2.2.1.isSome) := by
    obtain ⟨I, F, J, H1, H2, H3, H4, H5, H6, H7⟩ := H
    exact H1.i4.trans (congrArg some H4.1)
  unfold MK sp_restore
  cases hK : A.2.2.1 with
  | none =>
    rw [hK] at e3
    have c1 : bI (none : Option TTt).isSome = 0 := rfl
    obtain ⟨h', a1, a2, a3⟩ := M_holds1 H (v := 1) (by decide)
    refine ⟨h', ?_, a2, a3⟩
    simp only [f_X6_restore, f_X6_restore_J13, H.ok, if_true, bs9, e3, if_pos c1, a1]
    rfl
  | some T =>
    rw [hK] at e3
    have c1 : ¬ bI (some T).isSome = 0 := by simp [bI]
    have c4 : ¬ (1 : Int32) = 0 := by decide
    obtain ⟨h1, a1, a2, a3⟩ := M_holds0 H
    obtain ⟨h2, b1, b2, b3⟩ := M_save W a2
    obtain ⟨I, F, J, H1, H2, H3, H4, H5, H6, H7⟩ := b2
    have H0 : cM h2 m I (upF F 1 (F 1)) J := by rw [upF_self]; exact H1
    obtain ⟨h3, q1, s3, q2, q3, q4⟩ := lpn_inv (b := f_X6_restore_L27 m) (fun j (z : Int32 × PH) => z.1 = nI j ∧ ∃ s', cM z.2 m I (upF F 1 s') J ∧ onM m h2 z.2 ∧ ∀ k, k < j → s' k = F 3 k) (fun z => ∃ s', cM z m I (upF F 1 s') J ∧ onM m h2 z ∧ ∀ k, k < 84 → s' k = F 3 k) 84 (by
      rintro j ⟨z1, z2⟩ hj ⟨i1, s', i2, i3, i4⟩
      dsimp only at i1 i2 i3
      subst i1
      have c1 : ¬ (84 : Int32) ≤ nI j := nI_ge (b := 84) (by omega) (by omega)
      have l1 : ldI z2 (m + 3) (nI j) = some (F 3 j) := i2.l3 hj
      obtain ⟨y1, d1, d2, d3⟩ := i2.s1' hj (F 3 j)
      refine ⟨(nI (j + 1), y1), ?_, rfl, _, d2, i3.tr d3, fun k hk => ?_⟩
      · simp only [f_X6_restore_L27, if_neg c1, i2.r1, i2.r3, bs9, l1, d1, nI_1]
      · by_cases hkj : k = j
        · rw [hkj, upd_s]
        · rw [upd_n _ _ (by omega)]; exact i4 k (by omega)) (by
      rintro ⟨z1, z2⟩ ⟨i1, s', i2⟩
      dsimp only at i1 i2
      subst i1
      have c1 : (84 : Int32) ≤ nI 84 := nI_le (a := 84) (Nat.le_refl _) (by omega)
      refine ⟨z2, ?_, s', i2⟩
      simp only [f_X6_restore_L27, if_pos c1]) 84 0 LF (0, h2) (by omega) (by unfold LF; omega) ⟨rfl, F 1, H0, onM.rf, fun k hk => by omega⟩
    have HT : repA s3 T := (H4.2 T hK).kp (W.2.2.2.1 T hK) (fun k hk => q4 k hk)
    have l8 : ldI h3 (m + 1) (8 : Int32) = some (nI T.2.1.length) := (q2.l1' (i := 8) (by omega)).trans (congrArg some HT.2.1)
    refine ⟨h3, ?_, ⟨_, _, J, q2, H2, HT, H4, H5, H6, H7⟩, a3.tr (b3.tr q3)⟩
    simp only [f_X6_restore, f_X6_restore_J13, f_X6_restore_J51, H.ok, if_true, bs9, e3, if_neg c1, a1, if_pos c4, b1, q1, q2.r1, l8]
    rfl
theorem M_op_place (W : wfA A) (H : repM h m t A) (a b : Int32) : ML (f_X6_place h m a b) h m A (sp_place A a b) := by
  have hR := W.1.2.1
  unfold ML sp_place
  cases hv : rng A.1.2.1.length a with
  | none =>
    obtain ⟨h', a1, a2, a3⟩ := M_holds1 H (v := 1) (by decide)
    refine ⟨h', ?_, a2, a3⟩
    have c2 : bI (none : Option Nat).isSome = 0 := rfl
    simp only [f_X6_place, f_X6_place_J33, f_X6_place_J34, f_X6_place_J50, H.ok, if_true, bs9, M_isRope' W H, hv, if_pos c2, a1]
    rfl
  | some i =>
    obtain ⟨v1, rfl⟩ := rng_some (by omega) hv
    have c2 : ¬ bI (some i).isSome = 0 := by simp [bI]
    have WR := W.1.2.2 _ (atR_mem v1)
    have h60 := WR.1.2
    obtain ⟨I0, F0, J0, s0, K0, KA0, -⟩ := H.opn
    have l0 := K0.l1' (show 12 + 18 * i < 84 by omega)
    rw [(KA0.q v1).1] at l0
    have e2 := M_rng h b (n := (atR A.1.2.1 i).1) (by omega)
    dsimp only
    cases hu : rng (atR A.1.2.1 i).1 b with
    | none =>
      obtain ⟨h', a1, a2, a3⟩ := M_holds1 H (v := 1) (by decide)
      refine ⟨h', ?_, a2, a3⟩
      rw [hu] at e2
      have c3 : bI (none : Option Nat).isSome = 0 := rfl
      simp only [f_X6_place, f_X6_place_J33, f_X6_place_J34, f_X6_place_J50, H.ok, if_true, bs9, M_isRope' W H, hv, if_neg c2, K0.r1, M_of0, l0, e2, if_pos c3, a1]
      rfl
    | some p =>
      obtain ⟨u1, rfl⟩ := rng_some (by omega) hu
      rw [hu] at e2
      have c3 : ¬ bI (some p).isSome = 0 := by simp [bI]
      have c4 : ¬ (1 : Int32) = 0 := by decide
      obtain ⟨h1, a1, a2, a3⟩ := M_holds0 H
      have e5 : f_X6_hueAt h1 m (nI i) (nI p) = some (oI (col A.1.1 (atR A.1.2.1 i).2 p)) := by
        obtain ⟨I, F, J, H1, H2, H3, -⟩ := a2
        exact M_hueAt H1 (show i < 4 by omega) (H3.q v1) H3.1 W.1.1 WR u1
      refine ⟨h1, ?_, a2, a3⟩
      simp only [f_X6_place, f_X6_place_J34, f_X6_place_J50, H.ok, if_true, bs9, M_isRope' W H, hv, if_neg c2, K0.r1, M_of0, l0, e2, if_neg c3, a1, if_neg c4, e5]
      rfl
theorem M_op_ropeOf (W : wfA A) (H : repM h m t A) (a b : Int32) : ML (f_X6_ropeOf h m a b) h m A (sp_ropeOf A a b) := by
  have hR := W.1.2.1
  have e2 : f_X6_in h b 0 (5 : Int32) = some (bI (rng 6 b).isSome) := M_rng h b (n := 6) (by omega)
  unfold ML sp_ropeOf
  cases hv : rng A.1.2.1.length a with
  | none =>
    obtain ⟨h', a1, a2, a3⟩ := M_holds1 H (v := 1) (by decide)
    refine ⟨h', ?_, a2, a3⟩
    have c2 : ¬ ¬ bI (none : Option Nat).isSome = 0 := fun q => q rfl
    simp only [f_X6_ropeOf, f_X6_ropeOf_J27, f_X6_ropeOf_J43, H.ok, if_true, bs9, M_isRope' W H, hv, if_neg c2, a1]
    rfl
  | some i =>
    obtain ⟨v1, rfl⟩ := rng_some (by omega) hv
    have c2 : ¬ bI (some i).isSome = 0 := by simp [bI]
    have WR := W.1.2.2 _ (atR_mem v1)
    dsimp only
    cases hu : rng 6 b with
    | none =>
      obtain ⟨h', a1, a2, a3⟩ := M_holds1 H (v := 2) (by decide)
      refine ⟨h', ?_, a2, a3⟩
      rw [hu] at e2
      have c3 : ¬ ¬ bI (none : Option Nat).isSome = 0 := fun q => q rfl
      simp only [f_X6_ropeOf, f_X6_ropeOf_J27, f_X6_ropeOf_J43, H.ok, if_true, bs9, M_isRope' W H, hv, if_pos c2, e2, if_neg c3, a1]
      rfl
    | some w =>
      obtain ⟨u1, rfl⟩ := rng_some (by omega) hu
      rw [hu] at e2
      have c3 : ¬ bI (some w).isSome = 0 := by simp [bI]
      have c4 : ¬ (1 : Int32) = 0 := by decide
      obtain ⟨h1, a1, a2, a3⟩ := M_holds0 H
      have e5 : f_X6_toldOfRope h1 m (nI i) (nI w) = some (rnA A.1.1 (atR A.1.2.1 i) w) := by
        obtain ⟨I, F, J, H1, H2, H3, -⟩ := a2
        exact M_toldOfRope H1 (show i < 4 by omega) (H3.q v1) H3.1 W.1.1 WR u1
      refine ⟨h1, ?_, a2, a3⟩
      simp only [f_X6_ropeOf, f_X6_ropeOf_J27, f_X6_ropeOf_J43, H.ok, if_true, bs9, M_isRope' W H, hv, if_pos c2, e2, if_pos c3, a1, if_neg c4, e5]
      rfl
theorem M_op_gapOf (W : wfA A) (H : repM h m t A) (a : Int32) : ML (f_X6_gapOf h m a) h m A (sp_gapOf A a) := by
  unfold ML sp_gapOf
  cases hv : rng 8 a with
  | none =>
    obtain ⟨h', a1, a2, a3⟩ := M_holds1 H (v := 1) (by decide)
    refine ⟨h', ?_, a2, a3⟩
    have c2 : bI (none : Option Nat).isSome = 0 := rfl
    simp only [f_X6_gapOf, f_X6_gapOf_J13, f_X6_gapOf_J31, H.ok, if_true, bs9, M_isHue, hv, if_pos c2, a1]
    rfl
  | some u =>
    obtain ⟨v1, rfl⟩ := rng_some (by omega) hv
    have c2 : ¬ bI (some u).isSome = 0 := by simp [bI]
    have c4 : ¬ (1 : Int32) = 0 := by decide
    obtain ⟨h1, a1, a2, a3⟩ := M_holds0 H
    obtain ⟨I, F, J, s, K, KA, -⟩ := a2.opn
    have l1 := K.l1' (show u < 84 by omega)
    rw [KA.1 u v1] at l1
    refine ⟨h1, ?_, a2, a3⟩
    simp only [f_X6_gapOf, f_X6_gapOf_J13, f_X6_gapOf_J31, H.ok, if_true, bs9, M_isHue, hv, if_neg c2, a1, if_neg c4, K.r1, z0, l1]
    rfl
theorem M_op_count (W : wfA A) (H : repM h m t A) (a : Int32) : ML (f_X6_count h m a) h m A (sp_count A a) := by
  have e2 : f_X6_in h a 0 (7 : Int32) = some (bI (rng 8 a).isSome) := M_rng h a (n := 8) (by omega)
  unfold ML sp_count
  cases hv : rng 8 a with
  | none =>
    obtain ⟨h', a1, a2, a3⟩ := M_holds1 H (v := 1) (by decide)
    refine ⟨h', ?_, a2, a3⟩
    rw [hv] at e2
    have c2 : bI (none : Option Nat).isSome = 0 := rfl
    simp only [f_X6_count, f_X6_count_J16, f_X6_count_J31, H.ok, if_true, bs9, e2, if_pos c2, a1]
    rfl
  | some w =>
    obtain ⟨v1, rfl⟩ := rng_some (by omega) hv
    rw [hv] at e2
    have c2 : ¬ bI (some w).isSome = 0 := by simp [bI]
    have c4 : ¬ (1 : Int32) = 0 := by decide
    obtain ⟨h1, a1, a2, a3⟩ := M_holds0 H
    have e5 : f_X6_counted h1 m (nI w) = some (cntA A w) := by
      obtain ⟨I, F, J, H1, H2, H3, H4, H5, -⟩ := a2
      exact M_counted H1 H3 H5.1 W.1 v1
    refine ⟨h1, ?_, a2, a3⟩
    simp only [f_X6_count, f_X6_count_J16, f_X6_count_J31, H.ok, if_true, bs9, e2, if_neg c2, a1, if_neg c4, e5]
    rfl
theorem M_op_bestHue (W : wfA A) (H : repM h m t A) (a : Int32) : ML (f_X6_bestHue h m a) h m A (sp_bestHue A a) := by
  have hR := W.1.2.1
  unfold ML sp_bestHue
  cases hv : rng A.1.2.1.length a with
  | none =>
    obtain ⟨h', a1, a2, a3⟩ := M_holds1 H (v := 1) (by decide)
    refine ⟨h', ?_, a2, a3⟩
    have c2 : bI (none : Option Nat).isSome = 0 := rfl
    simp only [f_X6_bestHue, f_X6_bestHue_J14, f_X6_bestHue_J29, H.ok, if_true, bs9, M_isRope' W H, hv, if_pos c2, a1]
    rfl
  | some i =>
    obtain ⟨v1, rfl⟩ := rng_some (by omega) hv
    have c2 : ¬ bI (some i).isSome = 0 := by simp [bI]
    have WR := W.1.2.2 _ (atR_mem v1)
    have c4 : ¬ (1 : Int32) = 0 := by decide
    obtain ⟨h1, a1, a2, a3⟩ := M_holds0 H
    have e5 : f_X6_best h1 m (nI i) = some (oI (bstA A.1.1 (atR A.1.2.1 i).1 (atR A.1.2.1 i).2 8).1) := by
      obtain ⟨I, F, J, H1, H2, H3, -⟩ := a2
      exact M_best H1 (show i < 4 by omega) (H3.q v1) H3.1 W.1.1 WR
    refine ⟨h1, ?_, a2, a3⟩
    simp only [f_X6_bestHue, f_X6_bestHue_J14, f_X6_bestHue_J29, H.ok, if_true, bs9, M_isRope' W H, hv, if_neg c2, a1, if_neg c4, e5]
    rfl
theorem M_op_greatest (W : wfA A) (H : repM h m t A) (a : Int32) : ML (f_X6_greatest h m a) h m A (sp_greatest A a) := by
  have hR := W.1.2.1
  unfold ML sp_greatest
  cases hv : rng A.1.2.1.length a with
  | none =>
    obtain ⟨h', a1, a2, a3⟩ := M_holds1 H (v := 1) (by decide)
    refine ⟨h', ?_, a2, a3⟩
    have c2 : bI (none : Option Nat).isSome = 0 := rfl
    simp only [f_X6_greatest, f_X6_greatest_J14, f_X6_greatest_J29, H.ok, if_true, bs9, M_isRope' W H, hv, if_pos c2, a1]
    rfl
  | some i =>
    obtain ⟨v1, rfl⟩ := rng_some (by omega) hv
    have c2 : ¬ bI (some i).isSome = 0 := by simp [bI]
    have WR := W.1.2.2 _ (atR_mem v1)
    have c4 : ¬ (1 : Int32) = 0 := by decide
    obtain ⟨h1, a1, a2, a3⟩ := M_holds0 H
    have e5 : f_X6_clash h1 m (nI i) = some (nI (clashA A.1.1 (atR A.1.2.1 i).2)) := by
      obtain ⟨I, F, J, H1, H2, H3, -⟩ := a2
      exact M_clash H1 (show i < 4 by omega) (H3.q v1) H3.1 W.1.1 WR.q
    refine ⟨h1, ?_, a2, a3⟩
    simp only [f_X6_greatest, f_X6_greatest_J14, f_X6_greatest_J29, H.ok, if_true, bs9, M_isRope' W H, hv, if_neg c2, a1, if_neg c4, e5]
    rfl
theorem M_op_hueOf (W : wfA A) (H : repM h m t A) (a b c : Int32) : ML (f_X6_hueOf h m a b c) h m A (sp_hueOf A a b c) := by
  have hR := W.1.2.1
  have e2 : f_X6_in h c 0 (3 : Int32) = some (bI (rng 4 c).isSome) := M_rng h c (n := 4) (by omega)
  unfold ML sp_hueOf
  cases hv : rng A.1.2.1.length a with
  | none =>
    obtain ⟨h', a1, a2, a3⟩ := M_holds1 H (v := 1) (by decide)
    refine ⟨h', ?_, a2, a3⟩
    have c2 : ¬ ¬ bI ((none : Option Nat).isSome && (rng 8 b).isSome) = 0 := fun q => q rfl
    simp only [f_X6_hueOf, f_X6_hueOf_J28, f_X6_hueOf_J45, H.ok, if_true, bs9, M_areThere' W H, hv, if_neg c2, a1]
    rfl
  | some i =>
    obtain ⟨v1, rfl⟩ := rng_some (by omega) hv
    dsimp only
    cases hu : rng 8 b with
    | none =>
      obtain ⟨h', a1, a2, a3⟩ := M_holds1 H (v := 1) (by decide)
      refine ⟨h', ?_, a2, a3⟩
      have c2 : ¬ ¬ bI ((some i).isSome && (none : Option Nat).isSome) = 0 := fun q => q rfl
      simp only [f_X6_hueOf, f_X6_hueOf_J28, f_X6_hueOf_J45, H.ok, if_true, bs9, M_areThere' W H, hv, hu, if_neg c2, a1]
      rfl
    | some u =>
      obtain ⟨u1, rfl⟩ := rng_some (by omega) hu
      have c2 : ¬ bI ((some i).isSome && (some u).isSome) = 0 := by simp [bI]
      have WR := W.1.2.2 _ (atR_mem v1)
      dsimp only
      cases hw : rng 4 c with
      | none =>
        obtain ⟨h', a1, a2, a3⟩ := M_holds1 H (v := 2) (by decide)
        refine ⟨h', ?_, a2, a3⟩
        rw [hw] at e2
        have c3 : ¬ ¬ bI (none : Option Nat).isSome = 0 := fun q => q rfl
        simp only [f_X6_hueOf, f_X6_hueOf_J28, f_X6_hueOf_J45, H.ok, if_true, bs9, M_areThere' W H, hv, hu, if_pos c2, e2, if_neg c3, a1]
        rfl
      | some w =>
        obtain ⟨w1, rfl⟩ := rng_some (by omega) hw
        rw [hw] at e2
        have c3 : ¬ bI (some w).isSome = 0 := by simp [bI]
        have c4 : ¬ (1 : Int32) = 0 := by decide
        obtain ⟨h1, a1, a2, a3⟩ := M_holds0 H
        have e5 : f_X6_toldOfHue h1 m (nI i) (nI u) (nI w) = some (hnA A.1.1 (atR A.1.2.1 i).1 (atR A.1.2.1 i).2 u w) := by
          obtain ⟨I, F, J, H1, H2, H3, -⟩ := a2
          exact M_toldOfHue H1 (show i < 4 by omega) (H3.q v1) H3.1 W.1.1 WR u1 w1
        refine ⟨h1, ?_, a2, a3⟩
        simp only [f_X6_hueOf, f_X6_hueOf_J28, f_X6_hueOf_J45, H.ok, if_true, bs9, M_areThere' W H, hv, hu, if_pos c2, e2, if_pos c3, a1, if_neg c4, e5]
        rfl
theorem M_op_phases (W : wfA A) (H : repM h m t A) (a b c : Int32) : ML (f_X6_phases h m a b c) h m A (sp_phases A a b c) := by
  have hR := W.1.2.1
  have e2 : f_X6_in h c 0 (2 : Int32) = some (bI (rng 3 c).isSome) := M_rng h c (n := 3) (by omega)
  unfold ML sp_phases
  cases hv : rng A.1.2.1.length a with
  | none =>
    obtain ⟨h', a1, a2, a3⟩ := M_holds1 H (v := 1) (by decide)
    refine ⟨h', ?_, a2, a3⟩
    have c2 : ¬ ¬ bI ((none : Option Nat).isSome && (rng 8 b).isSome) = 0 := fun q => q rfl
    simp only [f_X6_phases, f_X6_phases_J28, f_X6_phases_J45, H.ok, if_true, bs9, M_areThere' W H, hv, if_neg c2, a1]
    rfl
  | some i =>
    obtain ⟨v1, rfl⟩ := rng_some (by omega) hv
    dsimp only
    cases hu : rng 8 b with
    | none =>
      obtain ⟨h', a1, a2, a3⟩ := M_holds1 H (v := 1) (by decide)
      refine ⟨h', ?_, a2, a3⟩
      have c2 : ¬ ¬ bI ((some i).isSome && (none : Option Nat).isSome) = 0 := fun q => q rfl
      simp only [f_X6_phases, f_X6_phases_J28, f_X6_phases_J45, H.ok, if_true, bs9, M_areThere' W H, hv, hu, if_neg c2, a1]
      rfl
    | some u =>
      obtain ⟨u1, rfl⟩ := rng_some (by omega) hu
      have c2 : ¬ bI ((some i).isSome && (some u).isSome) = 0 := by simp [bI]
      have WR := W.1.2.2 _ (atR_mem v1)
      dsimp only
      cases hw : rng 3 c with
      | none =>
        obtain ⟨h', a1, a2, a3⟩ := M_holds1 H (v := 2) (by decide)
        refine ⟨h', ?_, a2, a3⟩
        rw [hw] at e2
        have c3 : ¬ ¬ bI (none : Option Nat).isSome = 0 := fun q => q rfl
        simp only [f_X6_phases, f_X6_phases_J28, f_X6_phases_J45, H.ok, if_true, bs9, M_areThere' W H, hv, hu, if_pos c2, e2, if_neg c3, a1]
        rfl
      | some w =>
        obtain ⟨w1, rfl⟩ := rng_some (by omega) hw
        rw [hw] at e2
        have c3 : ¬ bI (some w).isSome = 0 := by simp [bI]
        have c4 : ¬ (1 : Int32) = 0 := by decide
        obtain ⟨h1, a1, a2, a3⟩ := M_holds0 H
        have e5 : f_X6_toldOfPhases h1 m (nI i) (nI u) (nI w) = some (pnA A.1.1 (atR A.1.2.1 i).1 (atR A.1.2.1 i).2 u w) := by
          obtain ⟨I, F, J, H1, H2, H3, -⟩ := a2
          exact M_toldOfPhases H1 (show i < 4 by omega) (H3.q v1) H3.1 W.1.1 WR u1 w1
        refine ⟨h1, ?_, a2, a3⟩
        simp only [f_X6_phases, f_X6_phases_J28, f_X6_phases_J45, H.ok, if_true, bs9, M_areThere' W H, hv, hu, if_pos c2, e2, if_pos c3, a1, if_neg c4, e5]
        rfl
theorem M_op_refusal (W : wfA A) (H : repM h m t A) (a b c : Int32) : ML (f_X6_refusal h m a b c) h m A (sp_refusal A a b c) := by
  have hR := W.1.2.1
  unfold ML sp_refusal
  cases hv : rng A.1.2.1.length a with
  | none =>
    obtain ⟨h', a1, a2, a3⟩ := M_holds1 H (v := 1) (by decide)
    refine ⟨h', ?_, a2, a3⟩
    have c2 : ¬ ¬ bI ((none : Option Nat).isSome && (rng 8 b).isSome) = 0 := fun q => q rfl
    simp only [f_X6_refusal, f_X6_refusal_J28, f_X6_refusal_J45, H.ok, if_true, bs9, M_areThere' W H, hv, if_neg c2, a1]
    rfl
  | some i =>
    obtain ⟨v1, rfl⟩ := rng_some (by omega) hv
    dsimp only
    cases hu : rng 8 b with
    | none =>
      obtain ⟨h', a1, a2, a3⟩ := M_holds1 H (v := 1) (by decide)
      refine ⟨h', ?_, a2, a3⟩
      have c2 : ¬ ¬ bI ((some i).isSome && (none : Option Nat).isSome) = 0 := fun q => q rfl
      simp only [f_X6_refusal, f_X6_refusal_J28, f_X6_refusal_J45, H.ok, if_true, bs9, M_areThere' W H, hv, hu, if_neg c2, a1]
      rfl
    | some u =>
      obtain ⟨u1, rfl⟩ := rng_some (by omega) hu
      have c2 : ¬ bI ((some i).isSome && (some u).isSome) = 0 := by simp [bI]
      have WR := W.1.2.2 _ (atR_mem v1)
      have hgu := W.1.1 u
      dsimp only
      cases hw : rng (A.1.1 u) c with
      | none =>
        obtain ⟨h', a1, a2, a3⟩ := M_holds1 H (v := 2) (by decide)
        refine ⟨h', ?_, a2, a3⟩
        have c3 : ¬ ¬ bI (none : Option Nat).isSome = 0 := fun q => q rfl
        simp only [f_X6_refusal, f_X6_refusal_J28, f_X6_refusal_J45, H.ok, if_true, bs9, M_areThere' W H, hv, hu, if_pos c2, M_isPhase' W H u1, hw, if_neg c3, a1]
        rfl
      | some p =>
        obtain ⟨w1, rfl⟩ := rng_some (by omega) hw
        have c3 : ¬ bI (some p).isSome = 0 := by simp [bI]
        have c4 : ¬ (1 : Int32) = 0 := by decide
        obtain ⟨h1, a1, a2, a3⟩ := M_holds0 H
        have e5 : f_X6_why h1 m (nI i) (nI u) (nI p) = some (nI (whyA A.1.1 (atR A.1.2.1 i).1 (atR A.1.2.1 i).2 u p)) := by
          obtain ⟨I, F, J, H1, H2, H3, -⟩ := a2
          exact M_why H1 (show i < 4 by omega) (H3.q v1) H3.1 W.1.1 WR u1 (by omega)
        refine ⟨h1, ?_, a2, a3⟩
        simp only [f_X6_refusal, f_X6_refusal_J28, f_X6_refusal_J45, H.ok, if_true, bs9, M_areThere' W H, hv, hu, if_pos c2, M_isPhase' W H u1, hw, if_pos c3, a1, if_neg c4, e5]
        rfl
theorem M_op_meet (W : wfA A) (H : repM h m t A) (a b c d : Int32) : ML (f_X6_meeting h m a b c d) h m A (sp_meet A a b c d) ∧ ML (f_X6_walked h m a b c d) h m A (sp_meet A a b c d) := by
  have key : ∃ h', f_X6_canMeet h m a b c d = some ((match sp_meet A a b c d with | .error _ => (0 : Int32) | .ok _ => 1), h') ∧ repM h' m (outTL (sp_meet A a b c d)) A ∧ onM m h h' ∧ ∀ v, sp_meet A a b c d = .ok v → f_X6_meet h' m a b c d = some v := by
    unfold sp_meet
    cases hv : rng 8 a with
    | none =>
      obtain ⟨h', a1, a2, a3⟩ := M_holds1 H (v := 1) (by decide)
      refine ⟨h', ?_, a2, a3, fun v hv => by cases hv⟩
      have c2 : bI (none : Option Nat).isSome = 0 := rfl
      have c3 : ¬ ¬ (0 : Int32) = 0 := fun q => q rfl
      simp only [f_X6_canMeet, f_X6_canMeet_J18, f_X6_canMeet_J19, f_X6_canMeet_J55, H.ok, if_true, bs9, M_isHue, hv, if_pos c2, if_neg c3, a1]
      rfl
    | some u =>
      obtain ⟨v1, rfl⟩ := rng_some (by omega) hv
      have c2 : ¬ bI (some u).isSome = 0 := by simp [bI]
      dsimp only
      cases hw : rng 8 c with
      | none =>
        obtain ⟨h', a1, a2, a3⟩ := M_holds1 H (v := 1) (by decide)
        refine ⟨h', ?_, a2, a3, fun v hv => by cases hv⟩
        have c4 : bI (none : Option Nat).isSome = 0 := rfl
        have c3 : ¬ ¬ (0 : Int32) = 0 := fun q => q rfl
        simp only [f_X6_canMeet, f_X6_canMeet_J18, f_X6_canMeet_J19, f_X6_canMeet_J55, H.ok, if_true, bs9, M_isHue, hv, if_neg c2, hw, if_pos c4, if_neg c3, a1]
        rfl
      | some v =>
        obtain ⟨w1, rfl⟩ := rng_some (by omega) hw
        have c4 : ¬ bI (some v).isSome = 0 := by simp [bI]
        have c3 : ¬ (1 : Int32) = 0 := by decide
        have hgu := W.1.1 u
        have hgv := W.1.1 v
        dsimp only
        cases hp : rng (A.1.1 u) b with
        | none =>
          obtain ⟨h', a1, a2, a3⟩ := M_holds1 H (v := 2) (by decide)
          refine ⟨h', ?_, a2, a3, fun v hv => by cases hv⟩
          have c5 : bI (none : Option Nat).isSome = 0 := rfl
          simp only [f_X6_canMeet, f_X6_canMeet_J19, f_X6_canMeet_J50, f_X6_canMeet_J55, H.ok, if_true, bs9, M_isHue, hv, if_neg c2, hw, if_neg c4, if_pos c3, M_isPhase' W H v1, hp, if_pos c5, a1]
          rfl
        | some p =>
          obtain ⟨p1, rfl⟩ := rng_some (by omega) hp
          have c5 : ¬ bI (some p).isSome = 0 := by simp [bI]
          dsimp only
          cases hq : rng (A.1.1 v) d with
          | none =>
            obtain ⟨h', a1, a2, a3⟩ := M_holds1 H (v := 2) (by decide)
            refine ⟨h', ?_, a2, a3, fun v hv => by cases hv⟩
            have c6 : ¬ ¬ bI (none : Option Nat).isSome = 0 := fun q => q rfl
            simp only [f_X6_canMeet, f_X6_canMeet_J19, f_X6_canMeet_J50, f_X6_canMeet_J55, H.ok, if_true, bs9, M_isHue, hv, if_neg c2, hw, if_neg c4, if_pos c3, M_isPhase' W H v1, hp, if_neg c5, M_isPhase' W H w1, hq, if_neg c6, a1]
            rfl
          | some q =>
            obtain ⟨q1, rfl⟩ := rng_some (by omega) hq
            have c6 : ¬ bI (some q).isSome = 0 := by simp [bI]
            obtain ⟨h1, a1, a2, a3⟩ := M_holds0 H
            refine ⟨h1, ?_, a2, a3, fun x hx => ?_⟩
            · simp only [f_X6_canMeet, f_X6_canMeet_J19, f_X6_canMeet_J55, H.ok, if_true, bs9, M_isHue, hv, if_neg c2, hw, if_neg c4, if_pos c3, M_isPhase' W H v1, hp, if_neg c5, M_isPhase' W H w1, hq, if_pos c6, a1]
              rfl
            · cases hx
              obtain ⟨I, F, J, H1, H2, H3, -⟩ := a2
              exact M_meet H1 H3.1 W.1.1 v1 w1 p1 q1
  obtain ⟨h', k1, k2, k3, k4⟩ := key
  have c1 : ¬ (1 : Int32) = 0 := by decide
  cases hs : sp_meet A a b c d with
  | error k =>
    rw [hs] at k1 k2
    constructor
    · refine ⟨h', ?_, k2, k3⟩
      simp only [f_X6_meeting, f_X6_meeting_J25, H.ok, if_true, k1, bs9]
      rfl
    · refine ⟨h', ?_, k2, k3⟩
      simp only [f_X6_walked, f_X6_walked_J25, H.ok, if_true, k1, bs9]
      rfl
  | ok v =>
    rw [hs] at k1 k2
    have k5 := k4 v hs
    constructor
    · refine ⟨h', ?_, k2, k3⟩
      simp only [f_X6_meeting, f_X6_meeting_J25, H.ok, if_true, k1, bs9, if_neg c1, k5]
      rfl
    · refine ⟨h', ?_, k2, k3⟩
      simp only [f_X6_walked, f_X6_walked_J25, H.ok, if_true, k1, bs9, if_neg c1, k5]
      rfl
theorem M_op_fullness (W : wfA A) (H : repM h m t A) : ∃ h', f_X6_fullness h m = some (shrA A, h') ∧ repM h' m 0 A ∧ onM m h h' := by
  obtain ⟨I, F, J, H1, H2, H3⟩ := H
  obtain ⟨h', e1, e2, e3⟩ := H1.w0 0
  refine ⟨h', ?_, ⟨_, F, J, e2, upd_s _ _ _, H3⟩, e3⟩
  simp only [f_X6_fullness, H1.ok, if_true, e1, bs9, M_share e2 H3.1 W]
end ModelOps3
