/-! PURE READING, 33: the reference does what each call is to do: gap, rope, drop, lay, take -/
def outV : Except Nat (Int32 × AAt) → Int32
  | .error _ => 0
  | .ok v => v.1
def outT : Except Nat (Int32 × AAt) → Int32
  | .error k => nI k
  | .ok _ => 0
def MK (f : Option (Int32 × PH)) (h : PH) (m : Nat) (A : AAt) (sp : Except Nat (Int32 × AAt)) : Prop := ∃ h', f = some (outV sp, h') ∧ repM h' m (outT sp) (nxt A sp) ∧ onM m h h'
theorem repA.kp {s s' : Nat → Int32} {T : TTt} (H : repA s T) (W : wfT T) (h : ∀ k, k < 84 → s' k = s k) : repA s' T := by
  obtain ⟨A1, A2, ⟨A3, A4, A5⟩, A6⟩ := H
  have hR := W.2.1
  refine ⟨fun u hu => (h u (by omega)).trans (A1 u hu), (h 8 (by omega)).trans A2, ⟨(h 9 (by omega)).trans A3, (h 10 (by omega)).trans A4, (h 11 (by omega)).trans A5⟩, fun j Y hj => ?_⟩
  have := (List.getElem?_eq_some_iff.mp hj).1
  exact (A6 j Y hj).kp (W.2.2 Y (List.mem_of_getElem? hj)).le8 (fun t t1 t2 => h t (by omega))
section ModelOps
variable {h : PH} {m : Nat} {I : Nat → Int32} {F : Nat → Nat → Int32} {J : Int64} {t : Int32} {A : AAt}
theorem repM.opn (H : repM h m t A) : ∃ I F J s, cM h m I (upF F 1 s) J ∧ repA s A.1 ∧ ∀ {h' : PH} {F' : Nat → Nat → Int32} {J' : Int64} {s' : Nat → Int32} {T' : TTt}, cM h' m I (upF F' 1 s') J' → F' 3 = F 3 → F' 5 = F 5 → F' 7 = F 7 → repA s' T' → repM h' m t (T', A.2) := by
  obtain ⟨I, F, J, H1, H2, H3, H4, H5, H6, H7⟩ := H
  refine ⟨I, F, J, F 1, by rw [upF_self]; exact H1, H3, fun {h' F' J' s' T'} K k3 k5 k7 HA => ⟨I, upF F' 1 s', J', K, H2, HA, ⟨H4.1, fun T hT => ?_⟩, ⟨H5.1, fun k T hT => ?_⟩, H6, fun i c hc => ?_⟩⟩
  · show repA (F' 3) T
    rw [k3]
    exact H4.2 T hT
  · show repA (fun j => F' 5 (84 * k + j)) T
    rw [k5]
    exact H5.2 k T hT
  · show F' 7 i = _
    rw [k7]
    exact H7 i c hc
theorem M_holds (H : repM h m t A) (v : Int32) : ∃ h', f_X6_holds h m v = some (if v = 0 then 1 else 0, h') ∧ repM h' m v A ∧ onM m h h' := by
  obtain ⟨I, F, J, H1, H2, H3⟩ := H
  obtain ⟨h', e1, e2, e3⟩ := H1.w0 v
  refine ⟨h', ?_, ⟨_, F, J, e2, upd_s _ _ _, H3⟩, e3⟩
  by_cases hv : v = 0
  · have c1 : ¬ ¬ v = 0 := fun q => q hv
    simp only [f_X6_holds, f_X6_holds_J14, H1.ok, if_true, e1, bs9, if_neg c1, if_pos hv]
    rfl
  · simp only [f_X6_holds, f_X6_holds_J14, H1.ok, if_true, e1, bs9, if_pos hv, if_neg hv]
    rfl
theorem M_holds1 (H : repM h m t A) {v : Int32} (hv : ¬ v = 0) : ∃ h', f_X6_holds h m v = some (0, h') ∧ repM h' m v A ∧ onM m h h' := by
  obtain ⟨h', e1, e2, e3⟩ := M_holds H v
  rw [if_neg hv] at e1
  exact ⟨h', e1, e2, e3⟩
theorem M_holds0 (H : repM h m t A) : ∃ h', f_X6_holds h m 0 = some (1, h') ∧ repM h' m 0 A ∧ onM m h h' := M_holds H 0
theorem M_save49 (H : cM h m I F J) {n : Nat} (hn : n ≤ 5) (h6 : I 6 = nI n) : ∃ h' f5, f_X6_save_J49 h m = some h' ∧ cM h' m (upd I 6 (nI (n + 1))) (upF F 5 f5) J ∧ onM m h h' ∧ (∀ k, k < 84 → f5 (84 * n + k) = F 1 k) ∧ ∀ k, k < 84 * n → f5 k = F 5 k := by
  have H0 : cM h m I (upF F 5 (F 5)) J := by rw [upF_self]; exact H
  obtain ⟨h3, q1, o3, q2, q3, q4, q5⟩ := lpn_inv (b := f_X6_save_L51 m) (fun j (z : Int32 × PH) => z.1 = nI j ∧ ∃ o, cM z.2 m I (upF F 5 o) J ∧ onM m h z.2 ∧ (∀ k, k < j → o (84 * n + k) = F 1 k) ∧ ∀ k, k < 84 * n → o k = F 5 k) (fun z => ∃ o, cM z m I (upF F 5 o) J ∧ onM m h z ∧ (∀ k, k < 84 → o (84 * n + k) = F 1 k) ∧ ∀ k, k < 84 * n → o k = F 5 k) 84 (by
    rintro j ⟨z1, z2⟩ hj ⟨i1, o', i2, i3, i4, i5⟩
    dsimp only at i1 i2 i3
    subst i1
    have c1 : ¬ (84 : Int32) ≤ nI j := nI_ge (b := 84) (by omega) (by omega)
    have e0 : (84 : Int32) * nI n = nI (84 * n) := nI_mul 84 n
    have e6 := i2.i6
    rw [h6] at e6
    have l1 : ldI z2 (m + 1) (nI j) = some (F 1 j) := i2.l1 hj
    obtain ⟨y1, d1, d2, d3⟩ := i2.s5 (show 84 * n + j < 504 by omega) (F 1 j)
    rw [upF_upF] at d2
    refine ⟨(nI (j + 1), y1), ?_, rfl, _, d2, i3.tr d3, fun k hk => ?_, fun k hk => ?_⟩
    · simp only [f_X6_save_L51, if_neg c1, i2.r5, e6, i2.r1, l1, bs9, e0, nI_add, d1, nI_1]
    · by_cases hkj : k = j
      · rw [hkj, upd_s]
      · rw [upd_n _ _ (by omega)]; exact i4 k (by omega)
    · rw [upd_n _ _ (by omega)]; exact i5 k hk) (by
    rintro ⟨z1, z2⟩ ⟨i1, o', i2⟩
    dsimp only at i1 i2
    subst i1
    have c1 : (84 : Int32) ≤ nI 84 := nI_le (a := 84) (Nat.le_refl _) (by omega)
    refine ⟨z2, ?_, o', i2⟩
    simp only [f_X6_save_L51, if_pos c1]) 84 0 LF (0, h) (by omega) (by unfold LF; omega) ⟨rfl, F 5, H0, onM.rf, fun k hk => by omega, fun k hk => rfl⟩
  have e6 := q2.i6
  rw [h6] at e6
  obtain ⟨h4, d1, d2, d3⟩ := q2.w6 (nI (n + 1))
  refine ⟨h4, o3, ?_, d2, q3.tr d3, q4, q5⟩
  simp only [f_X6_save_J49, f_X6_save_J83, q1, e6, bs9, nI_1, d1]
theorem M_save (W : wfA A) (H : repM h m t A) : ∃ h', f_X6_save h m = some h' ∧ repM h' m t (svA A) ∧ onM m h h' := by
  obtain ⟨I, F, J, H1, H2, H3, H4, H5, H6, H7⟩ := H
  obtain ⟨W1, W2, W3, W4, W5⟩ := W
  have e6 := H1.i6
  rw [H5.1] at e6
  by_cases hn : A.2.1.length = 6
  · have c1 : ¬ ¬ nI A.2.1.length = (6 : Int32) := fun q => q (by rw [hn]; rfl)
    have H0 : cM h m I (upF F 5 (F 5)) J := by rw [upF_self]; exact H1
    obtain ⟨h1, q1, o1, q2, q3, q4⟩ := lpn_inv (b := f_X6_save_L11 m) (fun j (z : Int32 × PH) => z.1 = nI j ∧ ∃ o, cM z.2 m I (upF F 5 o) J ∧ onM m h z.2 ∧ (∀ k, k < j → o k = F 5 (84 + k)) ∧ ∀ k, j ≤ k → o k = F 5 k) (fun z => ∃ o, cM z m I (upF F 5 o) J ∧ onM m h z ∧ ∀ k, k < 420 → o k = F 5 (84 + k)) 420 (by
      rintro j ⟨z1, z2⟩ hj ⟨i1, o', i2, i3, i4, i5⟩
      dsimp only at i1 i2 i3
      subst i1
      have c1 : ¬ (420 : Int32) ≤ nI j := nI_ge (b := 420) (by omega) (by omega)
      have e0 : (84 : Int32) + nI j = nI (84 + j) := nI_add 84 j
      have l5 : ldI z2 (m + 4) (nI (84 + j)) = some (F 5 (84 + j)) := (i2.l5 (show 84 + j < 504 by omega)).trans (congrArg some (i5 (84 + j) (by omega)))
      obtain ⟨y1, d1, d2, d3⟩ := i2.s5 (show j < 504 by omega) (F 5 (84 + j))
      rw [upF_upF] at d2
      refine ⟨(nI (j + 1), y1), ?_, rfl, _, d2, i3.tr d3, fun k hk => ?_, fun k hk => ?_⟩
      · simp only [f_X6_save_L11, if_neg c1, i2.r5, e0, l5, bs9, d1, nI_1]
      · by_cases hkj : k = j
        · rw [hkj, upd_s]
        · rw [upd_n _ _ (by omega)]; exact i4 k (by omega)
      · rw [upd_n _ _ (by omega)]; exact i5 k (by omega)) (by
      rintro ⟨z1, z2⟩ ⟨i1, o', i2, i3, i4, i5⟩
      dsimp only at i1 i2 i3
      subst i1
      have c1 : (420 : Int32) ≤ nI 420 := nI_le (a := 420) (Nat.le_refl _) (by omega)
      refine ⟨z2, ?_, o', i2, i3, i4⟩
      simp only [f_X6_save_L11, if_pos c1]) 420 0 LF (0, h) (by omega) (by unfold LF; omega) ⟨rfl, F 5, H0, onM.rf, fun k hk => by omega, fun k hk => rfl⟩
    have e7 := q2.i6
    rw [H5.1, hn] at e7
    obtain ⟨h2, a1, a2, a3⟩ := q2.w6 (nI 5)
    obtain ⟨h3, f5, b1, b2, b3, b4, b5⟩ := M_save49 a2 (n := 5) (by omega) (upd_s _ _ _)
    rw [upF_upF, upd_upd] at b2
    have n1 : nI 6 - (1 : Int32) = nI 5 := nI_pred 5
    have hsv : savA A.2.1 A.1 = A.2.1.drop 1 ++ [A.1] := by unfold savA; rw [if_neg (by omega)]
    have hl : (savA A.2.1 A.1).length = 6 := by rw [hsv, List.length_append, List.length_drop, hn]; rfl
    refine ⟨h3, ?_, ⟨_, _, J, b2, (upd_n _ _ (by omega)).trans H2, H3, ⟨(upd_n _ _ (by omega)).trans H4.1, H4.2⟩, ⟨?_, fun k T hT => ?_⟩, (upd_n _ _ (by omega)).trans H6, H7⟩, q3.tr (a3.tr b3)⟩
    · simp only [f_X6_save, f_X6_save_J39, H1.ok, if_true, e6, bs9, if_neg c1, q1, e7, n1, a1, b1]
    · rw [upd_s]
      show _ = nI (savA A.2.1 A.1).length
      rw [hl]
    · have hT : (savA A.2.1 A.1)[k]? = some T := hT
      have hk := (List.getElem?_eq_some_iff.mp hT).1
      rw [hl] at hk
      rw [hsv] at hT
      show repA (fun j => f5 (84 * k + j)) T
      by_cases hk5 : k < 5
      · rw [List.getElem?_append_left (by rw [List.length_drop, hn]; exact hk5), List.getElem?_drop] at hT
        have hT2 : A.2.1[k + 1]? = some T := by rw [Nat.add_comm]; exact hT
        have HK := H5.2 (k + 1) T hT2
        refine HK.kp (W2 T (List.mem_of_getElem? hT2)) (fun j hj => ?_)
        skip
        rw [b5 (84 * k + j) (by omega)]
        show o1 (84 * k + j) = _
        rw [q4 (84 * k + j) (by omega), show 84 + (84 * k + j) = 84 * (k + 1) + j by omega]
      · have hk5 : k = 5 := by omega
        subst hk5
        rw [List.getElem?_append_right (by rw [List.length_drop, hn]; exact Nat.le_refl _), List.length_drop, hn] at hT
        cases hT
        exact H3.kp W1 (fun j hj => b4 j hj)
  · have c1 : ¬ nI A.2.1.length = (6 : Int32) := fun q => hn ((nI_eq (b := 6) (by omega) (by omega)).mp q)
    obtain ⟨h3, f5, b1, b2, b3, b4, b5⟩ := M_save49 H1 (n := A.2.1.length) (by omega) H5.1
    have hsv : savA A.2.1 A.1 = A.2.1 ++ [A.1] := by unfold savA; rw [if_pos (by omega)]
    refine ⟨h3, ?_, ⟨_, _, J, b2, (upd_n _ _ (by omega)).trans H2, H3, ⟨(upd_n _ _ (by omega)).trans H4.1, H4.2⟩, ⟨?_, fun k T hT => ?_⟩, (upd_n _ _ (by omega)).trans H6, H7⟩, b3⟩
    · simp only [f_X6_save, H1.ok, if_true, e6, bs9, if_pos c1, b1]
    · rw [upd_s]
      show _ = nI (savA A.2.1 A.1).length
      rw [hsv, List.length_append]
      rfl
    · have hT : (savA A.2.1 A.1)[k]? = some T := hT
      have hk := (List.getElem?_eq_some_iff.mp hT).1
      rw [hsv] at hT hk
      rw [List.length_append] at hk
      have hk : k < A.2.1.length + 1 := hk
      show repA (fun j => f5 (84 * k + j)) T
      by_cases hkl : k < A.2.1.length
      · rw [List.getElem?_append_left hkl] at hT
        have HK := H5.2 k T hT
        exact HK.kp (W2 T (List.mem_of_getElem? hT)) (fun j hj => b5 (84 * k + j) (by omega))
      · have hkl : k = A.2.1.length := by omega
        subst hkl
        rw [List.getElem?_append_right (Nat.le_refl _), Nat.sub_self] at hT
        cases hT
        exact H3.kp W1 (fun j hj => b4 j hj)
theorem repM.ok (H : repM h m t A) : okO h m 5 = true := by
  obtain ⟨I, F, J, H1, -⟩ := H
  exact H1.ok
theorem M_isRope' (W : wfA A) (H : repM h m t A) (a : Int32) : f_X6_isRope h m a = some (bI (rng A.1.2.1.length a).isSome) := by
  obtain ⟨I, F, J, H1, H2, H3, -⟩ := H
  exact M_isRope H1 W.1.2.1 H3.2.1 a
theorem M_isPhase' (W : wfA A) (H : repM h m t A) {u : Nat} (hu : u < 8) (a : Int32) : f_X6_isPhase h m (nI u) a = some (bI (rng (A.1.1 u) a).isSome) := by
  obtain ⟨I, F, J, H1, H2, H3, -⟩ := H
  exact M_isPhase H1 hu (H3.1 u hu) (W.1.1 u).2 a
theorem M_areThere' (W : wfA A) (H : repM h m t A) (a b : Int32) : f_X6_areThere h m a b = some (bI ((rng A.1.2.1.length a).isSome && (rng 8 b).isSome)) := by
  simp only [f_X6_areThere, f_X6_areThere_J19, f_X6_areThere_J20, H.ok, if_true, M_isRope' W H a, M_isHue, bs9]
  cases (rng A.1.2.1.length a).isSome <;> cases (rng 8 b).isSome <;> rfl
theorem M_op_gap (W : wfA A) (H : repM h m t A) (a b : Int32) : MK (f_X6_gap h m a b) h m A (sp_gap A a b) := by
  have e2 : f_X6_in h b (2 : Int32) (20 : Int32) = some (bI (btw 2 20 b).isSome) := M_btw h b (lo := 2) (hi := 20) (by omega) (by omega)
  unfold MK sp_gap
  cases hu : rng 8 a with
  | none =>
    obtain ⟨h', a1, a2, a3⟩ := M_holds1 H (v := 1) (by decide)
    refine ⟨h', ?_, a2, a3⟩
    have c1 : ¬ ¬ bI (none : Option Nat).isSome = 0 := fun q => q rfl
    simp only [f_X6_gap, f_X6_gap_J39, H.ok, if_true, M_isHue, hu, bs9, if_neg c1, a1]
    rfl
  | some u =>
    obtain ⟨u1, rfl⟩ := rng_some (by omega) hu
    have c1 : ¬ bI (some u).isSome = 0 := by simp [bI]
    dsimp only
    cases hv : btw 2 20 b with
    | none =>
      obtain ⟨h', a1, a2, a3⟩ := M_holds1 H (v := 2) (by decide)
      refine ⟨h', ?_, a2, a3⟩
      rw [hv] at e2
      have c2 : ¬ ¬ bI (none : Option Nat).isSome = 0 := fun q => q rfl
      simp only [f_X6_gap, f_X6_gap_J39, H.ok, if_true, M_isHue, hu, bs9, if_pos c1, e2, if_neg c2, a1]
      rfl
    | some v =>
      obtain ⟨v1, v2, rfl⟩ := btw_some (by omega) hv
      rw [hv] at e2
      have c2 : ¬ bI (some v).isSome = 0 := by simp [bI]
      have e3 : f_X6_isLaidAnywhere h m (nI u) = some (bI (anyA A.1.2.1 u)) := by
        obtain ⟨I, F, J, H1, H2, H3, -⟩ := H
        exact M_anywhere H1 H3 W.1 u1
      dsimp only
      by_cases hl : anyA A.1.2.1 u = true
      · rw [if_pos hl]
        rw [hl] at e3
        obtain ⟨h', a1, a2, a3⟩ := M_holds1 H (v := 3) (by decide)
        refine ⟨h', ?_, a2, a3⟩
        have c3 : ¬ bI true = 0 := by decide
        simp only [f_X6_gap, f_X6_gap_J39, H.ok, if_true, M_isHue, hu, bs9, if_pos c1, e2, if_pos c2, e3, if_neg c3, a1]
        rfl
      · rw [if_neg hl]
        have hl : anyA A.1.2.1 u = false := by simpa using hl
        rw [hl] at e3
        obtain ⟨h1, a1, a2, a3⟩ := M_holds0 H
        obtain ⟨h2, b1, b2, b3⟩ := M_save W a2
        obtain ⟨I, F, J, s, K, KA, close⟩ := b2.opn
        have l1 := K.l1' (show u < 84 by omega)
        rw [KA.1 u u1] at l1
        obtain ⟨h3, d1, d2, d3⟩ := K.s1' (show u < 84 by omega) (nI v)
        have c3 : bI false = 0 := rfl
        have c4 : ¬ (1 : Int32) = 0 := by decide
        refine ⟨h3, ?_, close d2 rfl rfl rfl ?_, a3.tr (b3.tr d3)⟩
        · simp only [f_X6_gap, f_X6_gap_J39, H.ok, if_true, M_isHue, hu, bs9, if_pos c1, e2, if_pos c2, e3, if_pos c3, a1, if_pos c4, b1, K.r1, z0, l1, d1]
          rfl
        · obtain ⟨A1, A2, ⟨A3, A4, A5⟩, A6⟩ := KA
          refine ⟨fun w hw => ?_, (upd_n _ _ (by omega)).trans A2, ⟨(upd_n _ _ (by omega)).trans A3, (upd_n _ _ (by omega)).trans A4, (upd_n _ _ (by omega)).trans A5⟩, fun j Y hj => (A6 j Y hj).kp (W.1.2.2 Y (List.mem_of_getElem? hj)).le8 (fun t t1 t2 => upd_n _ _ (by omega))⟩
          show upd s u (nI v) w = nI (if w = u then v else A.1.1 w)
          by_cases hwu : w = u
          · rw [if_pos hwu, hwu, upd_s]
          · rw [if_neg hwu, upd_n _ _ hwu]
            exact A1 w hw
theorem M_op_rope (W : wfA A) (H : repM h m t A) (a : Int32) : MK (f_X6_rope h m a) h m A (sp_rope A a) := by
  have hR := W.1.2.1
  have e2 : f_X6_in h a (1 : Int32) (60 : Int32) = some (bI (btw 1 60 a).isSome) := M_btw h a (lo := 1) (hi := 60) (by omega) (by omega)
  unfold MK sp_rope
  cases hv : btw 1 60 a with
  | none =>
    obtain ⟨h', a1, a2, a3⟩ := M_holds1 H (v := 1) (by decide)
    refine ⟨h', ?_, a2, a3⟩
    rw [hv] at e2
    have c2 : ¬ ¬ bI (none : Option Nat).isSome = 0 := fun q => q rfl
    simp only [f_X6_rope, f_X6_rope_J31, H.ok, if_true, bs9, e2, if_neg c2, a1]
    rfl
  | some n =>
    obtain ⟨v1, v2, rfl⟩ := btw_some (by omega) hv
    rw [hv] at e2
    have c2 : ¬ bI (some n).isSome = 0 := by simp [bI]
    obtain ⟨I0, F0, J0, s0, K0, KA0, -⟩ := H.opn
    have e8 : ldI h (m + 1) (8 : Int32) = some (nI A.1.2.1.length) := (K0.l1' (i := 8) (by omega)).trans (congrArg some KA0.2.1)
    dsimp only
    by_cases hl : A.1.2.1.length = 4
    · rw [if_pos hl]
      obtain ⟨h', a1, a2, a3⟩ := M_holds1 H (v := 2) (by decide)
      refine ⟨h', ?_, a2, a3⟩
      have c3 : ¬ ¬ nI A.1.2.1.length = (4 : Int32) := fun q => q (by rw [hl]; rfl)
      simp only [f_X6_rope, f_X6_rope_J31, H.ok, if_true, bs9, e2, if_pos c2, K0.r1, e8, if_neg c3, a1]
      rfl
    · rw [if_neg hl]
      have c3 : ¬ nI A.1.2.1.length = (4 : Int32) := fun q => hl ((nI_eq (b := 4) (by omega) (by omega)).mp q)
      obtain ⟨h1, a1, a2, a3⟩ := M_holds0 H
      obtain ⟨h2, b1, b2, b3⟩ := M_save W a2
      obtain ⟨I, F, J, s, K, KA, close⟩ := b2.opn
      obtain ⟨h3, s3, d1, d2, d3, d4⟩ := M_adds K KA W.1 (by show A.1.2.1.length < 4; omega) n
      have c4 : ¬ (1 : Int32) = 0 := by decide
      have e9 : ldI h3 (m + 1) (8 : Int32) = some (nI (A.1.2.1.length + 1)) := by
        refine (d2.l1' (i := 8) (by omega)).trans (congrArg some (d4.2.1.trans ?_))
        show nI (A.1.2.1 ++ [(n, [])]).length = _
        rw [List.length_append]
        rfl
      refine ⟨h3, ?_, close d2 rfl rfl rfl d4, a3.tr (b3.tr d3)⟩
      simp only [f_X6_rope, f_X6_rope_J31, H.ok, if_true, bs9, e2, if_pos c2, K0.r1, e8, if_pos c3, a1, if_pos c4, b1, d1, d2.r1, e9, nI_pred]
      rfl
theorem M_op_drop (W : wfA A) (H : repM h m t A) (a : Int32) : MK (f_X6_drop h m a) h m A (sp_drop A a) := by
  have hR := W.1.2.1
  unfold MK sp_drop
  cases hv : rng A.1.2.1.length a with
  | none =>
    obtain ⟨h', a1, a2, a3⟩ := M_holds1 H (v := 1) (by decide)
    refine ⟨h', ?_, a2, a3⟩
    have c2 : bI (none : Option Nat).isSome = 0 := rfl
    simp only [f_X6_drop, f_X6_drop_J14, H.ok, if_true, bs9, M_isRope' W H, hv, if_pos c2, a1]
    rfl
  | some i =>
    obtain ⟨v1, rfl⟩ := rng_some (by omega) hv
    have c2 : ¬ bI (some i).isSome = 0 := by simp [bI]
    obtain ⟨h1, a1, a2, a3⟩ := M_holds0 H
    obtain ⟨h2, b1, b2, b3⟩ := M_save W a2
    obtain ⟨I, F, J, s, K, KA, close⟩ := b2.opn
    obtain ⟨h3, s3, d1, d2, d3, d4⟩ := M_drops K KA W.1 v1
    have c4 : ¬ (1 : Int32) = 0 := by decide
    have e9 : ldI h3 (m + 1) (8 : Int32) = some (nI (A.1.2.1.length - 1)) := by
      refine (d2.l1' (i := 8) (by omega)).trans (congrArg some (d4.2.1.trans ?_))
      show nI (A.1.2.1.eraseIdx i).length = _
      rw [List.length_eraseIdx, if_pos v1]
    refine ⟨h3, ?_, close d2 rfl rfl rfl d4, a3.tr (b3.tr d3)⟩
    simp only [f_X6_drop, f_X6_drop_J14, H.ok, if_true, bs9, M_isRope' W H, hv, if_neg c2, a1, if_pos c4, b1, d1, d2.r1, e9]
    rfl
theorem M_op_lay (W : wfA A) (H : repM h m t A) (a b c : Int32) : MK (f_X6_lay h m a b c) h m A (sp_lay A a b c) := by
  have hR := W.1.2.1
  unfold MK sp_lay
  cases hv : rng A.1.2.1.length a with
  | none =>
    obtain ⟨h', a1, a2, a3⟩ := M_holds1 H (v := 1) (by decide)
    refine ⟨h', ?_, a2, a3⟩
    have c2 : ¬ ¬ bI ((none : Option Nat).isSome && (rng 8 b).isSome) = 0 := fun q => q rfl
    simp only [f_X6_lay, f_X6_lay_J42, H.ok, if_true, bs9, M_areThere' W H, hv, if_neg c2, a1]
    rfl
  | some i =>
    obtain ⟨v1, rfl⟩ := rng_some (by omega) hv
    dsimp only
    cases hu : rng 8 b with
    | none =>
      obtain ⟨h', a1, a2, a3⟩ := M_holds1 H (v := 1) (by decide)
      refine ⟨h', ?_, a2, a3⟩
      have c2 : ¬ ¬ bI ((some i).isSome && (none : Option Nat).isSome) = 0 := fun q => q rfl
      simp only [f_X6_lay, f_X6_lay_J42, H.ok, if_true, bs9, M_areThere' W H, hv, hu, if_neg c2, a1]
      rfl
    | some u =>
      obtain ⟨u1, rfl⟩ := rng_some (by omega) hu
      have c2 : ¬ bI ((some i).isSome && (some u).isSome) = 0 := by simp [bI]
      have hgu := W.1.1 u
      dsimp only
      cases hp : rng (A.1.1 u) c with
      | none =>
        obtain ⟨h', a1, a2, a3⟩ := M_holds1 H (v := 2) (by decide)
        refine ⟨h', ?_, a2, a3⟩
        have c3 : ¬ ¬ bI (none : Option Nat).isSome = 0 := fun q => q rfl
        simp only [f_X6_lay, f_X6_lay_J42, H.ok, if_true, bs9, M_areThere' W H, hv, hu, if_pos c2, M_isPhase' W H u1, hp, if_neg c3, a1]
        rfl
      | some p =>
        obtain ⟨p1, rfl⟩ := rng_some (by omega) hp
        have c3 : ¬ bI (some p).isSome = 0 := by simp [bI]
        have WR := W.1.2.2 _ (atR_mem v1)
        have e3 : f_X6_why h m (nI i) (nI u) (nI p) = some (nI (whyA A.1.1 (atR A.1.2.1 i).1 (atR A.1.2.1 i).2 u p)) := by
          obtain ⟨I, F, J, H1, H2, H3, -⟩ := H
          exact M_why H1 (show i < 4 by omega) (H3.q v1) H3.1 W.1.1 WR u1 (by omega)
        have hw3 := whyA_le A.1.1 (atR A.1.2.1 i).1 (atR A.1.2.1 i).2 u p
        dsimp only
        by_cases hw : whyA A.1.1 (atR A.1.2.1 i).1 (atR A.1.2.1 i).2 u p = 0
        · rw [if_pos hw]
          rw [hw] at e3
          have WL := wf_lay W.1.1 WR u1 p1 hw
          have hno : phs (atR A.1.2.1 i).2 u = none := by
            rw [phs_none]
            intro q hq he
            have h4 := WL.2.1
            rw [List.map_append, List.nodup_append] at h4
            exact h4.2.2 q.1 (List.mem_map_of_mem hq) u (by simp) he
          have hlen : (atR A.1.2.1 i).2.length < 8 := by
            have := WL.le8
            rw [List.length_append] at this
            have : (atR A.1.2.1 i).2.length + 1 ≤ 8 := this
            omega
          obtain ⟨h1, a1, a2, a3⟩ := M_holds0 H
          obtain ⟨h2, b1, b2, b3⟩ := M_save W a2
          obtain ⟨I, F, J, s, K, KA, close⟩ := b2.opn
          have KA : repA s A.1 := KA
          obtain ⟨h3, s3, d1, d2, d3, d4, d5⟩ := M_lays K (show i < 4 by omega) (KA.q v1) hlen u1 hno p
          have KA3 := KA.set W.1 d5 d4
          have l9 : ldI h3 (m + 1) (9 : Int32) = some A.1.2.2.1 := (d2.l1' (i := 9) (by omega)).trans (congrArg some KA3.2.2.1.1)
          obtain ⟨h4, f1, f2, f3⟩ := d2.s1' (i := 9) (by omega) (A.1.2.2.1 + 1)
          have f1 : stI h3 (m + 1) (9 : Int32) (A.1.2.2.1 + 1) = some h4 := f1
          have KA4 := KA3.cnt (wf_set W.1 i WL) (k := 9) (Or.inl rfl) (A.1.2.2.1 + 1)
          have d4' : repQ (upd s3 9 (A.1.2.2.1 + 1)) i ((atR A.1.2.1 i).1, (atR A.1.2.1 i).2 ++ [(u, p)]) := d4.kp WL.le8 (fun t t1 t2 => upd_n _ _ (by omega))
          have e5 := M_placesOf f2 (show i < 4 by omega) d4' KA4.1 W.1.1 WL.q WL.1.2 (q := (u, p)) (List.mem_append_right _ (List.mem_singleton_self _))
          have e5 : f_X6_placesOf h4 m (nI i) (nI u) = some (nI (stp9 (atR A.1.2.1 i).1 p (A.1.1 u))) := e5
          have c4 : ¬ (1 : Int32) = 0 := by decide
          have c5 : nI 0 ≤ 0 := by decide
          refine ⟨h4, ?_, close f2 rfl rfl rfl KA4, a3.tr (b3.tr (d3.tr f3))⟩
          simp only [f_X6_lay, f_X6_lay_J42, H.ok, if_true, bs9, M_areThere' W H, hv, hu, if_pos c2, M_isPhase' W H u1, hp, if_pos c3, e3, if_pos c5, a1, if_pos c4, b1, d1, d2.r1, l9, f1, e5]
          rfl
        · rw [if_neg hw]
          obtain ⟨h', a1, a2, a3⟩ := M_holds1 H (v := 3) (by decide)
          refine ⟨h', ?_, a2, a3⟩
          have c5 : ¬ nI (whyA A.1.1 (atR A.1.2.1 i).1 (atR A.1.2.1 i).2 u p) ≤ 0 := nI_nle (by omega) (by omega)
          simp only [f_X6_lay, f_X6_lay_J42, H.ok, if_true, bs9, M_areThere' W H, hv, hu, if_pos c2, M_isPhase' W H u1, hp, if_pos c3, e3, if_neg c5, a1]
          rfl
theorem M_op_take (W : wfA A) (H : repM h m t A) (a b : Int32) : MK (f_X6_take h m a b) h m A (sp_take A a b) := by
  have hR := W.1.2.1
  unfold MK sp_take
  cases hv : rng A.1.2.1.length a with
  | none =>
    obtain ⟨h', a1, a2, a3⟩ := M_holds1 H (v := 1) (by decide)
    refine ⟨h', ?_, a2, a3⟩
    have c2 : ¬ ¬ bI ((none : Option Nat).isSome && (rng 8 b).isSome) = 0 := fun q => q rfl
    simp only [f_X6_take, f_X6_take_J28, H.ok, if_true, bs9, M_areThere' W H, hv, if_neg c2, a1]
    rfl
  | some i =>
    obtain ⟨v1, rfl⟩ := rng_some (by omega) hv
    dsimp only
    cases hu : rng 8 b with
    | none =>
      obtain ⟨h', a1, a2, a3⟩ := M_holds1 H (v := 1) (by decide)
      refine ⟨h', ?_, a2, a3⟩
      have c2 : ¬ ¬ bI ((some i).isSome && (none : Option Nat).isSome) = 0 := fun q => q rfl
      simp only [f_X6_take, f_X6_take_J28, H.ok, if_true, bs9, M_areThere' W H, hv, hu, if_neg c2, a1]
      rfl
    | some u =>
      obtain ⟨u1, rfl⟩ := rng_some (by omega) hu
      have c2 : ¬ bI ((some i).isSome && (some u).isSome) = 0 := by simp [bI]
      have WR := W.1.2.2 _ (atR_mem v1)
      have e3 : f_X6_isLaid h m (nI i) (nI u) = some (bI (phs (atR A.1.2.1 i).2 u).isSome) := by
        obtain ⟨I, F, J, H1, H2, H3, -⟩ := H
        exact M_isLaid H1 (show i < 4 by omega) (H3.q v1) W.1.1 WR.q u1
      dsimp only
      cases hp : phs (atR A.1.2.1 i).2 u with
      | none =>
        rw [hp] at e3
        obtain ⟨h', a1, a2, a3⟩ := M_holds1 H (v := 2) (by decide)
        refine ⟨h', ?_, a2, a3⟩
        have c3 : ¬ ¬ bI (none : Option Nat).isSome = 0 := fun q => q rfl
        simp only [f_X6_take, f_X6_take_J28, H.ok, if_true, bs9, M_areThere' W H, hv, hu, if_pos c2, e3, if_neg c3, a1]
        rfl
      | some p =>
        rw [hp] at e3
        have c3 : ¬ bI (some p).isSome = 0 := by simp [bI]
        obtain ⟨h1, a1, a2, a3⟩ := M_holds0 H
        obtain ⟨h2, b1, b2, b3⟩ := M_save W a2
        obtain ⟨I, F, J, s, K, KA, close⟩ := b2.opn
        have KA : repA s A.1 := KA
        have e5 := M_placesOf K (show i < 4 by omega) (KA.q v1) KA.1 W.1.1 WR.q WR.1.2 (phs_mem hp)
        obtain ⟨h3, s3, o, d1, d2, d3, d4, d5⟩ := M_takesOff K (show i < 4 by omega) WR (KA.q v1) u1
        have c4 : ¬ (1 : Int32) = 0 := by decide
        refine ⟨h3, ?_, close d2 rfl rfl rfl (KA.set W.1 d5 d4), a3.tr (b3.tr d3)⟩
        simp only [f_X6_take, f_X6_take_J28, H.ok, if_true, bs9, M_areThere' W H, hv, hu, if_pos c2, e3, if_pos c3, a1, if_pos c4, b1, e5, d1]
        rfl
end ModelOps
