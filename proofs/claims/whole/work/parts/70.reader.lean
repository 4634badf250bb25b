/-! PURE READING, 39: the reference: its reader, firstError, play -/
def repI (I : Nat → Int32) (F : Nat → Nat → Int32) (A : AAt) : Prop := repA (F 1) A.1 ∧ (I 4 = bI A.2.2.1.isSome ∧ ∀ T, A.2.2.1 = some T → repA (F 3) T) ∧ (I 6 = nI A.2.1.length ∧ ∀ k T, A.2.1[k]? = some T → repA (fun j => F 5 (84 * k + j)) T) ∧ I 8 = nI A.2.2.2.length ∧ ∀ i c, A.2.2.2[i]? = some c → F 7 i = nI c
theorem repI.up {I : Nat → Int32} {F : Nat → Nat → Int32} {A : AAt} (H : repI I F A) {k : Nat} (hk : ¬ k = 4 ∧ ¬ k = 6 ∧ ¬ k = 8) (v : Int32) : repI (upd I k v) F A := by
  obtain ⟨H3, H4, H5, H6, H7⟩ := H
  exact ⟨H3, ⟨(upd_n _ _ (by omega)).trans H4.1, H4.2⟩, ⟨(upd_n _ _ (by omega)).trans H5.1, H5.2⟩, (upd_n _ _ (by omega)).trans H6, H7⟩
/-- the reference's object with its reader -/
def repR9 (h : PH) (m : Nat) (t : Int32) (A : AAt) (a : Nat) (wr : Bool) (sg f s : Int32) : Prop := ∃ I F J, cM h m I F J ∧ I 0 = t ∧ repI I F A ∧ I 10 = nI a ∧ I 11 = bI wr ∧ I 12 = sg ∧ I 13 = f ∧ I 14 = s
section Reader
variable {h : PH} {m : Nat} {t : Int32} {A : AAt} {a : Nat} {wr : Bool} {sg f s : Int32}
theorem repR9.toM (H : repR9 h m t A a wr sg f s) : repM h m t A := by
  obtain ⟨I, F, J, H1, H2, H3, -⟩ := H
  exact ⟨I, F, J, H1, H2, H3⟩
theorem repR9.i10 (H : repR9 h m t A a wr sg f s) : rdI h m 5 10 = some (nI a) := by
  obtain ⟨I, F, J, H1, H2, H3, e1, e2, e3, e4, e5⟩ := H
  exact H1.i10.trans (congrArg some e1)
theorem repR9.i11 (H : repR9 h m t A a wr sg f s) : rdI h m 5 11 = some (bI wr) := by
  obtain ⟨I, F, J, H1, H2, H3, e1, e2, e3, e4, e5⟩ := H
  exact H1.i11.trans (congrArg some e2)
theorem repR9.i12 (H : repR9 h m t A a wr sg f s) : rdI h m 5 12 = some sg := by
  obtain ⟨I, F, J, H1, H2, H3, e1, e2, e3, e4, e5⟩ := H
  exact H1.i12.trans (congrArg some e3)
theorem repR9.i13 (H : repR9 h m t A a wr sg f s) : rdI h m 5 13 = some f := by
  obtain ⟨I, F, J, H1, H2, H3, e1, e2, e3, e4, e5⟩ := H
  exact H1.i13.trans (congrArg some e4)
theorem repR9.i14 (H : repR9 h m t A a wr sg f s) : rdI h m 5 14 = some s := by
  obtain ⟨I, F, J, H1, H2, H3, e1, e2, e3, e4, e5⟩ := H
  exact H1.i14.trans (congrArg some e5)
theorem repR9.i8 (H : repR9 h m t A a wr sg f s) : rdI h m 5 8 = some (nI A.2.2.2.length) := by
  obtain ⟨I, F, J, H1, H2, ⟨H3, H4, H5, H6, H7⟩, -⟩ := H
  exact H1.i8.trans (congrArg some H6)
theorem repR9.r7 (H : repR9 h m t A a wr sg f s) : rdR h m 5 7 = some (m + 5) := by
  obtain ⟨I, F, J, H1, -⟩ := H
  exact H1.r7
theorem repR9.l7 (W : wfX A.2.2.2) (H : repR9 h m t A a wr sg f s) {j : Nat} (hj : j < A.2.2.2.length) : ldI h (m + 5) (nI j) = some (nI (A.2.2.2.getD j 0)) := by
  obtain ⟨I, F, J, H1, H2, ⟨H3, H4, H5, H6, H7⟩, -⟩ := H
  have := W.1
  refine (H1.l7 (show j < 60 by omega)).trans (congrArg some ?_)
  rw [H7 j _ (List.getElem?_eq_getElem hj), List.getD_eq_getElem?_getD, List.getElem?_eq_getElem hj]
  rfl
theorem repR9.w10 (H : repR9 h m t A a wr sg f s) (b : Nat) : ∃ h', wrF h m 5 10 (.int (nI b)) = some h' ∧ repR9 h' m t A b wr sg f s ∧ onM m h h' := by
  obtain ⟨I, F, J, H1, H2, H3, e1, e2, e3, e4, e5⟩ := H
  obtain ⟨h', a1, a2, a3⟩ := H1.w10 (nI b)
  exact ⟨h', a1, ⟨_, F, J, a2, (upd_n _ _ (by omega)).trans H2, H3.up (by omega) _, upd_s _ _ _, (upd_n _ _ (by omega)).trans e2, (upd_n _ _ (by omega)).trans e3, (upd_n _ _ (by omega)).trans e4, (upd_n _ _ (by omega)).trans e5⟩, a3⟩
theorem repR9.w11 (H : repR9 h m t A a wr sg f s) (b : Bool) : ∃ h', wrF h m 5 11 (.int (bI b)) = some h' ∧ repR9 h' m t A a b sg f s ∧ onM m h h' := by
  obtain ⟨I, F, J, H1, H2, H3, e1, e2, e3, e4, e5⟩ := H
  obtain ⟨h', a1, a2, a3⟩ := H1.w11 (bI b)
  exact ⟨h', a1, ⟨_, F, J, a2, (upd_n _ _ (by omega)).trans H2, H3.up (by omega) _, (upd_n _ _ (by omega)).trans e1, upd_s _ _ _, (upd_n _ _ (by omega)).trans e3, (upd_n _ _ (by omega)).trans e4, (upd_n _ _ (by omega)).trans e5⟩, a3⟩
theorem repR9.w12 (H : repR9 h m t A a wr sg f s) (v : Int32) : ∃ h', wrF h m 5 12 (.int v) = some h' ∧ repR9 h' m t A a wr v f s ∧ onM m h h' := by
  obtain ⟨I, F, J, H1, H2, H3, e1, e2, e3, e4, e5⟩ := H
  obtain ⟨h', a1, a2, a3⟩ := H1.w12 v
  exact ⟨h', a1, ⟨_, F, J, a2, (upd_n _ _ (by omega)).trans H2, H3.up (by omega) _, (upd_n _ _ (by omega)).trans e1, (upd_n _ _ (by omega)).trans e2, upd_s _ _ _, (upd_n _ _ (by omega)).trans e4, (upd_n _ _ (by omega)).trans e5⟩, a3⟩
theorem repR9.w13 (H : repR9 h m t A a wr sg f s) (v : Int32) : ∃ h', wrF h m 5 13 (.int v) = some h' ∧ repR9 h' m t A a wr sg v s ∧ onM m h h' := by
  obtain ⟨I, F, J, H1, H2, H3, e1, e2, e3, e4, e5⟩ := H
  obtain ⟨h', a1, a2, a3⟩ := H1.w13 v
  exact ⟨h', a1, ⟨_, F, J, a2, (upd_n _ _ (by omega)).trans H2, H3.up (by omega) _, (upd_n _ _ (by omega)).trans e1, (upd_n _ _ (by omega)).trans e2, (upd_n _ _ (by omega)).trans e3, upd_s _ _ _, (upd_n _ _ (by omega)).trans e5⟩, a3⟩
theorem repR9.w14 (H : repR9 h m t A a wr sg f s) (v : Int32) : ∃ h', wrF h m 5 14 (.int v) = some h' ∧ repR9 h' m t A a wr sg f v ∧ onM m h h' := by
  obtain ⟨I, F, J, H1, H2, H3, e1, e2, e3, e4, e5⟩ := H
  obtain ⟨h', a1, a2, a3⟩ := H1.w14 v
  exact ⟨h', a1, ⟨_, F, J, a2, (upd_n _ _ (by omega)).trans H2, H3.up (by omega) _, (upd_n _ _ (by omega)).trans e1, (upd_n _ _ (by omega)).trans e2, (upd_n _ _ (by omega)).trans e3, (upd_n _ _ (by omega)).trans e4, upd_s _ _ _⟩, a3⟩
theorem M_inN (h : PH) {c lo hi : Nat} (h1 : c < 2 ^ 31) (h2 : lo < 2 ^ 31) (h3 : hi < 2 ^ 31) : f_X6_in h (nI c) (nI lo) (nI hi) = some (bI (decide (lo ≤ c ∧ c ≤ hi))) := by
  rw [M_in]
  congr 2
  rw [decide_eq_decide, nI_leI h2 h1, nI_leI h1 h3]
theorem M_reads24 (W : wfX A.2.2.2) (H : repR9 h m t A a wr sg f s) (ha : a ≤ A.2.2.2.length) (lo hi : Int32) : f_X6_reads h m lo hi = f_X6_reads_J24 h m lo hi (nI (A.2.2.2.getD a 0)) := by
  have hX := W.1
  by_cases hl : a < A.2.2.2.length
  · have c1 : ¬ nI A.2.2.2.length ≤ nI a := nI_ge hl (by omega)
    simp only [f_X6_reads, H.toM.ok, if_true, H.i10, H.i8, if_neg c1, H.r7, H.l7 W hl, bs9]
  · have c1 : nI A.2.2.2.length ≤ nI a := nI_le (by omega) (by omega)
    have e0 : A.2.2.2.getD a 0 = 0 := by
      rw [List.getD_eq_getElem?_getD, List.getElem?_eq_none (by omega)]
      rfl
    rw [e0]
    simp only [f_X6_reads, H.toM.ok, if_true, H.i10, H.i8, if_pos c1, bs9]
    rfl
theorem M_readsY (W : wfX A.2.2.2) (H : repR9 h m t A a false sg f s) (ha : a ≤ A.2.2.2.length) {lo hi : Nat} (hlo : lo ≤ 200) (hhi : hi ≤ 200) (hc : lo ≤ A.2.2.2.getD a 0 ∧ A.2.2.2.getD a 0 ≤ hi) : ∃ h', f_X6_reads h m (nI lo) (nI hi) = some (nI (A.2.2.2.getD a 0 - lo), h') ∧ repR9 h' m t A (a + 1) false sg f s ∧ onM m h h' := by
  have h126 := getD_126 W a
  have e1 := M_inN h (c := A.2.2.2.getD a 0) (lo := lo) (hi := hi) (by omega) (by omega) (by omega)
  rw [decide_eq_true hc] at e1
  obtain ⟨h1, a1, a2, a3⟩ := H.w11 false
  obtain ⟨h2, b1, b2, b3⟩ := a2.w10 (a + 1)
  have c1 : ¬ ¬ bI false = 0 := fun q => q rfl
  have c2 : ¬ bI true = 0 := by decide
  have c3 : z01 (0 : Int32) = true := rfl
  have c4 : bI false = 0 := rfl
  have a1 : wrF h m 5 11 (.int (0 : Int32)) = some h1 := a1
  refine ⟨h2, ?_, b2, a3.tr b3⟩
  rw [M_reads24 W H ha]
  simp only [f_X6_reads_J24, f_X6_reads_J47, f_X6_reads_J67, H.i11, bs9, if_neg c1, e1, if_pos c2, c3, if_true, a1, a2.i10, a2.i11, if_pos c4, nI_1, b1, nI_sub hc.1]
theorem M_readsN (W : wfX A.2.2.2) (H : repR9 h m t A a wr sg f s) (ha : a ≤ A.2.2.2.length) {lo hi : Nat} (hlo : lo ≤ 200) (hhi : hi ≤ 200) (hc : wr = true ∨ ¬ (lo ≤ A.2.2.2.getD a 0 ∧ A.2.2.2.getD a 0 ≤ hi)) : ∃ v h', f_X6_reads h m (nI lo) (nI hi) = some (v, h') ∧ repR9 h' m t A a true sg f s ∧ onM m h h' := by
  have h126 := getD_126 W a
  have e1 := M_inN h (c := A.2.2.2.getD a 0) (lo := lo) (hi := hi) (by omega) (by omega) (by omega)
  obtain ⟨h1, a1, a2, a3⟩ := H.w11 true
  obtain ⟨h2, b1, b2, b3⟩ := a2.w10 a
  have c2 : ¬ bI true = 0 := by decide
  have c3 : z01 (1 : Int32) = true := rfl
  have a1 : wrF h m 5 11 (.int (1 : Int32)) = some h1 := a1
  have n0 : nI a + (0 : Int32) = nI a := nI_add a 0
  refine ⟨nI (A.2.2.2.getD a 0) - nI lo, h2, ?_, b2, a3.tr b3⟩
  rw [M_reads24 W H ha]
  cases wr with
  | true =>
    simp only [f_X6_reads_J24, f_X6_reads_J42, f_X6_reads_J47, f_X6_reads_J67, H.i11, bs9, if_pos c2, c3, if_true, a1, a2.i10, a2.i11, if_neg c2, n0, b1]
  | false =>
    have hc : ¬ (lo ≤ A.2.2.2.getD a 0 ∧ A.2.2.2.getD a 0 ≤ hi) := by
      rcases hc with q | q
      · cases q
      · exact q
    rw [decide_eq_false hc] at e1
    have c1 : ¬ ¬ bI false = 0 := fun q => q rfl
    simp only [f_X6_reads_J24, f_X6_reads_J42, f_X6_reads_J47, f_X6_reads_J67, H.i11, bs9, if_neg c1, e1, c3, if_true, a1, a2.i10, a2.i11, if_neg c2, n0, b1]
theorem M_next (W : wfX A.2.2.2) (H : repR9 h m t A a wr sg f s) (ha : a ≤ A.2.2.2.length) : f_X6_isNext h m 48 57 = some (bI (!wr && decide (48 ≤ A.2.2.2.getD a 0 ∧ A.2.2.2.getD a 0 ≤ 57))) := by
  have hX := W.1
  have h126 := getD_126 W a
  have e1 : f_X6_in h (nI (A.2.2.2.getD a 0)) 48 57 = some (bI (decide (48 ≤ A.2.2.2.getD a 0 ∧ A.2.2.2.getD a 0 ≤ 57))) := M_inN h (lo := 48) (hi := 57) (by omega) (by omega) (by omega)
  cases wr with
  | true =>
    have c2 : ¬ bI true = 0 := by decide
    simp only [f_X6_isNext, f_X6_isNext_J39, f_X6_isNext_J40, H.toM.ok, if_true, H.i11, bs9, if_pos c2]
    rfl
  | false =>
    have c1 : ¬ ¬ bI false = 0 := fun q => q rfl
    by_cases hl : a < A.2.2.2.length
    · have c3 : ¬ nI A.2.2.2.length ≤ nI a := nI_ge hl (by omega)
      simp only [f_X6_isNext, f_X6_isNext_J39, f_X6_isNext_J40, H.toM.ok, if_true, H.i11, bs9, if_neg c1, H.i10, H.i8, if_neg c3, H.r7, H.l7 W hl, e1]
      cases decide (48 ≤ A.2.2.2.getD a 0 ∧ A.2.2.2.getD a 0 ≤ 57) <;> rfl
    · have c3 : nI A.2.2.2.length ≤ nI a := nI_le (by omega) (by omega)
      have e0 : A.2.2.2.getD a 0 = 0 := by
        rw [List.getD_eq_getElem?_getD, List.getElem?_eq_none (by omega)]
        rfl
      simp only [f_X6_isNext, f_X6_isNext_J39, f_X6_isNext_J40, H.toM.ok, if_true, H.i11, bs9, if_neg c1, H.i10, H.i8, if_pos c3, e0]
      rfl
/-- a number ends where no digit follows, or where it would be too great -/
theorem N_stop (W : wfX A.2.2.2) (H : repR9 h m t A a wr sg f s) (ha : a ≤ A.2.2.2.length) {M v : Nat} (hM : M ≤ 60) (hv : v ≤ 100) (hs : wr = true ∨ ¬ ((48 ≤ A.2.2.2.getD a 0 ∧ A.2.2.2.getD a 0 ≤ 57) ∧ 10 * v + (A.2.2.2.getD a 0 - 48) ≤ M)) : f_X6_readsNumber_L24 m (nI M) (nI v, 1, h) = some (.inl (nI v, 0, h)) := by
  have hX := W.1
  have h126 := getD_126 W a
  have c1 : ¬ (1 : Int32) = 0 := by decide
  have en := M_next W H ha
  have c0 : ∀ k : Int32, k = 0 → f_X6_readsNumber_J66 h m (nI M) (nI v) k = some (.inl (nI v, 0, h)) := by
    intro k hk
    subst hk
    simp only [f_X6_readsNumber_J66, f_X6_readsNumber_J90, if_true]
  by_cases hd : (!wr && decide (48 ≤ A.2.2.2.getD a 0 ∧ A.2.2.2.getD a 0 ≤ 57)) = true
  · rw [hd] at en
    rw [Bool.and_eq_true] at hd
    have hw : wr = false := by simpa using hd.1
    have hd2 := of_decide_eq_true hd.2
    have hl : a < A.2.2.2.length := getD_lt (by omega)
    have h9 : ¬ 10 * v + (A.2.2.2.getD a 0 - 48) ≤ M := by
      rcases hs with q | q
      · rw [hw] at q; cases q
      · exact fun q9 => q ⟨hd2, q9⟩
    have e1 : (10 : Int32) * nI v + nI (A.2.2.2.getD a 0) - 48 = nI (10 * v + (A.2.2.2.getD a 0 - 48)) := by
      have e2 : (10 : Int32) * nI v = nI (10 * v) := nI_mul 10 v
      rw [e2, nI_add]
      have e3 : nI (10 * v + A.2.2.2.getD a 0) - (48 : Int32) = nI (10 * v + A.2.2.2.getD a 0 - 48) := nI_sub (b := 48) (by omega)
      rw [e3]
      congr 1
      omega
    have c2 : ¬ bI true = 0 := by decide
    have c3 : nI M < nI (10 * v + (A.2.2.2.getD a 0 - 48)) := nI_lt (by omega) (by omega)
    simp only [f_X6_readsNumber_L24, if_neg c1, en, bs9, if_neg c2, H.r7, H.i10, H.l7 W hl, e1, if_pos c3, f_X6_readsNumber_J65]
    exact c0 0 rfl
  · have hd : (!wr && decide (48 ≤ A.2.2.2.getD a 0 ∧ A.2.2.2.getD a 0 ≤ 57)) = false := by simpa using hd
    rw [hd] at en
    have c2 : bI false = 0 := rfl
    simp only [f_X6_readsNumber_L24, if_neg c1, en, bs9, if_pos c2, f_X6_readsNumber_J65]
    exact c0 0 rfl
theorem N_wrong (W : wfX A.2.2.2) (H : repR9 h m t A a true sg f s) (ha : a ≤ A.2.2.2.length) (M v : Int32) : f_X6_readsNumber_L24 m M (v, 1, h) = some (.inl (v, 0, h)) := by
  have c1 : ¬ (1 : Int32) = 0 := by decide
  have en := M_next W H ha
  have c2 : bI (!true && decide (48 ≤ A.2.2.2.getD a 0 ∧ A.2.2.2.getD a 0 ≤ 57)) = 0 := rfl
  simp only [f_X6_readsNumber_L24, if_neg c1, en, bs9, if_pos c2, f_X6_readsNumber_J65, f_X6_readsNumber_J66, f_X6_readsNumber_J90, if_true]
theorem N_go (W : wfX A.2.2.2) (H : repR9 h m t A a false sg f s) (ha : a ≤ A.2.2.2.length) {M v : Nat} (hM : M ≤ 60) (hv : v ≤ 100) (hd2 : 48 ≤ A.2.2.2.getD a 0 ∧ A.2.2.2.getD a 0 ≤ 57) (h9 : 10 * v + (A.2.2.2.getD a 0 - 48) ≤ M) : ∃ h', f_X6_readsNumber_L24 m (nI M) (nI v, 1, h) = some (.inl (nI (10 * v + (A.2.2.2.getD a 0 - 48)), 1, h')) ∧ repR9 h' m t A (a + 1) false sg f s ∧ onM m h h' := by
  have hX := W.1
  have c1 : ¬ (1 : Int32) = 0 := by decide
  have en := M_next W H ha
  rw [decide_eq_true hd2] at en
  have hl : a < A.2.2.2.length := getD_lt (by omega)
  obtain ⟨h1, a1, a2, a3⟩ := M_readsY W H ha (lo := 48) (hi := 57) (by omega) (by omega) hd2
  have a1 : f_X6_reads h m (48 : Int32) (57 : Int32) = some (nI (A.2.2.2.getD a 0 - 48), h1) := a1
  have e2 : (10 : Int32) * nI v = nI (10 * v) := nI_mul 10 v
  have e3 : nI (10 * v + A.2.2.2.getD a 0) - (48 : Int32) = nI (10 * v + A.2.2.2.getD a 0 - 48) := nI_sub (b := 48) (by omega)
  have c2 : ¬ bI (!false && true) = 0 := by decide
  have c3 : ¬ nI M < nI (10 * v + A.2.2.2.getD a 0 - 48) := nI_nlt (by omega) (by omega)
  refine ⟨h1, ?_, a2, a3⟩
  simp only [f_X6_readsNumber_L24, if_neg c1, en, bs9, if_neg c2, H.r7, H.i10, H.l7 W hl, e2, nI_add, e3, if_neg c3, f_X6_readsNumber_J66, f_X6_readsNumber_J90, a1]
theorem N_end (M v : Int32) : f_X6_readsNumber_L24 m M (v, 0, h) = some (.inr (v, h)) := by
  simp only [f_X6_readsNumber_L24, if_true]
theorem LF_s : ∃ k, LF = k + 1 + 1 + 1 + 1 := ⟨999996, rfl⟩
/-- a number from a least digit l on, at most M -/
theorem M_numY (W : wfX A.2.2.2) (H : repR9 h m t A a false sg f s) (ha : a ≤ A.2.2.2.length) {l M : Nat} (hl : l ≤ 1) (hM : M ≤ 60) (hc : 48 + l ≤ A.2.2.2.getD a 0 ∧ A.2.2.2.getD a 0 ≤ 57) : ∃ h', f_X6_readsNumber h m (nI l) (nI M) = some (nI (if (48 ≤ A.2.2.2.getD (a + 1) 0 ∧ A.2.2.2.getD (a + 1) 0 ≤ 57) ∧ 0 < A.2.2.2.getD a 0 - 48 ∧ 10 * (A.2.2.2.getD a 0 - 48) + (A.2.2.2.getD (a + 1) 0 - 48) ≤ M then 10 * (A.2.2.2.getD a 0 - 48) + (A.2.2.2.getD (a + 1) 0 - 48) else A.2.2.2.getD a 0 - 48), h') ∧ repR9 h' m t A (if (48 ≤ A.2.2.2.getD (a + 1) 0 ∧ A.2.2.2.getD (a + 1) 0 ≤ 57) ∧ 0 < A.2.2.2.getD a 0 - 48 ∧ 10 * (A.2.2.2.getD a 0 - 48) + (A.2.2.2.getD (a + 1) 0 - 48) ≤ M then a + 2 else a + 1) false sg f s ∧ onM m h h' := by
  have h126 := getD_126 W (a + 1)
  have hal : a < A.2.2.2.length := getD_lt (by omega)
  have e0 : (48 : Int32) + nI l = nI (48 + l) := nI_add 48 l
  obtain ⟨h1, a1, a2, a3⟩ := M_readsY W H ha (lo := 48 + l) (hi := 57) (by omega) (by omega) hc
  have a1 : f_X6_reads h m (nI (48 + l)) (57 : Int32) = some (nI (A.2.2.2.getD a 0 - (48 + l)), h1) := a1
  have e1 : nI l + nI (A.2.2.2.getD a 0 - (48 + l)) = nI (A.2.2.2.getD a 0 - 48) := by
    rw [nI_add]
    congr 1
    omega
  obtain ⟨K, hK⟩ := LF_s
  by_cases hv : A.2.2.2.getD a 0 - 48 = 0
  · have c1 : nI (A.2.2.2.getD a 0 - 48) ≤ 0 := by rw [hv]; decide
    have c2 : ¬ ((48 ≤ A.2.2.2.getD (a + 1) 0 ∧ A.2.2.2.getD (a + 1) 0 ≤ 57) ∧ 0 < A.2.2.2.getD a 0 - 48 ∧ 10 * (A.2.2.2.getD a 0 - 48) + (A.2.2.2.getD (a + 1) 0 - 48) ≤ M) := fun q => by omega
    rw [if_neg c2, if_neg c2]
    refine ⟨h1, ?_, a2, a3⟩
    have e2 : lpn (f_X6_readsNumber_L24 m (nI M)) LF (nI (A.2.2.2.getD a 0 - 48), 0, h1) = some (nI (A.2.2.2.getD a 0 - 48), h1) := by
      rw [hK]
      exact lpn_r (N_end _ _)
    simp only [f_X6_readsNumber, H.toM.ok, if_true, e0, a1, bs9, e1, if_pos c1, f_X6_readsNumber_J22, e2, f_X6_readsNumber_J94]
  · have c1 : ¬ nI (A.2.2.2.getD a 0 - 48) ≤ 0 := nI_nle (by omega) (by omega)
    by_cases c2 : (48 ≤ A.2.2.2.getD (a + 1) 0 ∧ A.2.2.2.getD (a + 1) 0 ≤ 57) ∧ 0 < A.2.2.2.getD a 0 - 48 ∧ 10 * (A.2.2.2.getD a 0 - 48) + (A.2.2.2.getD (a + 1) 0 - 48) ≤ M
    · rw [if_pos c2, if_pos c2]
      obtain ⟨h2, b1, b2, b3⟩ := N_go W a2 (by omega) hM (v := A.2.2.2.getD a 0 - 48) (by omega) c2.1 c2.2.2
      have hb2 : a + 1 < A.2.2.2.length := getD_lt (by omega)
      have b4 := N_stop W b2 (by omega) hM (v := 10 * (A.2.2.2.getD a 0 - 48) + (A.2.2.2.getD (a + 1) 0 - 48)) (by omega) (Or.inr (fun q => by omega))
      have e2 : lpn (f_X6_readsNumber_L24 m (nI M)) LF (nI (A.2.2.2.getD a 0 - 48), 1, h1) = some (nI (10 * (A.2.2.2.getD a 0 - 48) + (A.2.2.2.getD (a + 1) 0 - 48)), h2) := by
        rw [hK, lpn_l b1, lpn_l b4]
        exact lpn_r (N_end _ _)
      refine ⟨h2, ?_, b2, a3.tr b3⟩
      simp only [f_X6_readsNumber, H.toM.ok, if_true, e0, a1, bs9, e1, if_neg c1, f_X6_readsNumber_J22, e2, f_X6_readsNumber_J94]
    · rw [if_neg c2, if_neg c2]
      have b4 := N_stop W a2 (by omega) hM (v := A.2.2.2.getD a 0 - 48) (by omega) (Or.inr (fun q => c2 ⟨q.1, by omega, q.2⟩))
      have e2 : lpn (f_X6_readsNumber_L24 m (nI M)) LF (nI (A.2.2.2.getD a 0 - 48), 1, h1) = some (nI (A.2.2.2.getD a 0 - 48), h1) := by
        rw [hK, lpn_l b4]
        exact lpn_r (N_end _ _)
      refine ⟨h1, ?_, a2, a3⟩
      simp only [f_X6_readsNumber, H.toM.ok, if_true, e0, a1, bs9, e1, if_neg c1, f_X6_readsNumber_J22, e2, f_X6_readsNumber_J94]
theorem M_numN (W : wfX A.2.2.2) (H : repR9 h m t A a false sg f s) (ha : a ≤ A.2.2.2.length) {l M : Nat} (hl : l ≤ 1) (hc : ¬ (48 + l ≤ A.2.2.2.getD a 0 ∧ A.2.2.2.getD a 0 ≤ 57)) : ∃ v h', f_X6_readsNumber h m (nI l) (nI M) = some (v, h') ∧ repR9 h' m t A a true sg f s ∧ onM m h h' := by
  have e0 : (48 : Int32) + nI l = nI (48 + l) := nI_add 48 l
  obtain ⟨v, h1, a1, a2, a3⟩ := M_readsN W H ha (lo := 48 + l) (hi := 57) (by omega) (by omega) (Or.inr hc)
  have a1 : f_X6_reads h m (nI (48 + l)) (57 : Int32) = some (v, h1) := a1
  obtain ⟨K, hK⟩ := LF_s
  refine ⟨nI l + v, h1, ?_, a2, a3⟩
  by_cases c1 : nI l + v ≤ 0
  · have e2 : lpn (f_X6_readsNumber_L24 m (nI M)) LF (nI l + v, 0, h1) = some (nI l + v, h1) := by
      rw [hK]
      exact lpn_r (N_end _ _)
    simp only [f_X6_readsNumber, H.toM.ok, if_true, e0, a1, bs9, if_pos c1, f_X6_readsNumber_J22, e2, f_X6_readsNumber_J94]
  · have e2 : lpn (f_X6_readsNumber_L24 m (nI M)) LF (nI l + v, 1, h1) = some (nI l + v, h1) := by
      rw [hK, lpn_l (N_wrong W a2 ha _ _)]
      exact lpn_r (N_end _ _)
    simp only [f_X6_readsNumber, H.toM.ok, if_true, e0, a1, bs9, if_neg c1, f_X6_readsNumber_J22, e2, f_X6_readsNumber_J94]
theorem M_part24 (W : wfX A.2.2.2) (H : repR9 h m t A a wr sg f s) (ha : a ≤ A.2.2.2.length) : f_X6_readsPart h m = f_X6_readsPart_J24 h m (nI (A.2.2.2.getD a 0)) := by
  have hX := W.1
  by_cases hl : a < A.2.2.2.length
  · have c1 : ¬ nI A.2.2.2.length ≤ nI a := nI_ge hl (by omega)
    simp only [f_X6_readsPart, H.toM.ok, if_true, H.i10, H.i8, if_neg c1, H.r7, H.l7 W hl, bs9]
  · have c1 : nI A.2.2.2.length ≤ nI a := nI_le (by omega) (by omega)
    have e0 : A.2.2.2.getD a 0 = 0 := by
      rw [List.getD_eq_getElem?_getD, List.getElem?_eq_none (by omega)]
      rfl
    rw [e0]
    simp only [f_X6_readsPart, H.toM.ok, if_true, H.i10, H.i8, if_pos c1, bs9]
    rfl
/-- how a part is read -/
theorem M_readsPart (W : wfX A.2.2.2) (H : repR9 h m t A a false sg f s) (ha : a ≤ A.2.2.2.length) : ∃ h', f_X6_readsPart h m = some h' ∧ onM m h h' ∧ match prt A.2.2.2 a with
    | .error w => ∃ sg' f' s', repR9 h' m t A w true sg' f' s'
    | .ok v => ∃ f', repR9 h' m t A v.2.2.2 false (nI v.1) f' (nI v.2.2.1) ∧ (¬ v.1 = 60 → f' = nI v.2.1) := by
  have h126 := getD_126 W a
  have e97 : f_X6_in h (nI (A.2.2.2.getD a 0)) 97 104 = some (bI (decide (97 ≤ A.2.2.2.getD a 0 ∧ A.2.2.2.getD a 0 ≤ 104))) := M_inN h (lo := 97) (hi := 104) (by omega) (by omega) (by omega)
  have e97' : ∀ h', f_X6_in h' (nI (A.2.2.2.getD a 0)) 97 104 = some (bI (decide (97 ≤ A.2.2.2.getD a 0 ∧ A.2.2.2.getD a 0 ≤ 104))) := fun h' => M_inN h' (lo := 97) (hi := 104) (by omega) (by omega) (by omega)
  have c1 : ¬ ¬ bI false = 0 := fun q => q rfl
  have cz : z01 (0 : Int32) = true ∧ z01 (1 : Int32) = true := ⟨rfl, rfl⟩
  have b0 : bI false = 0 := rfl
  have b1 : ¬ bI true = 0 := by decide
  have n0 : nI a + (0 : Int32) = nI a := nI_add a 0
  rw [M_part24 W H ha]
  have ne : ∀ k : Nat, k < 127 → (nI (A.2.2.2.getD a 0) = nI k ↔ A.2.2.2.getD a 0 = k) := fun k hk => nI_eq (by omega) (by omega)
  -- a part begins
  have J66 : ∃ h2, f_X6_readsPart_J66 h m (nI (A.2.2.2.getD a 0)) m = f_X6_readsPart_J109 h2 m (nI (A.2.2.2.getD a 0)) m (if 97 ≤ A.2.2.2.getD a 0 ∧ A.2.2.2.getD a 0 ≤ 104 then 97 else nI (A.2.2.2.getD a 0)) ∧ repR9 h2 m t A (a + 1) false sg f s ∧ onM m h h2 := by
    obtain ⟨h1, a1, a2, a3⟩ := H.w11 false
    have a1 : wrF h m 5 11 (.int (0 : Int32)) = some h1 := a1
    obtain ⟨h2, d1, d2, d3⟩ := a2.w10 (a + 1)
    refine ⟨h2, ?_, d2, a3.tr d3⟩
    simp only [f_X6_readsPart_J66, f_X6_readsPart_J67, f_X6_readsPart_J87, cz.1, if_true, a1, a2.i10, a2.i11, if_pos b0, nI_1, d1, e97' h2, bs9]
    by_cases hh : 97 ≤ A.2.2.2.getD a 0 ∧ A.2.2.2.getD a 0 ≤ 104
    · rw [decide_eq_true hh, if_neg b1, if_pos hh]
    · rw [decide_eq_false hh, if_pos b0, if_neg hh]
  obtain ⟨h2, j1, j2, j3⟩ := J66
  by_cases x114 : A.2.2.2.getD a 0 = 114
  · have hp : prt A.2.2.2 a = (if 49 ≤ A.2.2.2.getD (a + 1) 0 ∧ A.2.2.2.getD (a + 1) 0 ≤ 57 then
      (if (48 ≤ A.2.2.2.getD (a + 2) 0 ∧ A.2.2.2.getD (a + 2) 0 ≤ 57) ∧ 10 * (A.2.2.2.getD (a + 1) 0 - 48) + (A.2.2.2.getD (a + 2) 0 - 48) ≤ 60 then .ok (114, 10 * (A.2.2.2.getD (a + 1) 0 - 48) + (A.2.2.2.getD (a + 2) 0 - 48), 0, a + 3) else .ok (114, A.2.2.2.getD (a + 1) 0 - 48, 0, a + 2))
      else .error (a + 1)) := by
      unfold prt
      rw [if_pos x114]
    have hal : a < A.2.2.2.length := getD_lt (by omega)
    have k1 : nI (A.2.2.2.getD a 0) = (114 : Int32) := (ne 114 (by omega)).mpr x114
    have s0 : f_X6_readsPart_J24 h m (nI (A.2.2.2.getD a 0)) = f_X6_readsPart_J66 h m (nI (A.2.2.2.getD a 0)) m := by
      simp only [f_X6_readsPart_J24, H.i11, bs9, if_neg c1, if_pos k1]
    rw [s0, j1, if_neg (by omega)]
    obtain ⟨h3, d1, d2, d3⟩ := j2.w12 (nI (A.2.2.2.getD a 0))
    have k2 : ¬ ¬ nI (A.2.2.2.getD a 0) = (114 : Int32) := fun q => q k1
    have k3 : ¬ nI (A.2.2.2.getD a 0) = (97 : Int32) := fun q => by have := (ne 97 (by omega)).mp q; omega
    by_cases hc : 48 + 1 ≤ A.2.2.2.getD (a + 1) 0 ∧ A.2.2.2.getD (a + 1) 0 ≤ 57
    · obtain ⟨h4, g1, g2, g3⟩ := M_numY W d2 (by omega) (l := 1) (M := 60) (by omega) (by omega) hc
      have g1 : f_X6_readsNumber h3 m (1 : Int32) (60 : Int32) = _ := g1
      obtain ⟨h5, p1, p2, p3⟩ := g2.w13 (nI (if (48 ≤ A.2.2.2.getD (a + 1 + 1) 0 ∧ A.2.2.2.getD (a + 1 + 1) 0 ≤ 57) ∧ 0 < A.2.2.2.getD (a + 1) 0 - 48 ∧ 10 * (A.2.2.2.getD (a + 1) 0 - 48) + (A.2.2.2.getD (a + 1 + 1) 0 - 48) ≤ 60 then 10 * (A.2.2.2.getD (a + 1) 0 - 48) + (A.2.2.2.getD (a + 1 + 1) 0 - 48) else A.2.2.2.getD (a + 1) 0 - 48))
      obtain ⟨h6, q1, q2, q3⟩ := p2.w14 0
      refine ⟨h6, ?_, j3.tr (d3.tr (g3.tr (p3.tr q3))), ?_⟩
      · simp only [f_X6_readsPart_J109, f_X6_readsPart_J150, f_X6_readsPart_J174, d1, bs9, if_neg k2, g1, p1, p2.i12, if_pos k3, q1]
      · rw [hp, if_pos (show 49 ≤ A.2.2.2.getD (a + 1) 0 ∧ A.2.2.2.getD (a + 1) 0 ≤ 57 from hc)]
        by_cases hc2 : (48 ≤ A.2.2.2.getD (a + 2) 0 ∧ A.2.2.2.getD (a + 2) 0 ≤ 57) ∧ 10 * (A.2.2.2.getD (a + 1) 0 - 48) + (A.2.2.2.getD (a + 2) 0 - 48) ≤ 60
        · rw [if_pos hc2]
          have hc3 : (48 ≤ A.2.2.2.getD (a + 1 + 1) 0 ∧ A.2.2.2.getD (a + 1 + 1) 0 ≤ 57) ∧ 0 < A.2.2.2.getD (a + 1) 0 - 48 ∧ 10 * (A.2.2.2.getD (a + 1) 0 - 48) + (A.2.2.2.getD (a + 1 + 1) 0 - 48) ≤ 60 := ⟨hc2.1, by omega, hc2.2⟩
          rw [if_pos hc3, if_pos hc3, k1] at q2
          exact ⟨_, q2, fun _ => rfl⟩
        · rw [if_neg hc2]
          have hc3 : ¬ ((48 ≤ A.2.2.2.getD (a + 1 + 1) 0 ∧ A.2.2.2.getD (a + 1 + 1) 0 ≤ 57) ∧ 0 < A.2.2.2.getD (a + 1) 0 - 48 ∧ 10 * (A.2.2.2.getD (a + 1) 0 - 48) + (A.2.2.2.getD (a + 1 + 1) 0 - 48) ≤ 60) := fun q => hc2 ⟨q.1, q.2.2⟩
          rw [if_neg hc3, if_neg hc3, k1] at q2
          exact ⟨_, q2, fun _ => rfl⟩
    · obtain ⟨v, h4, g1, g2, g3⟩ := M_numN W d2 (by omega) (l := 1) (M := 60) (by omega) hc
      have g1 : f_X6_readsNumber h3 m (1 : Int32) (60 : Int32) = some (v, h4) := g1
      obtain ⟨h5, p1, p2, p3⟩ := g2.w13 v
      obtain ⟨h6, q1, q2, q3⟩ := p2.w14 0
      refine ⟨h6, ?_, j3.tr (d3.tr (g3.tr (p3.tr q3))), ?_⟩
      · simp only [f_X6_readsPart_J109, f_X6_readsPart_J150, f_X6_readsPart_J174, d1, bs9, if_neg k2, g1, p1, p2.i12, if_pos k3, q1]
      · rw [hp, if_neg (show ¬ (49 ≤ A.2.2.2.getD (a + 1) 0 ∧ A.2.2.2.getD (a + 1) 0 ≤ 57) from hc)]
        exact ⟨_, _, _, q2⟩
  · have k1 : ¬ nI (A.2.2.2.getD a 0) = (114 : Int32) := fun q => x114 ((ne 114 (by omega)).mp q)
    by_cases xh : 97 ≤ A.2.2.2.getD a 0 ∧ A.2.2.2.getD a 0 ≤ 104
    · have hp : prt A.2.2.2 a = (if 48 ≤ A.2.2.2.getD (a + 1) 0 ∧ A.2.2.2.getD (a + 1) 0 ≤ 57 then
        (if (48 ≤ A.2.2.2.getD (a + 2) 0 ∧ A.2.2.2.getD (a + 2) 0 ≤ 57) ∧ 0 < A.2.2.2.getD (a + 1) 0 - 48 ∧ 10 * (A.2.2.2.getD (a + 1) 0 - 48) + (A.2.2.2.getD (a + 2) 0 - 48) ≤ 19 then .ok (97, A.2.2.2.getD a 0 - 97, 10 * (A.2.2.2.getD (a + 1) 0 - 48) + (A.2.2.2.getD (a + 2) 0 - 48), a + 3) else .ok (97, A.2.2.2.getD a 0 - 97, A.2.2.2.getD (a + 1) 0 - 48, a + 2))
        else .error (a + 1)) := by
        unfold prt
        rw [if_neg x114, if_pos xh]
      have hal : a < A.2.2.2.length := getD_lt (by omega)
      have k45 : ¬ nI (A.2.2.2.getD a 0) = (45 : Int32) := fun q => by have := (ne 45 (by omega)).mp q; omega
      have k60 : ¬ nI (A.2.2.2.getD a 0) = (60 : Int32) := fun q => by have := (ne 60 (by omega)).mp q; omega
      have s0 : f_X6_readsPart_J24 h m (nI (A.2.2.2.getD a 0)) = f_X6_readsPart_J66 h m (nI (A.2.2.2.getD a 0)) m := by
        simp only [f_X6_readsPart_J24, H.i11, bs9, if_neg c1, if_neg k1, if_neg k45, if_neg k60, e97, decide_eq_true xh, if_pos b1]
      rw [s0, j1, if_pos xh]
      obtain ⟨h3, d1, d2, d3⟩ := j2.w12 97
      have k97 : ¬ ¬ (97 : Int32) = 97 := fun q => q rfl
      have n7 : nI (A.2.2.2.getD a 0) - (97 : Int32) = nI (A.2.2.2.getD a 0 - 97) := nI_sub (b := 97) xh.1
      obtain ⟨h4, p1, p2, p3⟩ := d2.w13 (nI (A.2.2.2.getD a 0 - 97))
      by_cases hc : 48 + 0 ≤ A.2.2.2.getD (a + 1) 0 ∧ A.2.2.2.getD (a + 1) 0 ≤ 57
      · obtain ⟨h5, g1, g2, g3⟩ := M_numY W p2 (by omega) (l := 0) (M := 19) (by omega) (by omega) hc
        have g1 : f_X6_readsNumber h4 m (0 : Int32) (19 : Int32) = _ := g1
        obtain ⟨h6, q1, q2, q3⟩ := g2.w14 (nI (if (48 ≤ A.2.2.2.getD (a + 1 + 1) 0 ∧ A.2.2.2.getD (a + 1 + 1) 0 ≤ 57) ∧ 0 < A.2.2.2.getD (a + 1) 0 - 48 ∧ 10 * (A.2.2.2.getD (a + 1) 0 - 48) + (A.2.2.2.getD (a + 1 + 1) 0 - 48) ≤ 19 then 10 * (A.2.2.2.getD (a + 1) 0 - 48) + (A.2.2.2.getD (a + 1 + 1) 0 - 48) else A.2.2.2.getD (a + 1) 0 - 48))
        refine ⟨h6, ?_, j3.tr (d3.tr (p3.tr (g3.tr q3))), ?_⟩
        · simp only [f_X6_readsPart_J109, f_X6_readsPart_J150, f_X6_readsPart_J174, d1, bs9, if_pos k1, if_pos k45, n7, p1, p2.i12, if_neg k97, g1, q1, not_true_eq_false, if_false]
        · rw [hp, if_pos (show 48 ≤ A.2.2.2.getD (a + 1) 0 ∧ A.2.2.2.getD (a + 1) 0 ≤ 57 from hc)]
          by_cases hc2 : (48 ≤ A.2.2.2.getD (a + 2) 0 ∧ A.2.2.2.getD (a + 2) 0 ≤ 57) ∧ 0 < A.2.2.2.getD (a + 1) 0 - 48 ∧ 10 * (A.2.2.2.getD (a + 1) 0 - 48) + (A.2.2.2.getD (a + 2) 0 - 48) ≤ 19
          · rw [if_pos hc2]
            have hc3 : (48 ≤ A.2.2.2.getD (a + 1 + 1) 0 ∧ A.2.2.2.getD (a + 1 + 1) 0 ≤ 57) ∧ 0 < A.2.2.2.getD (a + 1) 0 - 48 ∧ 10 * (A.2.2.2.getD (a + 1) 0 - 48) + (A.2.2.2.getD (a + 1 + 1) 0 - 48) ≤ 19 := hc2
            rw [if_pos hc3, if_pos hc3] at q2
            exact ⟨_, q2, fun _ => rfl⟩
          · rw [if_neg hc2]
            have hc3 : ¬ ((48 ≤ A.2.2.2.getD (a + 1 + 1) 0 ∧ A.2.2.2.getD (a + 1 + 1) 0 ≤ 57) ∧ 0 < A.2.2.2.getD (a + 1) 0 - 48 ∧ 10 * (A.2.2.2.getD (a + 1) 0 - 48) + (A.2.2.2.getD (a + 1 + 1) 0 - 48) ≤ 19) := hc2
            rw [if_neg hc3, if_neg hc3] at q2
            exact ⟨_, q2, fun _ => rfl⟩
      · obtain ⟨v, h5, g1, g2, g3⟩ := M_numN W p2 (by omega) (l := 0) (M := 19) (by omega) hc
        have g1 : f_X6_readsNumber h4 m (0 : Int32) (19 : Int32) = some (v, h5) := g1
        obtain ⟨h6, q1, q2, q3⟩ := g2.w14 v
        refine ⟨h6, ?_, j3.tr (d3.tr (p3.tr (g3.tr q3))), ?_⟩
        · simp only [f_X6_readsPart_J109, f_X6_readsPart_J150, f_X6_readsPart_J174, d1, bs9, if_pos k1, if_pos k45, n7, p1, p2.i12, if_neg k97, g1, q1, not_true_eq_false, if_false]
        · rw [hp, if_neg (show ¬ (48 ≤ A.2.2.2.getD (a + 1) 0 ∧ A.2.2.2.getD (a + 1) 0 ≤ 57) from hc)]
          exact ⟨_, _, _, q2⟩
    · have k97 : ¬ nI (A.2.2.2.getD a 0) = (97 : Int32) := fun q => by have := (ne 97 (by omega)).mp q; omega
      by_cases x45 : A.2.2.2.getD a 0 = 45
      · have hp : prt A.2.2.2 a = (if 97 ≤ A.2.2.2.getD (a + 1) 0 ∧ A.2.2.2.getD (a + 1) 0 ≤ 104 then .ok (45, A.2.2.2.getD (a + 1) 0 - 97, 0, a + 2) else .error (a + 1)) := by
          unfold prt
          rw [if_neg x114, if_neg xh, if_pos x45]
        have hal : a < A.2.2.2.length := getD_lt (by omega)
        have k45 : nI (A.2.2.2.getD a 0) = (45 : Int32) := (ne 45 (by omega)).mpr x45
        have s0 : f_X6_readsPart_J24 h m (nI (A.2.2.2.getD a 0)) = f_X6_readsPart_J66 h m (nI (A.2.2.2.getD a 0)) m := by
          simp only [f_X6_readsPart_J24, H.i11, bs9, if_neg c1, if_neg k1, if_pos k45]
        rw [s0, j1, if_neg xh]
        obtain ⟨h3, d1, d2, d3⟩ := j2.w12 (nI (A.2.2.2.getD a 0))
        have k45' : ¬ ¬ nI (A.2.2.2.getD a 0) = (45 : Int32) := fun q => q k45
        by_cases hc : 97 ≤ A.2.2.2.getD (a + 1) 0 ∧ A.2.2.2.getD (a + 1) 0 ≤ 104
        · obtain ⟨h4, g1, g2, g3⟩ := M_readsY W d2 (by omega) (lo := 97) (hi := 104) (by omega) (by omega) hc
          have g1 : f_X6_reads h3 m (97 : Int32) (104 : Int32) = _ := g1
          obtain ⟨h5, p1, p2, p3⟩ := g2.w13 (nI (A.2.2.2.getD (a + 1) 0 - 97))
          obtain ⟨h6, q1, q2, q3⟩ := p2.w14 0
          refine ⟨h6, ?_, j3.tr (d3.tr (g3.tr (p3.tr q3))), ?_⟩
          · simp only [f_X6_readsPart_J109, f_X6_readsPart_J150, f_X6_readsPart_J174, d1, bs9, if_pos k1, if_neg k45', g1, p1, p2.i12, if_pos k97, q1]
          · rw [hp, if_pos hc]
            rw [k45] at q2
            exact ⟨_, q2, fun _ => rfl⟩
        · obtain ⟨v, h4, g1, g2, g3⟩ := M_readsN W d2 (by omega) (lo := 97) (hi := 104) (by omega) (by omega) (Or.inr hc)
          have g1 : f_X6_reads h3 m (97 : Int32) (104 : Int32) = some (v, h4) := g1
          obtain ⟨h5, p1, p2, p3⟩ := g2.w13 v
          obtain ⟨h6, q1, q2, q3⟩ := p2.w14 0
          refine ⟨h6, ?_, j3.tr (d3.tr (g3.tr (p3.tr q3))), ?_⟩
          · simp only [f_X6_readsPart_J109, f_X6_readsPart_J150, f_X6_readsPart_J174, d1, bs9, if_pos k1, if_neg k45', g1, p1, p2.i12, if_pos k97, q1]
          · rw [hp, if_neg hc]
            exact ⟨_, _, _, q2⟩
      · have k45 : ¬ nI (A.2.2.2.getD a 0) = (45 : Int32) := fun q => x45 ((ne 45 (by omega)).mp q)
        by_cases x60 : A.2.2.2.getD a 0 = 60
        · have hp : prt A.2.2.2 a = .ok (60, 0, 0, a + 1) := by
            unfold prt
            rw [if_neg x114, if_neg xh, if_neg x45, if_pos x60]
          have k60 : nI (A.2.2.2.getD a 0) = (60 : Int32) := (ne 60 (by omega)).mpr x60
          have s0 : f_X6_readsPart_J24 h m (nI (A.2.2.2.getD a 0)) = f_X6_readsPart_J66 h m (nI (A.2.2.2.getD a 0)) m := by
            simp only [f_X6_readsPart_J24, H.i11, bs9, if_neg c1, if_neg k1, if_neg k45, if_pos k60]
          rw [s0, j1, if_neg xh]
          obtain ⟨h3, d1, d2, d3⟩ := j2.w12 (nI (A.2.2.2.getD a 0))
          obtain ⟨h5, p1, p2, p3⟩ := d2.w13 (nI (A.2.2.2.getD a 0) - 97)
          obtain ⟨h6, q1, q2, q3⟩ := p2.w14 0
          refine ⟨h6, ?_, j3.tr (d3.tr (p3.tr q3)), ?_⟩
          · simp only [f_X6_readsPart_J109, f_X6_readsPart_J150, f_X6_readsPart_J174, d1, bs9, if_pos k1, if_pos k45, p1, p2.i12, if_pos k97, q1]
          · rw [hp]
            rw [k60] at q2
            exact ⟨_, q2, fun q => absurd rfl q⟩
        · have hp : prt A.2.2.2 a = .error a := by
            unfold prt
            rw [if_neg x114, if_neg xh, if_neg x45, if_neg x60]
          have k60 : ¬ nI (A.2.2.2.getD a 0) = (60 : Int32) := fun q => x60 ((ne 60 (by omega)).mp q)
          obtain ⟨g1, a1, a2, a3⟩ := H.w11 true
          have a1 : wrF h m 5 11 (.int (1 : Int32)) = some g1 := a1
          obtain ⟨g2, d1, d2, d3⟩ := a2.w10 a
          obtain ⟨g3, f1, f2, f3⟩ := d2.w12 (nI (A.2.2.2.getD a 0))
          obtain ⟨h5, p1, p2, p3⟩ := f2.w13 (nI (A.2.2.2.getD a 0) - 97)
          obtain ⟨h6, q1, q2, q3⟩ := p2.w14 0
          refine ⟨h6, ?_, a3.tr (d3.tr (f3.tr (p3.tr q3))), ?_⟩
          · have b0' : ¬ ¬ bI false = 0 := c1
            simp only [f_X6_readsPart_J24, H.i11, bs9, if_neg c1, if_neg k1, if_neg k45, if_neg k60, e97, decide_eq_false xh, f_X6_readsPart_J62, f_X6_readsPart_J67, cz.2, if_true, a1, a2.i10, a2.i11, if_neg b1, f_X6_readsPart_J87, n0, d1, e97' g2, if_pos b0, f_X6_readsPart_J109, f1, if_pos k1, if_pos k45, f_X6_readsPart_J150, p1, p2.i12, if_pos k97, f_X6_readsPart_J174, q1]
          · rw [hp]
            exact ⟨_, _, _, q2⟩
end Reader
