/-! PURE READING, 36: the reference: the digest -/
/-- the reference's object with the digest so far -/
def repD (h : PH) (m : Nat) (t : Int32) (A : AAt) (J : Int64) : Prop := ∃ I F, cM h m I F J ∧ I 0 = t ∧ repA (F 1) A.1 ∧ (I 4 = bI A.2.2.1.isSome ∧ ∀ T, A.2.2.1 = some T → repA (F 3) T) ∧ (I 6 = nI A.2.1.length ∧ ∀ k T, A.2.1[k]? = some T → repA (fun j => F 5 (84 * k + j)) T) ∧ I 8 = nI A.2.2.2.length ∧ ∀ i c, A.2.2.2[i]? = some c → F 7 i = nI c
theorem repD.m {h : PH} {m : Nat} {t : Int32} {A : AAt} {J : Int64} (H : repD h m t A J) : repM h m t A := by
  obtain ⟨I, F, H1⟩ := H
  exact ⟨I, F, J, H1⟩
section ModelDigest
variable {h : PH} {m : Nat} {t : Int32} {A : AAt} {J : Int64}
theorem M_one (H : repD h m t A J) (v : Int64) : ∃ h', f_X6_digestOne h m v = some h' ∧ repD h' m t A (mix9 J v) ∧ onM m h h' := by
  obtain ⟨I, F, H1, H2⟩ := H
  obtain ⟨h', e1, e2, e3⟩ := H1.wJ (mix9 J v)
  refine ⟨h', ?_, ⟨I, F, e2, H2⟩, e3⟩
  have e1 : wrF h m 5 15 (.long ((31 : Int64) * J + v)) = some h' := e1
  simp only [f_X6_digestOne, H1.ok, H1.j, if_true, bs9, e1]
theorem dg_loop {b : Int32 × PH → Option ((Int32 × PH) ⊕ PH)} {G : Nat → Int64 → Int64} {n : Nat} (hn : n < 1000) (H : repD h m t A J) (hs : ∀ j h' J', j < n → repD h' m t A J' → onM m h h' → ∃ h'', b (nI j, h') = some (.inl (nI (j + 1), h'')) ∧ repD h'' m t A (G j J') ∧ onM m h' h'') (he : ∀ h' J', repD h' m t A J' → b (nI n, h') = some (.inr h')) : ∃ h', lpn b LF (0, h) = some h' ∧ repD h' m t A (dgN G n J) ∧ onM m h h' := by
  refine lpn_inv (b := b) (fun j (z : Int32 × PH) => z.1 = nI j ∧ repD z.2 m t A (dgN G j J) ∧ onM m h z.2) (fun z => repD z m t A (dgN G n J) ∧ onM m h z) n ?_ ?_ n 0 LF (0, h) (by omega) (by unfold LF; omega) ⟨rfl, H, onM.rf⟩
  · rintro j ⟨z1, z2⟩ hj ⟨i1, i2, i3⟩
    dsimp only at i1 i2 i3
    subst i1
    obtain ⟨h'', e1, e2, e3⟩ := hs j z2 _ hj i2 i3
    exact ⟨(nI (j + 1), h''), e1, rfl, e2, i3.tr e3⟩
  · rintro ⟨z1, z2⟩ ⟨i1, i2, i3⟩
    dsimp only at i1 i2 i3
    subst i1
    exact ⟨z2, he z2 _ i2, i2, i3⟩
theorem M_whyNotD (W : wfA A) (H : repD h m t A J) {i j : Nat} (hi : i < A.1.2.1.length) (hj : j < A.1.2.1.length) : ∃ h', f_X6_whyNotJoined h m (nI i) (nI j) = some (nI (rjR A.1.1 A.1.2.1 i j), h') ∧ repD h' m t A J ∧ onM m h h' := by
  obtain ⟨I, F, H1, H2, H3, H4, H5, H6, H7⟩ := H
  obtain ⟨h', s', o, e1, e2, e3, e4⟩ := M_whyNot (s := F 1) (by rw [upF_self]; exact H1) H3 W.1 hi hj
  exact ⟨h', e1, ⟨I, _, e2, H2, H3.kp W.1 e4, H4, H5, H6, H7⟩, e3⟩
theorem M_digestRope (W : wfA A) (H : repD h m t A J) {i : Nat} (hi : i < A.1.2.1.length) : ∃ h', f_X6_digestRope h m (nI i) = some h' ∧ repD h' m t A (ropeD A.1.1 A.1.2.1 i J) ∧ onM m h h' := by
  have hR := W.1.2.1
  have hg := W.1.1
  have WR := W.1.2.2 _ (atR_mem hi)
  have h60 := WR.1.2
  obtain ⟨h1, a1, a2, a3⟩ := dg_loop (b := f_X6_digestRope_L2 m (nI i)) (G := fun w t => mix9 t (rnA A.1.1 (atR A.1.2.1 i) w).toInt64) (n := 6) (by omega) H (by
    intro j h' J' hj H' _
    have c1 : ¬ (6 : Int32) ≤ nI j := nI_ge (b := 6) (by omega) (by omega)
    have e5 : f_X6_toldOfRope h' m (nI i) (nI j) = some (rnA A.1.1 (atR A.1.2.1 i) j) := by
      obtain ⟨I, F, H1, H2, H3, -⟩ := H'
      exact M_toldOfRope H1 (show i < 4 by omega) (H3.q hi) H3.1 hg WR hj
    obtain ⟨h'', b1, b2, b3⟩ := M_one H' (rnA A.1.1 (atR A.1.2.1 i) j).toInt64
    refine ⟨h'', ?_, b2, b3⟩
    simp only [f_X6_digestRope_L2, if_neg c1, e5, bs9, b1, nI_1]) (by
    intro h' J' H'
    have c1 : (6 : Int32) ≤ nI 6 := nI_le (a := 6) (Nat.le_refl _) (by omega)
    simp only [f_X6_digestRope_L2, if_pos c1])
  obtain ⟨h2, b1, b2, b3⟩ := dg_loop (b := f_X6_digestRope_L27 m (nI i)) (G := fun p t => mix9 t (oI (col A.1.1 (atR A.1.2.1 i).2 p)).toInt64) (n := (atR A.1.2.1 i).1) (by omega) a2 (by
    intro j h' J' hj H' _
    have c1 : ¬ nI (atR A.1.2.1 i).1 ≤ nI j := nI_ge (by omega) (by omega)
    have e6 : rdR h' m 5 1 = some (m + 1) ∧ ldI h' (m + 1) (nI (12 + 18 * i)) = some (nI (atR A.1.2.1 i).1) := by
      obtain ⟨I, F, H1, H2, H3, -⟩ := H'
      exact ⟨H1.r1, (H1.l1 (show 12 + 18 * i < 84 by omega)).trans (congrArg some (H3.q hi).1)⟩
    have e5 : f_X6_hueAt h' m (nI i) (nI j) = some (oI (col A.1.1 (atR A.1.2.1 i).2 j)) := by
      obtain ⟨I, F, H1, H2, H3, -⟩ := H'
      exact M_hueAt H1 (show i < 4 by omega) (H3.q hi) H3.1 hg WR hj
    obtain ⟨h'', b1, b2, b3⟩ := M_one H' (oI (col A.1.1 (atR A.1.2.1 i).2 j)).toInt64
    refine ⟨h'', ?_, b2, b3⟩
    simp only [f_X6_digestRope_L27, e6.1, M_of0, e6.2, if_neg c1, e5, bs9, b1, nI_1]) (by
    intro h' J' H'
    have c1 : nI (atR A.1.2.1 i).1 ≤ nI (atR A.1.2.1 i).1 := nI_le (Nat.le_refl _) (by omega)
    have e6 : rdR h' m 5 1 = some (m + 1) ∧ ldI h' (m + 1) (nI (12 + 18 * i)) = some (nI (atR A.1.2.1 i).1) := by
      obtain ⟨I, F, H1, H2, H3, -⟩ := H'
      exact ⟨H1.r1, (H1.l1 (show 12 + 18 * i < 84 by omega)).trans (congrArg some (H3.q hi).1)⟩
    simp only [f_X6_digestRope_L27, e6.1, M_of0, e6.2, bs9, if_pos c1])
  obtain ⟨h3, d1, d2, d3⟩ := dg_loop (b := f_X6_digestRope_L60 m (nI i)) (G := hueD A.1.1 (atR A.1.2.1 i)) (n := 8) (by omega) b2 (by
    intro j h' J' hj H' _
    have c1 : ¬ (8 : Int32) ≤ nI j := nI_ge (b := 8) (by omega) (by omega)
    obtain ⟨x1, p1, p2, p3⟩ := dg_loop (b := f_X6_digestRope_L68 m (nI i) (nI j)) (G := fun w t => mix9 t (hnA A.1.1 (atR A.1.2.1 i).1 (atR A.1.2.1 i).2 j w).toInt64) (n := 4) (by omega) H' (by
      intro w h2 J2 hw H2 _
      have c1 : ¬ (4 : Int32) ≤ nI w := nI_ge (b := 4) (by omega) (by omega)
      have e5 : f_X6_toldOfHue h2 m (nI i) (nI j) (nI w) = some (hnA A.1.1 (atR A.1.2.1 i).1 (atR A.1.2.1 i).2 j w) := by
        obtain ⟨I, F, H1, H2, H3, -⟩ := H2
        exact M_toldOfHue H1 (show i < 4 by omega) (H3.q hi) H3.1 hg WR hj hw
      obtain ⟨h'', b1, b2, b3⟩ := M_one H2 (hnA A.1.1 (atR A.1.2.1 i).1 (atR A.1.2.1 i).2 j w).toInt64
      refine ⟨h'', ?_, b2, b3⟩
      simp only [f_X6_digestRope_L68, if_neg c1, e5, bs9, b1, nI_1]) (by
      intro h2 J2 H2
      have c1 : (4 : Int32) ≤ nI 4 := nI_le (a := 4) (Nat.le_refl _) (by omega)
      simp only [f_X6_digestRope_L68, if_pos c1])
    obtain ⟨x2, q1, q2, q3⟩ := dg_loop (b := f_X6_digestRope_L93 m (nI i) (nI j)) (G := fun w t => mix9 t (pnA A.1.1 (atR A.1.2.1 i).1 (atR A.1.2.1 i).2 j w).toInt64) (n := 3) (by omega) p2 (by
      intro w h2 J2 hw H2 _
      have c1 : ¬ (3 : Int32) ≤ nI w := nI_ge (b := 3) (by omega) (by omega)
      have e5 : f_X6_toldOfPhases h2 m (nI i) (nI j) (nI w) = some (pnA A.1.1 (atR A.1.2.1 i).1 (atR A.1.2.1 i).2 j w) := by
        obtain ⟨I, F, H1, H2, H3, -⟩ := H2
        exact M_toldOfPhases H1 (show i < 4 by omega) (H3.q hi) H3.1 hg WR hj hw
      obtain ⟨h'', b1, b2, b3⟩ := M_one H2 (pnA A.1.1 (atR A.1.2.1 i).1 (atR A.1.2.1 i).2 j w).toInt64
      refine ⟨h'', ?_, b2, b3⟩
      simp only [f_X6_digestRope_L93, if_neg c1, e5, bs9, b1, nI_1]) (by
      intro h2 J2 H2
      have c1 : (3 : Int32) ≤ nI 3 := nI_le (a := 3) (Nat.le_refl _) (by omega)
      simp only [f_X6_digestRope_L93, if_pos c1])
    refine ⟨x2, ?_, q2, p3.tr q3⟩
    simp only [f_X6_digestRope_L60, f_X6_digestRope_J91, f_X6_digestRope_J116, if_neg c1, p1, q1, bs9, nI_1]) (by
    intro h' J' H'
    have c1 : (8 : Int32) ≤ nI 8 := nI_le (a := 8) (Nat.le_refl _) (by omega)
    simp only [f_X6_digestRope_L60, if_pos c1])
  have e5 : f_X6_best h3 m (nI i) = some (oI (bstA A.1.1 (atR A.1.2.1 i).1 (atR A.1.2.1 i).2 8).1) := by
    obtain ⟨I, F, H1, H2, H3, -⟩ := d2
    exact M_best H1 (show i < 4 by omega) (H3.q hi) H3.1 hg WR
  obtain ⟨h4, f1, f2, f3⟩ := M_one d2 (oI (bstA A.1.1 (atR A.1.2.1 i).1 (atR A.1.2.1 i).2 8).1).toInt64
  have e6 : f_X6_clash h4 m (nI i) = some (nI (clashA A.1.1 (atR A.1.2.1 i).2)) := by
    obtain ⟨I, F, H1, H2, H3, -⟩ := f2
    exact M_clash H1 (show i < 4 by omega) (H3.q hi) H3.1 hg WR.q
  obtain ⟨h5, g1, g2, g3⟩ := M_one f2 (nI (clashA A.1.1 (atR A.1.2.1 i).2)).toInt64
  obtain ⟨h6, k1, k2, k3⟩ := M_whyNotD W g2 hi (j := 0) (by omega)
  have k1 : f_X6_whyNotJoined h5 m (nI i) 0 = some (nI (rjR A.1.1 A.1.2.1 i 0), h6) := k1
  obtain ⟨h7, n1, n2, n3⟩ := M_one k2 (nI (rjR A.1.1 A.1.2.1 i 0)).toInt64
  refine ⟨h7, ?_, n2, a3.tr (b3.tr (d3.tr (f3.tr (g3.tr (k3.tr n3)))))⟩
  simp only [f_X6_digestRope, f_X6_digestRope_J25, f_X6_digestRope_J58, f_X6_digestRope_J122, H.m.ok, if_true, a1, b1, d1, e5, f1, e6, g1, k1, n1, bs9]
theorem M_op_digest (W : wfA A) (H : repM h m t A) : ∃ h', f_X6_digest h m = some (digA A, h') ∧ repM h' m 0 A ∧ onM m h h' := by
  have hR := W.1.2.1
  have hg := W.1.1
  have hB := W.2.2.2.2.1
  obtain ⟨I, F, J, H1, H2, H3⟩ := id H
  obtain ⟨h1, a1, a2, a3⟩ := H1.w0 0
  obtain ⟨h2, b1, b2, b3⟩ := a2.wJ 3643
  have D0 : repD h2 m 0 A 3643 := ⟨_, F, b2, upd_s _ _ _, H3⟩
  obtain ⟨h3, d1, d2, d3⟩ := dg_loop (b := f_X6_digest_L14 m) (G := fun w t => mix9 t (cntA A w).toInt64) (n := 8) (by omega) D0 (by
    intro j h' J' hj H' _
    have c1 : ¬ (8 : Int32) ≤ nI j := nI_ge (b := 8) (by omega) (by omega)
    have e5 : f_X6_counted h' m (nI j) = some (cntA A j) := by
      obtain ⟨I, F, H1, H2, H3, H4, H5, -⟩ := H'
      exact M_counted H1 H3 H5.1 W.1 hj
    obtain ⟨h'', b1, b2, b3⟩ := M_one H' (cntA A j).toInt64
    refine ⟨h'', ?_, b2, b3⟩
    simp only [f_X6_digest_L14, if_neg c1, e5, bs9, b1, nI_1]) (by
    intro h' J' H'
    have c1 : (8 : Int32) ≤ nI 8 := nI_le (a := 8) (Nat.le_refl _) (by omega)
    simp only [f_X6_digest_L14, if_pos c1])
  obtain ⟨h4, e1, e2, e3⟩ := dg_loop (b := f_X6_digest_L38 m) (G := fun u t => mix9 t (nI (A.1.1 u)).toInt64) (n := 8) (by omega) d2 (by
    intro j h' J' hj H' _
    have c1 : ¬ (8 : Int32) ≤ nI j := nI_ge (b := 8) (by omega) (by omega)
    have e6 : rdR h' m 5 1 = some (m + 1) ∧ ldI h' (m + 1) (nI j) = some (nI (A.1.1 j)) := by
      obtain ⟨I, F, H1, H2, H3, -⟩ := H'
      exact ⟨H1.r1, (H1.l1 (show j < 84 by omega)).trans (congrArg some (H3.1 j hj))⟩
    obtain ⟨h'', b1, b2, b3⟩ := M_one H' (nI (A.1.1 j)).toInt64
    refine ⟨h'', ?_, b2, b3⟩
    simp only [f_X6_digest_L38, if_neg c1, e6.1, z0, e6.2, bs9, b1, nI_1]) (by
    intro h' J' H'
    have c1 : (8 : Int32) ≤ nI 8 := nI_le (a := 8) (Nat.le_refl _) (by omega)
    simp only [f_X6_digest_L38, if_pos c1])
  obtain ⟨h5, f1, f2, f3⟩ := dg_loop (b := f_X6_digest_L65 m) (G := ropeD A.1.1 A.1.2.1) (n := A.1.2.1.length) (by omega) e2 (by
    intro j h' J' hj H' _
    have c1 : ¬ nI A.1.2.1.length ≤ nI j := nI_ge hj (by omega)
    have e6 : rdR h' m 5 1 = some (m + 1) ∧ ldI h' (m + 1) (8 : Int32) = some (nI A.1.2.1.length) := by
      obtain ⟨I, F, H1, H2, H3, -⟩ := H'
      exact ⟨H1.r1, (H1.l1 (i := 8) (by omega)).trans (congrArg some H3.2.1)⟩
    obtain ⟨h'', b1, b2, b3⟩ := M_digestRope W H' hj
    refine ⟨h'', ?_, b2, b3⟩
    simp only [f_X6_digest_L65, e6.1, e6.2, bs9, if_neg c1, b1, nI_1]) (by
    intro h' J' H'
    have c1 : nI A.1.2.1.length ≤ nI A.1.2.1.length := nI_le (Nat.le_refl _) (by omega)
    have e6 : rdR h' m 5 1 = some (m + 1) ∧ ldI h' (m + 1) (8 : Int32) = some (nI A.1.2.1.length) := by
      obtain ⟨I, F, H1, H2, H3, -⟩ := H'
      exact ⟨H1.r1, (H1.l1 (i := 8) (by omega)).trans (congrArg some H3.2.1)⟩
    simp only [f_X6_digest_L65, e6.1, e6.2, bs9, if_pos c1])
  obtain ⟨h6, g1, g2, g3⟩ := dg_loop (b := f_X6_digest_L89 m) (G := fun u t => mix9 t (oI (meetA (A.1.1 0) 1 (A.1.1 u) 0)).toInt64) (n := 8) (by omega) f2 (by
    intro j h' J' hj H' _
    have c1 : ¬ (8 : Int32) ≤ nI j := nI_ge (b := 8) (by omega) (by omega)
    have g0 := hg 0
    have gj := hg j
    have e6 : f_X6_meet h' m 0 1 (nI j) 0 = some (oI (meetA (A.1.1 0) 1 (A.1.1 j) 0)) := by
      obtain ⟨I, F, H1, H2, H3, -⟩ := H'
      exact M_meet H1 H3.1 hg (u := 0) (p := 1) (v := j) (q := 0) (by omega) hj (by omega) (by omega)
    obtain ⟨h'', b1, b2, b3⟩ := M_one H' (oI (meetA (A.1.1 0) 1 (A.1.1 j) 0)).toInt64
    refine ⟨h'', ?_, b2, b3⟩
    simp only [f_X6_digest_L89, if_neg c1, e6, bs9, b1, nI_1]) (by
    intro h' J' H'
    have c1 : (8 : Int32) ≤ nI 8 := nI_le (a := 8) (Nat.le_refl _) (by omega)
    simp only [f_X6_digest_L89, if_pos c1])
  have s1 : f_X6_share h6 m = some (shrA A) := by
    obtain ⟨I, F, H1, H2, H3, -⟩ := g2
    exact M_share H1 H3 W
  obtain ⟨h7, k1, k2, k3⟩ := M_one g2 (bitA (shrA A))
  have e8 : ∀ h' J', repD h' m 0 A J' → rdI h' m 5 8 = some (nI A.2.2.2.length) := fun h' J' H' => by
    obtain ⟨I, F, H1, H2, H3, H4, H5, H6, -⟩ := H'
    exact H1.i8.trans (congrArg some H6)
  obtain ⟨h8, n1, n2, n3⟩ := M_one k2 (nI A.2.2.2.length).toInt64
  obtain ⟨h9, r1, r2, r3⟩ := dg_loop (b := f_X6_digest_L136 m) (G := fun k t => mix9 t (nI (A.2.2.2.getD k 0)).toInt64) (n := A.2.2.2.length) (by omega) n2 (by
    intro j h' J' hj H' _
    have c1 : ¬ nI A.2.2.2.length ≤ nI j := nI_ge hj (by omega)
    have e6 : rdR h' m 5 7 = some (m + 5) ∧ ldI h' (m + 5) (nI j) = some (nI (A.2.2.2.getD j 0)) := by
      obtain ⟨I, F, H1, H2, H3, H4, H5, H6, H7⟩ := H'
      refine ⟨H1.r7, (H1.l7 (show j < 60 by omega)).trans (congrArg some ?_)⟩
      rw [H7 j _ (List.getElem?_eq_getElem hj), List.getD_eq_getElem?_getD, List.getElem?_eq_getElem hj]
      rfl
    obtain ⟨h'', b1, b2, b3⟩ := M_one H' (nI (A.2.2.2.getD j 0)).toInt64
    refine ⟨h'', ?_, b2, b3⟩
    simp only [f_X6_digest_L136, e8 _ _ H', bs9, if_neg c1, e6.1, e6.2, b1, nI_1]) (by
    intro h' J' H'
    have c1 : nI A.2.2.2.length ≤ nI A.2.2.2.length := nI_le (Nat.le_refl _) (by omega)
    simp only [f_X6_digest_L136, e8 _ _ H', bs9, if_pos c1])
  have ej : rdJ h9 m 5 15 = some (digA A) := by
    obtain ⟨I, F, H1, H2⟩ := r2
    exact H1.j
  refine ⟨h9, ?_, r2.m, a3.tr (b3.tr (d3.tr (e3.tr (f3.tr (g3.tr (k3.tr (n3.tr r3)))))))⟩
  simp only [f_X6_digest, f_X6_digest_J36, f_X6_digest_J63, f_X6_digest_J87, f_X6_digest_J114, f_X6_digest_J161, H1.ok, if_true, a1, b1, d1, e1, f1, g1, s1, (bitA_ok W h6 h6).2, k1, e8 _ _ k2, n1, r1, ej, bs9]
end ModelDigest
