/-! PURE READING, 10: the class's State: a State copied -/
/-- a State with any contents -/
def jS (h : PH) (s : Nat) : Prop := ∃ (n : Nat) (c1 c2 c3 : Int32) (gf : Nat → Int32) (rf : Nat → Option Nat) (π : Nat → Nat), cSt h s n c1 c2 c3 gf rf ∧ (∀ i, i < 4 → π i < 4 ∧ rf i = some (s + 3 + 3 * π i) ∧ jR h (s + 3 + 3 * i)) ∧ ∀ i j, i < 4 → j < 4 → π i = π j → i = j
section StateOps4
variable {h : PH} {s : Nat} {g : Nat → Nat} {R : List (Nat × List (Nat × Nat))} {c1 c2 c3 : Int32}
theorem repS.j (H : repS h s g R c1 c2 c3) : jS h s := by
  obtain ⟨gf, rf, π, H1, H2, H3, H4, H5⟩ := H
  exact ⟨_, _, _, _, gf, rf, π, H1, H3, H4⟩
theorem jS.ok (H : jS h s) : okO h s 2 = true := by
  obtain ⟨_, _, _, _, _, _, _, H1, -⟩ := H
  exact H1.ok
theorem jS.same {h' : PH} (H : jS h s) (h1 : sameS s h h') : jS h' s := by
  obtain ⟨n, c1, c2, c3, gf, rf, π, H1, H3, H4⟩ := H
  exact ⟨n, c1, c2, c3, gf, rf, π, ⟨(h1 _ (by omega) (by omega)).trans H1.1, (h1 _ (by omega) (by omega)).trans H1.2.1, (h1 _ (by omega) (by omega)).trans H1.2.2⟩, fun j hj => ⟨(H3 j hj).1, (H3 j hj).2.1, ((H3 j hj).2.2).same h1 (by omega) (by omega)⟩, H4⟩
theorem cSt.same {h' : PH} {n : Nat} {gf : Nat → Int32} {rf : Nat → Option Nat} (H1 : cSt h s n c1 c2 c3 gf rf) (h1 : sameS s h h') : cSt h' s n c1 c2 c3 gf rf :=
  ⟨(h1 _ (by omega) (by omega)).trans H1.1, (h1 _ (by omega) (by omega)).trans H1.2.1, (h1 _ (by omega) (by omega)).trans H1.2.2⟩
theorem S_copyFrom {s2 : Nat} {g2 : Nat → Nat} {R2 : List (Nat × List (Nat × Nat))} {d1 d2 d3 : Int32} (J : jS h s) (W2 : wfS g2 R2) (H2 : repS h s2 g2 R2 d1 d2 d3) (hd : s + 15 ≤ s2 ∨ s2 + 15 ≤ s) : ∃ h', f_X3_copyFrom h s s2 = some h' ∧ repS h' s g2 R2 d1 d2 d3 ∧ onlyS s h h' := by
  obtain ⟨n, c1, c2, c3, gf, rf, π, H1, H3, H4⟩ := J
  have HH := H2
  obtain ⟨gf2, rf2, π2, A1, A2, A3, A4, A5⟩ := H2
  have hn := W2.2.1
  have K : ∀ {m : Nat} {gf' : Nat → Int32}, cSt (setSt h s m c1 c2 c3 gf' rf) s m c1 c2 c3 gf' rf := setSt_c
  have KA : ∀ {m : Nat} {gf' : Nat → Int32}, cSt (setSt h s m c1 c2 c3 gf' rf) s2 R2.length d1 d2 d3 gf2 rf2 := A1.same (setSt_only.same hd)
  have hb : ∀ j, 0 ≤ j → j < 0 + 8 → f_X3_copyFrom_L2 s s2 ((fun j => (nI j, setSt h s n c1 c2 c3 (fill9 gf gf2 j) rf)) j) = some (.inl ((fun j => (nI j, setSt h s n c1 c2 c3 (fill9 gf gf2 j) rf)) (j + 1))) := by
    intro j _ hj
    have b1 : ¬ nI 8 ≤ nI j := nI_ge (by omega) (by omega)
    simp only [f_X3_copyFrom_L2, K.r0, K.n0, KA.r0, KA.n0, Option.bind_some, if_neg b1, ldI_of KA.2.1 (show j < 8 by omega) (by omega), st_S1 (show j < 8 by omega), nI_1, fill9]
  have he : f_X3_copyFrom_L2 s s2 ((fun j => (nI j, setSt h s n c1 c2 c3 (fill9 gf gf2 j) rf)) (0 + 8)) = some (.inr (setSt h s n c1 c2 c3 (fill9 gf gf2 8) rf)) := by
    have b1 : nI 8 ≤ nI 8 := nI_le (Nat.le_refl _) (by omega)
    simp only [Nat.zero_add, f_X3_copyFrom_L2, K.r0, K.n0, Option.bind_some, if_pos b1]
  have hw := lpn_run (fun j => (nI j, setSt h s n c1 c2 c3 (fill9 gf gf2 j) rf)) _ 8 0 LF hb he (by unfold LF; omega)
  have hw0 : lpn (f_X3_copyFrom_L2 s s2) LF (0, h) = some (setSt h s n c1 c2 c3 (fill9 gf gf2 8) rf) := by
    rw [← hw]
    show _ = lpn _ LF (nI 0, setSt h s n c1 c2 c3 gf rf)
    rw [setSt_eq H1]
    rfl
  -- the ropes
  obtain ⟨gf', hgf⟩ : ∃ gf', gf' = fill9 gf gf2 8 := ⟨_, rfl⟩
  rw [← hgf] at hw0
  have hI := lpn_inv (b := f_X3_copyFrom_L48 s s2)
    (fun j (x : Int32 × PH) => x.1 = nI j ∧ cSt x.2 s R2.length c1 c2 c3 gf' rf ∧ onlyS s h x.2 ∧ (∀ i, i < 4 → jR x.2 (s + 3 + 3 * i)) ∧ ∀ i X, i < j → R2[i]? = some X → repR g2 x.2 (s + 3 + 3 * π i) X.1 X.2)
    (fun z => cSt z s R2.length c1 c2 c3 gf' rf ∧ onlyS s h z ∧ (∀ i, i < 4 → jR z (s + 3 + 3 * i)) ∧ ∀ i X, R2[i]? = some X → repR g2 z (s + 3 + 3 * π i) X.1 X.2) R2.length ?_ ?_ R2.length 0 LF (0, setSt h s R2.length c1 c2 c3 gf' rf) (by omega) (by unfold LF; omega) ⟨rfl, setSt_c, setSt_only, fun i hi => ((H3 i hi).2.2).setSt (by omega), fun i X hi => by omega⟩
  · obtain ⟨z, e1, B1, B2, B3, B4⟩ := hI
    have e2 := wr_S2 (h := h) (s := s) (n := n) (c1 := c1) (c2 := c2) (c3 := c3) (gf := gf') (rf := rf) R2.length
    have C1 : cSt z s2 R2.length d1 d2 d3 gf2 rf2 := A1.same (B2.same hd)
    have C2 : ∀ {x1 x2 x3 : Int32}, cSt (setSt z s R2.length x1 x2 x3 gf' rf) s2 R2.length d1 d2 d3 gf2 rf2 := C1.same (setSt_only.same hd)
    have e3 := wr_S3 (h := z) (s := s) (n := R2.length) (c1 := c1) (c2 := c2) (c3 := c3) (gf := gf') (rf := rf) d1
    rw [setSt_eq B1] at e3
    refine ⟨setSt z s R2.length d1 d2 d3 gf' rf, ?_, ⟨gf', rf, π, setSt_c, fun u hu => ?_, fun j hj => ⟨(H3 j hj).1, (H3 j hj).2.1, (B3 j hj).setSt (by omega)⟩, H4, fun j Y hj => (B4 j Y hj).setSt (by omega)⟩, B2.tr setSt_only⟩
    · simp only [f_X3_copyFrom, f_X3_copyFrom_J38, f_X3_copyFrom_J90, H1.ok, if_true, hw0, KA.r2, Option.bind_some, e2, e1, C1.r3, e3, C2.r4, C2.r5, wr_S4, wr_S5]
    · rw [hgf, fill9_at, if_pos hu, A2 u hu]
  · rintro j ⟨x1, x2⟩ hj ⟨i1, i2, i3, i4, i5⟩
    dsimp only at i1 i2 i3 i4 i5
    subst i1
    have b1 : ¬ nI R2.length ≤ nI j := nI_ge hj (by omega)
    have a1 := X3_ropeAt i2 hn hj
    rw [(H3 j (by omega)).2.1] at a1
    have HZ : repS x2 s2 g2 R2 d1 d2 d3 := HH.same hn (i3.same hd)
    obtain ⟨r2, q1, q2, q3, q4⟩ := S_ropeAt W2 HZ (List.getElem?_eq_getElem hj)
    have p1 := (H3 j (by omega)).1
    obtain ⟨h', m1, m2, m3⟩ := R_copyFrom (i4 (π j) p1) (W2.2.2 _ (List.getElem_mem hj)) q2 (by omega)
    refine ⟨(nI (j + 1), h'), ?_, rfl, i2.chg m3 (by omega), i3.tr (m3.only (by omega) (by omega)), fun i hi => ?_, fun i X hi hX => ?_⟩
    · simp only [f_X3_copyFrom_L48, f_X3_copyFrom_J84, i2.r2, Option.bind_some, if_neg b1, a1, q1, m1, nI_1]
    · by_cases e : i = π j
      · subst e
        exact m2.j
      · exact (i4 i hi).chg m3 (by omega)
    · by_cases e : i = j
      · subst e
        rw [List.getElem?_eq_getElem hj] at hX
        cases hX
        exact m2
      · have e9 : ¬ π i = π j := fun q => e (H4 i j (by omega) (by omega) q)
        exact (i5 i X (by omega) hX).chg m3 (by omega)
  · rintro ⟨x1, x2⟩ ⟨i1, i2, i3, i4, i5⟩
    dsimp only at i1 i2 i3 i4 i5
    subst i1
    have b1 : nI R2.length ≤ nI R2.length := nI_le (Nat.le_refl _) (by omega)
    refine ⟨x2, ?_, i2, i3, i4, fun i X hX => i5 i X (List.getElem?_eq_some_iff.mp hX).1 hX⟩
    simp only [f_X3_copyFrom_L48, i2.r2, Option.bind_some, if_pos b1]
end StateOps4
