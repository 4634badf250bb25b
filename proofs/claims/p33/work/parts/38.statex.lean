/-! PURE READING, 9: the class's State: ropes added, removed; copies -/
def shlQ (f : Nat → Option Nat) (a b : Nat) : Nat → Option Nat := fun i => if a ≤ i ∧ i < b then f (i + 1) else f i
theorem shlQ_0 (f : Nat → Option Nat) (a : Nat) : shlQ f a a = f := by
  funext i
  show (if _ then _ else _) = _
  rw [if_neg (by omega)]
theorem shlQ_s (f : Nat → Option Nat) (a t : Nat) : va_up (shlQ f a (a + t)) (a + t) (f (a + t + 1)) = shlQ f a (a + (t + 1)) := by
  funext i
  show (if i = a + t then _ else (if _ then _ else _)) = (if _ then _ else _)
  by_cases h0 : i = a + t
  · subst h0
    rw [if_pos rfl, if_pos (by omega)]
  · rw [if_neg h0]
    by_cases h1 : a ≤ i ∧ i < a + t
    · rw [if_pos h1, if_pos (by omega)]
    · rw [if_neg h1, if_neg (by omega)]
theorem shlQ_hi (f : Nat → Option Nat) {a b i : Nat} (h : b ≤ i) : shlQ f a b i = f i := if_neg (by omega)
section StateOps3
variable {h : PH} {s : Nat} {g : Nat → Nat} {R : List (Nat × List (Nat × Nat))} {c1 c2 c3 : Int32}
theorem S_addRope_no (H : repS h s g R c1 c2 c3) (hR : R.length = 4) (x : Int32) : f_X3_addRope h s x = some (none, h) := by
  obtain ⟨gf, rf, π, H1, -⟩ := H
  have e1 : ¬ nI R.length < 0 := nI_pos (by omega)
  have e2 : ¬ nI R.length < nI 4 := nI_nlt (by omega) (by omega)
  simp only [f_X3_addRope, f_X3_addRope_J19, H1.ok, H1.r1, H1.r2, H1.n1, if_true, Option.bind_some, if_neg e1, if_neg e2]
theorem S_addRope (W : wfS g R) (H : repS h s g R c1 c2 c3) (hR : R.length < 4) {n : Nat} (hn : n ≤ 60) : ∃ r h', f_X3_addRope h s (nI n) = some (some r, h') ∧ repS h' s g (R ++ [(n, [])]) c1 c2 c3 ∧ onlyS s h h' ∧ f_X3_ropeAt h' s (nI R.length) = some (some r) ∧ ∀ i, i < R.length → f_X3_ropeAt h' s (nI i) = f_X3_ropeAt h s (nI i) := by
  obtain ⟨gf, rf, π, H1, H2, H3, H4, H5⟩ := H
  have e1 : ¬ nI R.length < 0 := nI_pos (by omega)
  have e2 : nI R.length < nI 4 := nI_lt (by omega) (by omega)
  have e3 := wr_S2 (h := h) (s := s) (n := R.length) (c1 := c1) (c2 := c2) (c3 := c3) (gf := gf) (rf := rf) (R.length + 1)
  rw [setSt_eq H1] at e3
  have H6 : cSt (setSt h s (R.length + 1) c1 c2 c3 gf rf) s (R.length + 1) c1 c2 c3 gf rf := setSt_c
  obtain ⟨p1, p2, p3⟩ := H3 R.length hR
  have e4 := X3_ropeAt H6 (by omega) (Nat.lt_succ_self R.length)
  rw [p2] at e4
  obtain ⟨h', q1, q2, q3⟩ := R_begin g (((H3 (π R.length) p1).2.2).setSt (h := h) (n := R.length + 1) (c1 := c1) (c2 := c2) (c3 := c3) (gf := gf) (rf := rf) (s := s) (by omega)) hn
  have H7 : cSt h' s (R.length + 1) c1 c2 c3 gf rf := H6.chg q3 (by omega)
  refine ⟨s + 3 + 3 * π R.length, h', ?_, ⟨gf, rf, π, by rw [List.length_append]; exact H7, H2, fun j hj => ⟨(H3 j hj).1, (H3 j hj).2.1, ?_⟩, H4, fun j Y hj => ?_⟩, setSt_only.tr (q3.only (by omega) (by omega)), ?_, fun k hk => by rw [X3_ropeAt H7 (by omega) (by omega), X3_ropeAt H1 (by omega) hk]⟩
  · simp only [f_X3_addRope, f_X3_addRope_J51, H1.ok, H1.r1, H1.r2, H1.n1, if_true, Option.bind_some, if_neg e1, if_pos e2, nI_1, e3, H6.r2, nI_pred, e4, q1]
  · by_cases e : j = π R.length
    · subst e
      exact q2.j
    · exact (((H3 j hj).2.2).setSt (by omega)).chg q3 (by omega)
  · rcases Nat.lt_trichotomy j R.length with h1 | h1 | h1
    · rw [List.getElem?_append_left h1] at hj
      have e : ¬ π j = π R.length := fun q => by have := H4 j R.length (by omega) hR q; omega
      exact ((H5 j Y hj).setSt (by omega)).chg q3 (by omega)
    · subst h1
      rw [List.getElem?_append_right (Nat.le_refl _), Nat.sub_self] at hj
      cases hj
      exact q2
    · rw [List.getElem?_eq_none (by rw [List.length_append]; exact h1)] at hj
      cases hj
  · rw [X3_ropeAt H7 (by omega) (Nat.lt_succ_self R.length), p2]
theorem S_removeRope (W : wfS g R) (H : repS h s g R c1 c2 c3) {i : Nat} (hi : i < R.length) : ∃ h', f_X3_removeRope h s (nI i) = some h' ∧ repS h' s g (R.eraseIdx i) c1 c2 c3 ∧ on3 s h h' := by
  obtain ⟨gf, rf, π, H1, H2, H3, H4, H5⟩ := H
  have hn := W.2.1
  obtain ⟨p1, p2, -⟩ := H3 i (by omega)
  have hjr : ∀ m c1 c2 c3 gf rf k, k < 4 → okO (setSt h s m c1 c2 c3 gf rf) (s + 3 + 3 * k) 1 = true := fun m c1 c2 c3 gf rf k hk => (((H3 k hk).2.2).setSt (by omega)).ok
  have hb : ∀ j, 0 ≤ j → j < 0 + (R.length - 1 - i) → f_X3_removeRope_L15 s (s + 3 + 3 * π i) ((fun t => (nI (i + t + 1), setSt h s R.length c1 c2 c3 gf (shlQ rf i (i + t)))) j) = some (.inl ((fun t => (nI (i + t + 1), setSt h s R.length c1 c2 c3 gf (shlQ rf i (i + t)))) (j + 1))) := by
    intro j _ hj
    have K : cSt (setSt h s R.length c1 c2 c3 gf (shlQ rf i (i + j))) s R.length c1 c2 c3 gf (shlQ rf i (i + j)) := setSt_c
    have b1 : ¬ nI R.length ≤ nI (i + j + 1) := nI_ge (by omega) (by omega)
    have b2 : ¬ nI 4 ≤ nI (i + j + 1) := nI_ge (by omega) (by omega)
    obtain ⟨a1, a2, a3⟩ := H3 (i + j + 1) (by omega)
    have b3 := st_S2 (h := h) (s := s) (n := R.length) (c1 := c1) (c2 := c2) (c3 := c3) (gf := gf) (rf := shlQ rf i (i + j)) (i := i + j) (r := s + 3 + 3 * π (i + j + 1)) (by omega) (hjr _ _ _ _ _ _ _ a1)
    rw [← a2, shlQ_s] at b3
    simp only [f_X3_removeRope_L15, K.r1, K.r2, K.n1, Option.bind_some, if_neg b1, if_neg b2, ldQ_of K.2.2 (show i + j + 1 < 4 by omega) (by omega), shlQ_hi rf (show i + j ≤ i + j + 1 by omega), a2, nI_pred, nI_1]
    rw [b3]
    rfl
  have he : f_X3_removeRope_L15 s (s + 3 + 3 * π i) ((fun t => (nI (i + t + 1), setSt h s R.length c1 c2 c3 gf (shlQ rf i (i + t)))) (0 + (R.length - 1 - i))) = some (.inr (setSt h s R.length c1 c2 c3 gf (shlQ rf i (R.length - 1)))) := by
    have K : cSt (setSt h s R.length c1 c2 c3 gf (shlQ rf i (R.length - 1))) s R.length c1 c2 c3 gf (shlQ rf i (R.length - 1)) := setSt_c
    rw [show (fun t => (nI (i + t + 1), setSt h s R.length c1 c2 c3 gf (shlQ rf i (i + t)))) (0 + (R.length - 1 - i)) = (nI R.length, setSt h s R.length c1 c2 c3 gf (shlQ rf i (R.length - 1))) by
      show (nI (i + (0 + (R.length - 1 - i)) + 1), setSt h s R.length c1 c2 c3 gf (shlQ rf i (i + (0 + (R.length - 1 - i))))) = _
      rw [show i + (0 + (R.length - 1 - i)) = R.length - 1 by omega, show R.length - 1 + 1 = R.length by omega]]
    have b1 : nI R.length ≤ nI R.length := nI_le (Nat.le_refl _) (by omega)
    simp only [f_X3_removeRope_L15, K.r2, Option.bind_some, if_pos b1]
  have hw := lpn_run (fun t => (nI (i + t + 1), setSt h s R.length c1 c2 c3 gf (shlQ rf i (i + t)))) _ (R.length - 1 - i) 0 LF hb he (by unfold LF; omega)
  have hw0 : lpn (f_X3_removeRope_L15 s (s + 3 + 3 * π i)) LF (nI (i + 1), h) = some (setSt h s R.length c1 c2 c3 gf (shlQ rf i (R.length - 1))) := by
    rw [← hw]
    show _ = lpn _ LF (nI (i + 0 + 1), setSt h s R.length c1 c2 c3 gf (shlQ rf i (i + 0)))
    have e9 : shlQ rf i (i + 0) = rf := shlQ_0 rf i
    rw [e9, Nat.add_zero, setSt_eq H1]
  have K : ∀ {m : Nat} {rf' : Nat → Option Nat}, cSt (setSt h s m c1 c2 c3 gf rf') s m c1 c2 c3 gf rf' := setSt_c
  have e1 : nI R.length - 1 = nI (R.length - 1) := by
    obtain ⟨c9, h9⟩ : ∃ c9, R.length = c9 + 1 := ⟨R.length - 1, by omega⟩
    rw [h9, nI_pred]
    rfl
  have e2 : ¬ nI (R.length - 1) < 0 := nI_pos (by omega)
  have e3 : ¬ nI 4 ≤ nI (R.length - 1) := nI_ge (by omega) (by omega)
  have e4 := st_S2 (h := h) (s := s) (n := R.length - 1) (c1 := c1) (c2 := c2) (c3 := c3) (gf := gf) (rf := shlQ rf i (R.length - 1)) (i := R.length - 1) (r := s + 3 + 3 * π i) (by omega) (hjr _ _ _ _ _ _ _ p1)
  have e5 := X3_ropeAt H1 hn hi
  rw [p2] at e5
  refine ⟨setSt h s (R.length - 1) c1 c2 c3 gf (va_up (shlQ rf i (R.length - 1)) (R.length - 1) (some (s + 3 + 3 * π i))), ?_, ?_, setSt_on3⟩
  · simp only [f_X3_removeRope, f_X3_removeRope_J52, f_X3_removeRope_J91, H1.ok, if_true, e5, Option.bind_some, nI_1, hw0, K.r2, e1, wr_S2, if_neg e2, K.r1, K.n1, if_neg e3, e4]
  · have hp : ∀ k, k < 4 → ∃ k', k' < 4 ∧ (k' = if i ≤ k ∧ k < R.length - 1 then k + 1 else if k = R.length - 1 then i else k) := fun k hk => ⟨_, by split <;> (try split) <;> omega, rfl⟩
    refine ⟨gf, va_up (shlQ rf i (R.length - 1)) (R.length - 1) (some (s + 3 + 3 * π i)), fun k => π (if i ≤ k ∧ k < R.length - 1 then k + 1 else if k = R.length - 1 then i else k), ?_, H2, fun k hk => ?_, fun k k2 hk hk2 he => ?_, fun k Y hk => ?_⟩
    · rw [List.length_eraseIdx, if_pos hi]
      exact setSt_c
    · obtain ⟨k', a1, a2⟩ := hp k hk
      refine ⟨by show π (if _ then _ else _) < 4; rw [← a2]; exact (H3 k' a1).1, ?_, ((H3 k hk).2.2).setSt (by omega)⟩
      show (if k = R.length - 1 then some (s + 3 + 3 * π i) else (if i ≤ k ∧ k < R.length - 1 then rf (k + 1) else rf k)) = some (s + 3 + 3 * π (if i ≤ k ∧ k < R.length - 1 then k + 1 else if k = R.length - 1 then i else k))
      by_cases c : k = R.length - 1
      · rw [if_pos c, if_neg (by omega), if_pos c]
      · rw [if_neg c]
        by_cases d : i ≤ k ∧ k < R.length - 1
        · rw [if_pos d, if_pos d]
          exact (H3 (k + 1) (by omega)).2.1
        · rw [if_neg d, if_neg d, if_neg c]
          exact (H3 k hk).2.1
    · obtain ⟨k', a1, a2⟩ := hp k hk
      obtain ⟨k2', b1, b2⟩ := hp k2 hk2
      have he2 : π k' = π k2' := by rw [a2, b2]; exact he
      have := H4 k' k2' a1 b1 he2
      rw [a2, b2] at this
      split at this <;> split at this <;> (try split at this) <;> (try split at this) <;> omega
    · rw [List.getElem?_eraseIdx] at hk
      show repR g _ (s + 3 + 3 * π (if i ≤ k ∧ k < R.length - 1 then k + 1 else if k = R.length - 1 then i else k)) _ _
      by_cases c : k < i
      · rw [if_pos c] at hk
        rw [if_neg (by omega), if_neg (by omega)]
        exact (H5 k Y hk).setSt (by omega)
      · rw [if_neg c] at hk
        have := (List.getElem?_eq_some_iff.mp hk).1
        rw [if_pos (by omega)]
        exact (H5 (k + 1) Y hk).setSt (by omega)
end StateOps3
