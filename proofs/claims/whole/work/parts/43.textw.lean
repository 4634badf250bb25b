/-! PURE READING, 14: the class's Text, writes; numbers in it -/
/-- only the two cells of the text changed -/
def onlyT (t : Nat) (h h' : PH) : Prop := ∀ b, b < t ∨ t + 2 ≤ b → h' b = h b
section TextOps2
variable {h : PH} {t : Nat} {B : List Nat}
theorem repX.same {h' : PH} (H : repX h t B) (h1 : ∀ b, t ≤ b → b < t + 2 → h' b = h b) : repX h' t B := by
  obtain ⟨cf, H1, H2⟩ := H
  exact ⟨cf, ⟨(h1 _ (by omega) (by omega)).trans H1.1, (h1 _ (by omega) (by omega)).trans H1.2⟩, H2⟩
theorem T_empty (H : repX h t B) : ∃ h', f_X4_empty h t = some h' ∧ repX h' t [] ∧ onlyT t h h' := by
  obtain ⟨cf, H1, H2⟩ := H
  have e := wrF_of (k := 1) (Value.int 0) H1.1 (by simp)
  refine ⟨_, ?_, ⟨cf, ⟨pu_s, (pu_n (by omega)).trans H1.2⟩, fun i c hi => by simp at hi⟩, fun b hb => pu_n (by omega)⟩
  simp only [f_X4_empty, H1.ok, if_true, e, Option.bind_some]
  rfl
theorem T_add (H : repX h t B) (hB : B.length < 60) (c : Nat) : ∃ h', f_X4_add h t (nI c) = some h' ∧ repX h' t (B ++ [c]) ∧ onlyT t h h' := by
  obtain ⟨cf, H1, H2⟩ := H
  have c1 : ¬ nI B.length < 0 := nI_pos (by omega)
  have c2 : ¬ nI 60 ≤ nI B.length := nI_ge hB (by omega)
  have e1 := stI_of (nI c) H1.2 hB (by omega)
  obtain ⟨h1, hh1⟩ : ∃ h1, h1 = pu h (t + 1) (.inl (60, upd cf B.length (nI c))) := ⟨_, rfl⟩
  rw [← hh1] at e1
  have K : cT h1 t B.length (upd cf B.length (nI c)) := by
    rw [hh1]
    exact ⟨(pu_n (by omega)).trans H1.1, pu_s⟩
  have e2 := wrF_of (k := 1) (Value.int (nI B.length + 1)) K.1 (by simp)
  refine ⟨pu h1 t (.inr (.inr (3, [.ref (t + 1), .int (nI B.length + 1)]))), ?_, ⟨upd cf B.length (nI c), ⟨?_, (pu_n (by omega)).trans K.2⟩, fun i c' hi => ?_⟩, fun b hb => (pu_n (by omega)).trans (by rw [hh1]; exact pu_n (by omega))⟩
  · simp only [f_X4_add, f_X4_add_J39, H1.ok, H1.r0, H1.r1, H1.n0, if_true, Option.bind_some, if_neg c1, if_neg c2, e1, K.r1, e2]
    rfl
  · rw [pu_s, List.length_append, nI_1]
    rfl
  · show (if i = B.length then _ else _) = _
    rcases Nat.lt_trichotomy i B.length with q | q | q
    · rw [List.getElem?_append_left q] at hi
      rw [if_neg (by omega)]
      exact H2 i c' hi
    · subst q
      rw [List.getElem?_append_right (Nat.le_refl _), Nat.sub_self] at hi
      cases hi
      rw [if_pos rfl]
    · rw [List.getElem?_eq_none (by rw [List.length_append]; exact q)] at hi
      cases hi
theorem T_numberIn (W : wfX B) (H : repX h t B) {a e : Nat} (ha : a ≤ e) (he : e ≤ B.length) : f_X4_numberIn h t (nI a) (nI e) = some (numI B a (e - a)) := by
  have hn := W.1
  have hb : ∀ j, 0 ≤ j → j < 0 + (e - a) → f_X4_numberIn_L5 h t (nI e) ((fun j => (numI B a j, nI (a + j))) j) = some (.inl ((fun j => (numI B a j, nI (a + j))) (j + 1))) := by
    intro j _ hj
    have c2 : ¬ nI e ≤ nI (a + j) := nI_ge (by omega) (by omega)
    simp only [f_X4_numberIn_L5, if_neg c2, T_codeAt W H (show a + j < B.length by omega), Option.bind_some, nI_1, numI]
    rfl
  have hx : f_X4_numberIn_L5 h t (nI e) ((fun j => (numI B a j, nI (a + j))) (0 + (e - a))) = some (.inr (numI B a (e - a))) := by
    have c2 : nI e ≤ nI (a + (e - a)) := nI_le (by omega) (by omega)
    simp only [Nat.zero_add, f_X4_numberIn_L5, if_pos c2]
  have hw := lpn_run (fun j => (numI B a j, nI (a + j))) _ (e - a) 0 LF hb hx (by unfold LF; omega)
  have hw0 : lpn (f_X4_numberIn_L5 h t (nI e)) LF (0, nI a) = some (numI B a (e - a)) := hw
  obtain ⟨cf, H1, -⟩ := H
  simp only [f_X4_numberIn, f_X4_numberIn_J32, H1.ok, if_true, hw0, Option.bind_some]
end TextOps2
