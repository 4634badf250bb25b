/-! PURE READING, 24: the class: append, clearBuffer, firstError, undo, keep, restore -/
def sp_append (A : AAt) (a : Int32) : Except Nat (Int32 × AAt) := match btw 33 126 a with
  | none => .error 1
  | some c => if A.2.2.2.length < 60 then .ok (nI (A.2.2.2.length + 1), (A.1, A.2.1, A.2.2.1, A.2.2.2 ++ [c])) else .error 2
def errA (B : List Nat) : Nat := (fst9 (fun j => decide (dueS B (j + 1) = 7)) 0 B.length).getD B.length
def sp_undo (A : AAt) : Except Nat (Int32 × AAt) := match A.2.1[A.2.1.length - 1]? with
  | none => .error 1
  | some T => .ok (nI (A.2.1.length - 1), (T, A.2.1.take (A.2.1.length - 1), A.2.2))
def sp_restore (A : AAt) : Except Nat (Int32 × AAt) := match A.2.2.1 with
  | none => .error 1
  | some T => .ok (nI T.2.1.length, (T, (svA A).2))
def CW9 (f : Option (Int32 × PH)) (h : PH) (x : Nat) (v : Int32) (A : AAt) : Prop := ∃ h', f = some (v, h') ∧ repC h' x A ∧ onX x h h'
section MainOps5
variable {h : PH} {x : Nat} {A : AAt}
theorem C_undo (W : wfA A) (H : repC h x A) : CK (f_X5_undo h x) [eIS] h x A (sp_undo A) := by
  obtain ⟨H1, H2, H3, H4, H5, H6, H7⟩ := id H
  obtain ⟨W1, W2, W3, W4, W5⟩ := id W
  unfold CK sp_undo
  cases hT : A.2.1[A.2.1.length - 1]? with
  | none =>
    have h0 : A.2.1.length = 0 := by have := List.getElem?_eq_none_iff.mp hT; omega
    have e1 := H_size H5
    rw [h0] at e1
    have c1 : nI 0 = (0 : Int32) := rfl
    refine ⟨h, ?_, H, onX.rf⟩
    simp only [f_X5_undo, H1.ok, H1.r2, if_true, e1, c1, not_true_eq_false, if_false, Option.bind_some]
    rfl
  | some T =>
    have hl := (List.getElem?_eq_some_iff.mp hT).1
    have e1 := H_size H5
    have c1 : ¬ nI A.2.1.length = 0 := nI_ne0 (by omega) (by omega)
    obtain ⟨h', m1, m2, m3, m4⟩ := H_restoreLatest (s := x + 1) W2 W3 H5 H2.j (by omega) (n := A.2.1.length - 1) (by omega) hT
    have e2 := H_size m2
    rw [List.length_take, Nat.min_eq_left (by omega)] at e2
    have K : repC h' x (T, A.2.1.take (A.2.1.length - 1), A.2.2) := ⟨(m4 x (by omega) (by omega)).trans H1, m3, H3.same (fun b b1 b2 => m4 b (by omega) (by omega)), fun T hT => repS.same (W4 T hT).2.1 (H4 T hT) (fun b b1 b2 => m4 b (by omega) (by omega)), m2, H6.same (fun b b1 b2 => m4 b (by omega) (by omega)), H7.sam (fun b b1 b2 => m4 b (by omega) (by omega))⟩
    refine ⟨h', ?_, K, fun b hb => m4 b (by omega) (by omega)⟩
    simp only [f_X5_undo, H1.ok, H1.r0, H1.r2, if_true, e1, if_pos c1, m1, K.1.r2, e2, Option.bind_some]
    rfl
theorem C_keep (W : wfA A) (H : repC h x A) : CW9 (f_X5_keep h x) h x (nI A.1.2.1.length) (A.1, A.2.1, some A.1, A.2.2.2) := by
  obtain ⟨H1, H2, H3, H4, H5, H6, H7⟩ := id H
  obtain ⟨W1, W2, W3, W4, W5⟩ := id W
  obtain ⟨h1, m1, m2, m3⟩ := S_copyFrom H3 W1 H2 (by omega)
  have K1 : cX h1 x (bI A.2.2.1.isSome) := (m3 x (by omega)).trans H1
  have e1 := wrF_of (k := 5) (Value.int 1) K1 (by simp)
  obtain ⟨h2, hh2⟩ : ∃ h2, h2 = pu h1 x (.inr (.inr (4, [.ref (x + 1), .ref (x + 16), .ref (x + 31), .ref (x + 123), .ref (x + 125), .int 1]))) := ⟨_, rfl⟩
  have e1 : wrF h1 x 4 5 (.int 1) = some h2 := by rw [e1, hh2]; rfl
  have g1 : ∀ b, x < b → h2 b = h1 b := fun b hb => by rw [hh2]; exact pu_n (by omega)
  have K2 : cX h2 x 1 := by rw [hh2]; exact pu_s
  have g2 : ∀ b, x < b → (b < x + 16 ∨ x + 31 ≤ b) → h2 b = h b := fun b b1 b2 => (g1 b b1).trans (m3 b (by omega))
  have m4 : repT h2 (x + 16) A.1 := repS.same W1.2.1 m2 (fun b b1 b2 => g1 b (by omega))
  have m5 : repT h2 (x + 1) A.1 := repS.same W1.2.1 H2 (fun b b1 b2 => g2 b (by omega) (by omega))
  have K : repC h2 x (A.1, A.2.1, some A.1, A.2.2.2) := ⟨K2, m5, m4.j, fun T hT => by cases hT; exact m4, repH.same W2 W3 H5 (fun b b1 b2 => g2 b (by omega) (by omega)), H6.same (fun b b1 b2 => g2 b (by omega) (by omega)), H7.sam (fun b b1 b2 => g2 b (by omega) (by omega))⟩
  have e2 := S_ropeCount m5
  refine ⟨h2, ?_, K, fun b hb => ?_⟩
  · simp only [f_X5_keep, H1.ok, H1.r0, H1.r1, if_true, m1, e1, K2.r0, e2, Option.bind_some]
  · rw [hh2, pu_n (by omega)]
    exact m3 b (by omega)
theorem C_restore (W : wfA A) (H : repC h x A) : CK (f_X5_restore h x) [eIS] h x A (sp_restore A) := by
  obtain ⟨H1, H2, H3, H4, H5, H6, H7⟩ := id H
  unfold CK sp_restore
  cases hK : A.2.2.1 with
  | none =>
    have e1 := H1.r5
    rw [hK] at e1
    have e1 : rdI h x 4 5 = some 0 := e1
    refine ⟨h, ?_, H, onX.rf⟩
    simp only [f_X5_restore, H1.ok, if_true, e1, not_true_eq_false, if_false, Option.bind_some]
    rfl
  | some T =>
    have e1 := H1.r5
    rw [hK] at e1
    have e1 : rdI h x 4 5 = some 1 := e1
    have c1 : ¬ (1 : Int32) = 0 := by decide
    obtain ⟨h1, s1, s2, s3⟩ := C_save W H
    obtain ⟨h2, m1, m2, m3⟩ := S_copyFrom s2.2.1.j (W.2.2.2.1 T hK) (s2.2.2.2.1 T hK) (by omega)
    have K := s2.now (T := T) W.sv m3 m2
    have e2 := S_ropeCount m2
    refine ⟨h2, ?_, K, s3.toX.tr m3.toX⟩
    simp only [f_X5_restore, H1.ok, H1.r0, H1.r2, if_true, e1, if_pos c1, s1, s2.1.r0, s2.1.r1, m1, K.1.r0, e2, Option.bind_some]
    rfl
end MainOps5
