/-! PURE READING, 23: the class: join, joining -/
def sp_join (A : AAt) (a b : Int32) : Except Nat (Int32 × AAt) := match rng A.1.2.1.length a with
  | none => .error 1
  | some i => match rng A.1.2.1.length b with
    | none => .error 1
    | some j => if i = j then .error 2 else if rjA A.1.1 (atR A.1.2.1 i).1 (atR A.1.2.1 j).1 (atR A.1.2.1 i).2 (atR A.1.2.1 j).2 = 0 then .ok (nI ((atR A.1.2.1 i).1 + (atR A.1.2.1 j).1), (A.1.1, (A.1.2.1.set i ((atR A.1.2.1 i).1 + (atR A.1.2.1 j).1, jnA A.1.1 (atR A.1.2.1 i).1 (atR A.1.2.1 i).2 (atR A.1.2.1 j).2)).eraseIdx j, A.1.2.2.1, A.1.2.2.2.1 + 1, A.1.2.2.2.2), (svA A).2) else .error 2
/-- why two ropes can't be joined -/
def rjR (g : Nat → Nat) (R : RRt) (i j : Nat) : Nat := if i = j then 1 else rjA g (atR R i).1 (atR R j).1 (atR R i).2 (atR R j).2
def sp_joining (A : AAt) (a b : Int32) : Except Nat (Int32 × AAt) := match rng A.1.2.1.length a with
  | none => .error 1
  | some i => match rng A.1.2.1.length b with
    | none => .error 1
    | some j => .ok (nI (rjR A.1.1 A.1.2.1 i j), A)
theorem any_fst (P : Nat × Nat → Bool) (L : List (Nat × Nat)) : (fst9 (fun j => (L[j]?.map P).getD false) 0 L.length).isSome = L.any P := by
  cases hf : fst9 (fun j => (L[j]?.map P).getD false) 0 L.length with
  | some k =>
    obtain ⟨-, h1, h2, -⟩ := fst9_some hf
    have hk : k < L.length := by omega
    rw [List.getElem?_eq_getElem hk] at h2
    symm
    exact List.any_eq_true.mpr ⟨_, List.getElem_mem hk, h2⟩
  | none =>
    symm
    refine Bool.eq_false_iff.mpr (fun h => ?_)
    obtain ⟨q, hq, h2⟩ := List.any_eq_true.mp h
    obtain ⟨k, hk, rfl⟩ := List.getElem_of_mem hq
    have h3 := fst9_none hf k (Nat.zero_le _) (by omega)
    rw [List.getElem?_eq_getElem hk] at h3
    have h4 : P L[k] = false := h3
    rw [h2] at h4
    cases h4
theorem rjA_le (g : Nat → Nat) (la lb : Nat) (La Lb : List (Nat × Nat)) : rjA g la lb La Lb ≤ 4 := by
  unfold rjA
  repeat' split
  all_goals omega
section MainJoin
variable {h : PH} {x : Nat} {k : Int32} {g : Nat → Nat} {R : RRt} {c1 c2 c3 : Int32}
theorem C_draftLaid (hg : wfg g) (Hx : cX h x k) (HS : repS h (x + 1) g R c1 c2 c3) {n : Nat} {D : List (Nat × Nat)} (WD : wfR g n D) (HD : repR g h (x + 125) n D) {u p : Nat} (hu : u < 8) (hp : p < g u) :
    (whyA g n D u p = 0 → ∃ h', f_X5_draftLaid h x (nI u) (nI p) = some (1, h') ∧ repR g h' (x + 125) n (D ++ [(u, p)]) ∧ chg (x + 125) h h') ∧ (¬ whyA g n D u p = 0 → f_X5_draftLaid h x (nI u) (nI p) = some (0, h)) := by
  have hgu := hg u
  have e1 := R_reasonAgainst hg WD HD (u := u) (p := p) (by omega) (by omega)
  have e2 := whyA_le g n D u p
  constructor
  · intro hw
    obtain ⟨h', m1, m2, m3⟩ := R_put hg (wf_lay hg WD hu hp hw) HD
    rw [hw] at e1
    have b1 : nI 0 = (0 : Int32) := rfl
    refine ⟨h', ?_, m2, m3⟩
    simp only [f_X5_draftLaid, Hx.ok, Hx.r0, Hx.r4, if_true, Option.bind_some, S_gapAt HS hu, e1, b1, m1]
  · intro hw
    have b1 : ¬ nI (whyA g n D u p) = 0 := nI_ne0 (by omega) (by omega)
    simp only [f_X5_draftLaid, Hx.ok, Hx.r0, Hx.r4, if_true, Option.bind_some, S_gapAt HS hu, e1, if_neg b1]
theorem C_draftJoined (hg : wfg g) (Hx : cX h x k) (HS : repS h (x + 1) g R c1 c2 c3) {f b la lb : Nat} {La Lb : List (Nat × Nat)} (Wa : wfR g la La) (Wb : wfR g lb Lb) (Ha : repR g h f la La) (Hb : repR g h b lb Lb) (hf : x + 4 ≤ f ∧ f + 3 ≤ x + 16) (hb : x + 4 ≤ b ∧ b + 3 ≤ x + 16) (J : jR h (x + 125)) (hn : la + lb ≤ 60) :
    ∃ v h', f_X5_draftJoined h x f b = some (v, h') ∧ chg (x + 125) h h' ∧ jR h' (x + 125) ∧ ((v = 1 ∧ repR g h' (x + 125) (la + lb) (jnA g la La Lb) ∧ wfR g (la + lb) (jnA g la La Lb)) ∨ (v = 0 ∧ ∃ i, i < la + lb ∧ 2 ≤ cntT g (jnA g la La Lb) i)) := by
  have h8 := Wa.le8
  have h8b := Wb.le8
  have hJ := jn_nodup (g := g) Wa Wb
  have w0 : wfR g (la + lb) [] := by
    refine ⟨⟨by have := Wa.1.1; omega, hn⟩, List.nodup_nil, ?_, ?_⟩
    · intro q hq
      cases hq
    · intro q hq
      cases hq
  obtain ⟨h1, p1, p2, p3⟩ := R_begin g J (n := la + lb) hn
  have t1 : ∀ j, (La.take j).Sublist (jnA g la La Lb) := fun j => (List.take_sublist _ _).trans (List.sublist_append_left _ _)
  obtain ⟨⟨v1, hm⟩, q1, D1, q2, q3, q4, q5⟩ := lpn_inv (b := f_X5_draftJoined_L21 x f b) (fun j (z : Int32 × Int32 × PH) => z.2.1 = nI j ∧ ∃ D, repR g z.2.2 (x + 125) (la + lb) D ∧ wfR g (la + lb) D ∧ chg (x + 125) h z.2.2 ∧ ((z.1 = 1 ∧ D = La.take j) ∨ (z.1 = 0 ∧ D.Sublist (La.take j) ∧ ∃ i, i < la + lb ∧ 2 ≤ cntT g (jnA g la La Lb) i)))
    (fun z => ∃ D, repR g z.2 (x + 125) (la + lb) D ∧ wfR g (la + lb) D ∧ chg (x + 125) h z.2 ∧ ((z.1 = 1 ∧ D = La) ∨ (z.1 = 0 ∧ D.Sublist La ∧ ∃ i, i < la + lb ∧ 2 ≤ cntT g (jnA g la La Lb) i))) La.length (by
    rintro j ⟨z1, z2, z3⟩ hj ⟨i1, D, i2, i3, i4, i5⟩
    dsimp only at i1 i2 i3 i4 i5
    subst i1
    obtain ⟨q, hq⟩ : ∃ q, La[j]? = some q := ⟨_, List.getElem?_eq_getElem hj⟩
    have hm := List.mem_of_getElem? hq
    obtain ⟨a1, a2, a3⟩ := Wa.2.2.1 q hm
    have K : repR g z3 f la La := Ha.chg i4 (by omega)
    have Kx : cX z3 x k := Hx.chg i4 (by omega)
    have KS : repS z3 (x + 1) g R c1 c2 c3 ∨ True := Or.inr trivial
    have b1 : ¬ nI La.length ≤ nI j := nI_ge hj (by omega)
    have Kg := gapAt_kp HS (h' := z3) (fun b b1 b2 => i4 b (by omega)) a1
    have hgu := hg q.1
    have e1 := R_reasonAgainst hg i3 i2 (u := q.1) (p := q.2) (by omega) (by omega)
    have e2 := whyA_le g (la + lb) D q.1 q.2
    have c10 : ¬ (1 : Int32) = 0 := by decide
    by_cases hw : whyA g (la + lb) D q.1 q.2 = 0
    · have Wl := wf_lay hg i3 a1 a3 hw
      obtain ⟨h', m1, m2, m3⟩ := R_put hg Wl i2
      rw [hw] at e1
      have b2 : nI 0 = (0 : Int32) := rfl
      have e3 : f_X5_draftLaid z3 x (nI q.1) (nI q.2) = some (1, h') := by
        simp only [f_X5_draftLaid, Kx.ok, Kx.r0, Kx.r4, if_true, Option.bind_some, Kg, e1, b2, m1]
      rcases i5 with ⟨rfl, rfl⟩ | ⟨rfl, s1, s2⟩
      · refine ⟨(1, nI (j + 1), h'), ?_, rfl, _, m2, Wl, i4.tr m3, Or.inl ⟨rfl, (take_s hq).symm⟩⟩
        simp only [f_X5_draftJoined_L21, f_X5_draftJoined_J63, R_hueCount K, Option.bind_some, if_neg b1, R_hueAt Wa K hq, R_first0 hg Wa K hm, e3, if_neg c10, nI_1]
      · refine ⟨(0, nI (j + 1), h'), ?_, rfl, _, m2, Wl, i4.tr m3, Or.inr ⟨rfl, ?_, s2⟩⟩
        · simp only [f_X5_draftJoined_L21, f_X5_draftJoined_J62, f_X5_draftJoined_J63, R_hueCount K, Option.bind_some, if_neg b1, R_hueAt Wa K hq, R_first0 hg Wa K hm, e3, if_neg c10, if_true, nI_1]
        · rw [take_s hq]
          exact s1.append (List.Sublist.refl _)
    · have b2 : ¬ nI (whyA g (la + lb) D q.1 q.2) = 0 := nI_ne0 (by omega) (by omega)
      have e3 : f_X5_draftLaid z3 x (nI q.1) (nI q.2) = some (0, z3) := by
        simp only [f_X5_draftLaid, Kx.ok, Kx.r0, Kx.r4, if_true, Option.bind_some, Kg, e1, if_neg b2]
      refine ⟨(0, nI (j + 1), z3), ?_, rfl, D, i2, i3, i4, Or.inr ⟨rfl, ?_, ?_⟩⟩
      · simp only [f_X5_draftJoined_L21, f_X5_draftJoined_J62, f_X5_draftJoined_J63, R_hueCount K, Option.bind_some, if_neg b1, R_hueAt Wa K hq, R_first0 hg Wa K hm, e3, if_true, nI_1]
      · rw [take_s hq]
        rcases i5 with ⟨_, rfl⟩ | ⟨_, s1, _⟩
        · exact List.sublist_append_left _ _
        · exact s1.trans (List.sublist_append_left _ _)
      · rcases i5 with ⟨_, rfl⟩ | ⟨_, _, s2⟩
        · exact lay_bad hg hJ (by rw [← take_s hq]; exact t1 _) (by omega) hw
        · exact s2) (by
    rintro ⟨z1, z2, z3⟩ ⟨i1, D, i2, i3, i4, i5⟩
    dsimp only at i1 i2 i3 i4 i5
    subst i1
    have K : repR g z3 f la La := Ha.chg i4 (by omega)
    have b1 : nI La.length ≤ nI La.length := nI_le (Nat.le_refl _) (by omega)
    rw [List.take_length] at i5
    refine ⟨(z1, z3), ?_, D, i2, i3, i4, i5⟩
    simp only [f_X5_draftJoined_L21, R_hueCount K, Option.bind_some, if_pos b1]) La.length 0 LF (1, 0, h1) (by omega) (by unfold LF; omega) ⟨rfl, [], p2, w0, p3, Or.inl ⟨rfl, rfl⟩⟩
  dsimp only at q2 q3 q4 q5
  have J2 : ∀ j, ∃ M, M = La ++ ((Lb.take j).filter (fun q => decide (phs La q.1 = none))).map (fun q => (q.1, (la + q.2) % g q.1)) := fun j => ⟨_, rfl⟩
  have t2 : ∀ j, (La ++ ((Lb.take j).filter (fun q => decide (phs La q.1 = none))).map (fun q => (q.1, (la + q.2) % g q.1))).Sublist (jnA g la La Lb) := fun j => (List.Sublist.refl La).append (((List.take_sublist _ _).filter _).map _)
  obtain ⟨⟨v2, hm2⟩, r1, D2, r2, r3, r4, r5⟩ := lpn_inv (b := f_X5_draftJoined_L73 x f b) (fun j (z : Int32 × Int32 × PH) => z.2.1 = nI j ∧ ∃ D, repR g z.2.2 (x + 125) (la + lb) D ∧ wfR g (la + lb) D ∧ chg (x + 125) h z.2.2 ∧ ((z.1 = 1 ∧ D = La ++ ((Lb.take j).filter (fun q => decide (phs La q.1 = none))).map (fun q => (q.1, (la + q.2) % g q.1))) ∨ (z.1 = 0 ∧ D.Sublist (La ++ ((Lb.take j).filter (fun q => decide (phs La q.1 = none))).map (fun q => (q.1, (la + q.2) % g q.1))) ∧ ∃ i, i < la + lb ∧ 2 ≤ cntT g (jnA g la La Lb) i)))
    (fun z => ∃ D, repR g z.2 (x + 125) (la + lb) D ∧ wfR g (la + lb) D ∧ chg (x + 125) h z.2 ∧ ((z.1 = 1 ∧ D = jnA g la La Lb) ∨ (z.1 = 0 ∧ ∃ i, i < la + lb ∧ 2 ≤ cntT g (jnA g la La Lb) i))) Lb.length (by
    rintro j ⟨z1, z2, z3⟩ hj ⟨i1, D, i2, i3, i4, i5⟩
    dsimp only at i1 i2 i3 i4 i5
    subst i1
    obtain ⟨q, hq⟩ : ∃ q, Lb[j]? = some q := ⟨_, List.getElem?_eq_getElem hj⟩
    have hm := List.mem_of_getElem? hq
    obtain ⟨a1, a2, a3⟩ := Wb.2.2.1 q hm
    have K : repR g z3 f la La := Ha.chg i4 (by omega)
    have Kb : repR g z3 b lb Lb := Hb.chg i4 (by omega)
    have Kx : cX z3 x k := Hx.chg i4 (by omega)
    have b1 : ¬ nI Lb.length ≤ nI j := nI_ge hj (by omega)
    have Kg := gapAt_kp HS (h' := z3) (fun b b1 b2 => i4 b (by omega)) a1
    have hgu := hg q.1
    have e4 := R_orderOf Wa K (u := q.1) (by omega)
    have e5 := ixo_m1 (u := q.1) Wa
    have c10 : ¬ (1 : Int32) = 0 := by decide
    by_cases hph : phs La q.1 = none
    · have c1 : oI (ixo La q.1) = -1 := e5.mpr (by rw [hph]; rfl)
      rw [c1] at e4
      have ts : La ++ ((Lb.take (j + 1)).filter (fun q => decide (phs La q.1 = none))).map (fun q => (q.1, (la + q.2) % g q.1)) = (La ++ ((Lb.take j).filter (fun q => decide (phs La q.1 = none))).map (fun q => (q.1, (la + q.2) % g q.1))) ++ [(q.1, (la + q.2) % g q.1)] := by
        rw [take_s hq, List.filter_append, List.filter_cons_of_pos (p := fun q : Nat × Nat => decide (phs La q.1 = none)) (decide_eq_true hph), List.map_append, List.append_assoc]
        rfl
      have hmod := Nat.mod_lt (la + q.2) (show 0 < g q.1 by omega)
      have hmle := Nat.mod_le (la + q.2) (g q.1)
      have e6 : f_X1_remainder z3 (nI la + nI q.2) (nI (g q.1)) = some (nI ((la + q.2) % g q.1)) := by
        rw [nI_add]
        exact X1_remainder (by have := Wa.1.2; omega) (by omega) (by omega)
      have e1 := R_reasonAgainst hg i3 i2 (u := q.1) (p := (la + q.2) % g q.1) (by omega) (by omega)
      have e2 := whyA_le g (la + lb) D q.1 ((la + q.2) % g q.1)
      by_cases hw : whyA g (la + lb) D q.1 ((la + q.2) % g q.1) = 0
      · have Wl := wf_lay hg i3 a1 hmod hw
        obtain ⟨h', m1, m2, m3⟩ := R_put hg Wl i2
        rw [hw] at e1
        have b2 : nI 0 = (0 : Int32) := rfl
        have e3 : f_X5_draftLaid z3 x (nI q.1) (nI ((la + q.2) % g q.1)) = some (1, h') := by
          simp only [f_X5_draftLaid, Kx.ok, Kx.r0, Kx.r4, if_true, Option.bind_some, Kg, e1, b2, m1]
        rcases i5 with ⟨rfl, rfl⟩ | ⟨rfl, s1, s2⟩
        · refine ⟨(1, nI (j + 1), h'), ?_, rfl, _, m2, Wl, i4.tr m3, Or.inl ⟨rfl, ts.symm⟩⟩
          simp only [f_X5_draftJoined_L73, f_X5_draftJoined_J146, f_X5_draftJoined_J147, R_hueCount Kb, Option.bind_some, if_neg b1, R_hueAt Wb Kb hq, e4, not_true_eq_false, if_false, R_length K, R_first0 hg Wb Kb hm, Kx.r0, Kg, e6, e3, if_neg c10, nI_1]
        · refine ⟨(0, nI (j + 1), h'), ?_, rfl, _, m2, Wl, i4.tr m3, Or.inr ⟨rfl, ?_, s2⟩⟩
          · simp only [f_X5_draftJoined_L73, f_X5_draftJoined_J145, f_X5_draftJoined_J146, f_X5_draftJoined_J147, R_hueCount Kb, Option.bind_some, if_neg b1, R_hueAt Wb Kb hq, e4, not_true_eq_false, if_false, R_length K, R_first0 hg Wb Kb hm, Kx.r0, Kg, e6, e3, if_neg c10, if_true, nI_1]
          · skip
            rw [ts]
            exact s1.append (List.Sublist.refl _)
      · have b2 : ¬ nI (whyA g (la + lb) D q.1 ((la + q.2) % g q.1)) = 0 := nI_ne0 (by omega) (by omega)
        have e3 : f_X5_draftLaid z3 x (nI q.1) (nI ((la + q.2) % g q.1)) = some (0, z3) := by
          simp only [f_X5_draftLaid, Kx.ok, Kx.r0, Kx.r4, if_true, Option.bind_some, Kg, e1, if_neg b2]
        refine ⟨(0, nI (j + 1), z3), ?_, rfl, D, i2, i3, i4, Or.inr ⟨rfl, ?_, ?_⟩⟩
        · simp only [f_X5_draftJoined_L73, f_X5_draftJoined_J145, f_X5_draftJoined_J146, f_X5_draftJoined_J147, R_hueCount Kb, Option.bind_some, if_neg b1, R_hueAt Wb Kb hq, e4, not_true_eq_false, if_false, R_length K, R_first0 hg Wb Kb hm, Kx.r0, Kg, e6, e3, if_true, nI_1]
        · skip
          rw [ts]
          rcases i5 with ⟨_, rfl⟩ | ⟨_, s1, _⟩
          · exact List.sublist_append_left _ _
          · exact s1.trans (List.sublist_append_left _ _)
        · rcases i5 with ⟨_, rfl⟩ | ⟨_, _, s2⟩
          · exact lay_bad hg hJ (by rw [← ts]; exact t2 _) (by show (la + q.2) % g q.1 < la + lb; omega) hw
          · exact s2
    · have c1 : ¬ oI (ixo La q.1) = -1 := fun q9 => by
        have := e5.mp q9
        cases hx : phs La q.1 with
        | none => exact hph hx
        | some v => rw [hx] at this; cases this
      have ts : La ++ ((Lb.take (j + 1)).filter (fun q => decide (phs La q.1 = none))).map (fun q => (q.1, (la + q.2) % g q.1)) = (La ++ ((Lb.take j).filter (fun q => decide (phs La q.1 = none))).map (fun q => (q.1, (la + q.2) % g q.1))) := by
        rw [take_s hq, List.filter_append, List.filter_cons_of_neg (p := fun q : Nat × Nat => decide (phs La q.1 = none)) (by simpa using hph), List.filter_nil, List.append_nil]
      refine ⟨(z1, nI (j + 1), z3), ?_, rfl, D, i2, i3, i4, ?_⟩
      · simp only [f_X5_draftJoined_L73, f_X5_draftJoined_J147, R_hueCount Kb, Option.bind_some, if_neg b1, R_hueAt Wb Kb hq, e4, if_pos c1, nI_1]
      · dsimp only
        rw [ts]
        exact i5) (by
    rintro ⟨z1, z2, z3⟩ ⟨i1, D, i2, i3, i4, i5⟩
    dsimp only at i1 i2 i3 i4 i5
    subst i1
    have Kb : repR g z3 b lb Lb := Hb.chg i4 (by omega)
    have b1 : nI Lb.length ≤ nI Lb.length := nI_le (Nat.le_refl _) (by omega)
    rw [List.take_length] at i5
    refine ⟨(z1, z3), ?_, D, i2, i3, i4, ?_⟩
    · simp only [f_X5_draftJoined_L73, R_hueCount Kb, Option.bind_some, if_pos b1]
    · rcases i5 with i6 | ⟨s1, s2, s3⟩
      · exact Or.inl i6
      · exact Or.inr ⟨s1, s3⟩) Lb.length 0 LF (v1, 0, hm) (by omega) (by unfold LF; omega) ⟨rfl, D1, q2, q3, q4, by
    have e0 : La ++ ((Lb.take 0).filter (fun q => decide (phs La q.1 = none))).map (fun q => (q.1, (la + q.2) % g q.1)) = La := List.append_nil _
    dsimp only
    rw [e0]
    exact q5⟩
  dsimp only at r2 r3 r4 r5
  have z1 : z01 v2 = true := by
    rcases r5 with ⟨rfl, _⟩ | ⟨rfl, _⟩ <;> rfl
  refine ⟨v2, hm2, ?_, r4, r2.j, ?_⟩
  · simp only [f_X5_draftJoined, f_X5_draftJoined_J70, f_X5_draftJoined_J153, Hx.ok, Hx.r4, if_true, Option.bind_some, R_length Ha, R_length Hb, nI_add, p1, q1, r1, z1]
  · rcases r5 with ⟨rfl, rfl⟩ | r6
    · exact Or.inl ⟨rfl, r2, r3⟩
    · exact Or.inr r6
theorem C_reasonJoin (hg : wfg g) (Hx : cX h x k) (HS : repS h (x + 1) g R c1 c2 c3) {f b la lb : Nat} {La Lb : List (Nat × Nat)} (Wa : wfR g la La) (Wb : wfR g lb Lb) (Ha : repR g h f la La) (Hb : repR g h b lb Lb) (hf : x + 4 ≤ f ∧ f + 3 ≤ x + 16) (hb : x + 4 ≤ b ∧ b + 3 ≤ x + 16) (J : jR h (x + 125)) :
    ∃ h', f_X5_reasonAgainstJoining h x f b = some (nI (rjA g la lb La Lb), h') ∧ chg (x + 125) h h' ∧ jR h' (x + 125) := by
  have h8 := Wa.le8
  have ha60 := Wa.1.2
  have hb60 := Wb.1.2
  unfold rjA
  by_cases hn : 60 < la + lb
  · rw [if_pos hn]
    have b1 : ¬ nI (la + lb) ≤ (60 : Int32) := nI_ge (a := 60) hn (by omega)
    refine ⟨h, ?_, chg.rf, J⟩
    simp only [f_X5_reasonAgainstJoining, Hx.ok, if_true, Option.bind_some, R_length Ha, R_length Hb, nI_add, if_neg b1]
    rfl
  · rw [if_neg hn]
    have b1 : nI (la + lb) ≤ (60 : Int32) := nI_le (b := 60) (by omega) (by omega)
    have hw : lpn (f_X5_reasonAgainstJoining_L18 h x f b) LF 0 = some (match fst9 (fun j => (La[j]?.map (disA g la La Lb)).getD false) 0 La.length with | some j => (fun _ => (.inr () : Unit ⊕ Unit)) j | none => .inl ()) := by
      refine lpn_find (fun j => nI j) (fun j => (La[j]?.map (disA g la La Lb)).getD false) (fun _ => (.inr () : Unit ⊕ Unit)) (.inl ()) La.length 0 LF ?_ ?_ (by unfold LF; omega)
      · intro j _ hj
        have hj2 : j < La.length := by omega
        obtain ⟨q, hq⟩ : ∃ q, La[j]? = some q := ⟨_, List.getElem?_eq_getElem hj2⟩
        have hm := List.mem_of_getElem? hq
        obtain ⟨a1, a2, a3⟩ := Wa.2.2.1 q hm
        have hgu := hg q.1
        have b2 : ¬ nI La.length ≤ nI j := nI_ge hj2 (by omega)
        have e4 := R_orderOf Wb Hb (u := q.1) (by omega)
        have e5 := ixo_m1 (u := q.1) Wb
        have e6 : (La[j]?.map (disA g la La Lb)).getD false = disA g la La Lb q := by rw [hq]; rfl
        have hl := lst_lt (s := g q.1) a2
        skip
        rw [e6]
        unfold disA
        cases hph : phs Lb q.1 with
        | none =>
          have c1 : oI (ixo Lb q.1) = -1 := e5.mpr (by rw [hph]; rfl)
          rw [c1] at e4
          simp only [f_X5_reasonAgainstJoining_L18, f_X5_reasonAgainstJoining_J80, R_hueCount Ha, Option.bind_some, if_neg b2, R_hueAt Wa Ha hq, R_lastOf hg Wa Ha hm, Hx.r0, S_gapAt HS a1, e4, if_true, nI_1]
          rfl
        | some pb =>
          have c1 : ¬ oI (ixo Lb q.1) = -1 := fun q9 => by have := e5.mp q9; rw [hph] at this; cases this
          obtain ⟨d1, d2, d3⟩ := Wb.2.2.1 _ (phs_mem hph)
          dsimp only at d1 d2 d3
          have e7 := join_meet (s := g q.1) (la := la) (pa := q.2) (pb := pb) (by omega) a2 a3 d3
          have e8 := R_first0 hg Wb Hb (phs_mem hph)
          dsimp only at e8 ⊢
          by_cases hd : q.2 = (la + pb) % g q.1
          · have e9 : nI (lst q.2 (g q.1) la + g q.1) = nI (la + pb) := by rw [e7.mpr hd]
            simp only [f_X5_reasonAgainstJoining_L18, f_X5_reasonAgainstJoining_J80, R_hueCount Ha, Option.bind_some, if_neg b2, R_hueAt Wa Ha hq, R_lastOf hg Wa Ha hm, Hx.r0, S_gapAt HS a1, e4, if_neg c1, R_length Ha, e8, nI_add, if_pos e9, nI_1]
            rw [if_neg]
            simpa using hd
          · have e9 : ¬ nI (lst q.2 (g q.1) la + g q.1) = nI (la + pb) := fun q9 => hd (e7.mp ((nI_eq (by omega) (by omega)).mp q9))
            simp only [f_X5_reasonAgainstJoining_L18, f_X5_reasonAgainstJoining_J80, R_hueCount Ha, Option.bind_some, if_neg b2, R_hueAt Wa Ha hq, R_lastOf hg Wa Ha hm, Hx.r0, S_gapAt HS a1, e4, if_neg c1, R_length Ha, e8, nI_add, if_neg e9]
            rw [if_pos]
            simpa using hd
      · have b2 : nI La.length ≤ nI La.length := nI_le (Nat.le_refl _) (by omega)
        simp only [Nat.zero_add, f_X5_reasonAgainstJoining_L18, R_hueCount Ha, Option.bind_some, if_pos b2]
    have e10 := any_fst (disA g la La Lb) La
    cases hf9 : fst9 (fun j => (La[j]?.map (disA g la La Lb)).getD false) 0 La.length with
    | some j =>
      rw [hf9] at hw e10
      have e11 : La.any (disA g la La Lb) = true := e10.symm
      rw [if_pos e11]
      refine ⟨h, ?_, chg.rf, J⟩
      simp only [f_X5_reasonAgainstJoining, f_X5_reasonAgainstJoining_J78, Hx.ok, if_true, Option.bind_some, R_length Ha, R_length Hb, nI_add, if_pos b1, hw]
      rfl
    | none =>
      rw [hf9] at hw e10
      have e11 : ¬ La.any (disA g la La Lb) = true := by rw [← e10]; decide
      rw [if_neg e11]
      obtain ⟨v, h', m1, m2, m3, m4⟩ := C_draftJoined hg Hx HS Wa Wb Ha Hb hf hb J (by omega)
      refine ⟨h', ?_, m2, m3⟩
      rcases m4 with ⟨rfl, m5, m6⟩ | ⟨rfl, i, m5, m6⟩
      · have c10 : ¬ (1 : Int32) = 0 := by decide
        have hcl := clash_len m6
        rw [if_neg (by omega)]
        simp only [f_X5_reasonAgainstJoining, f_X5_reasonAgainstJoining_J86, f_X5_reasonAgainstJoining_J100, Hx.ok, if_true, Option.bind_some, R_length Ha, R_length Hb, nI_add, if_pos b1, hw, m1, if_neg c10]
        rfl
      · have hcl : clashA g (jnA g la La Lb) < la + lb := by
          rcases Nat.lt_or_ge (clashA g (jnA g la La Lb)) (la + lb) with q9 | q9
          · exact q9
          · have := clash_low (show i < clashA g (jnA g la La Lb) by omega)
            omega
        rw [if_pos hcl]
        simp only [f_X5_reasonAgainstJoining, f_X5_reasonAgainstJoining_J86, f_X5_reasonAgainstJoining_J100, Hx.ok, if_true, Option.bind_some, R_length Ha, R_length Hb, nI_add, if_pos b1, hw, m1]
        rfl
end MainJoin
section MainOps4
variable {h : PH} {x : Nat} {A : AAt}
theorem C_joining (W : wfA A) (H : repC h x A) (a b : Int32) : CK (f_X5_joining h x a b) [eIO] h x A (sp_joining A a b) := by
  obtain ⟨H1, H2, -⟩ := id H
  unfold CK sp_joining rjR
  have hR := W.1.2.1
  cases hv : rng A.1.2.1.length a with
  | none =>
    refine ⟨h, ?_, H, onX.rf⟩
    simp only [f_X5_joining, H1.ok, if_true, C_existing_no H1 H2 hv, Option.bind_some]
    rfl
  | some i =>
    obtain ⟨v1, rfl⟩ := rng_some (by omega) hv
    dsimp only
    obtain ⟨r, e1, e3, e4, e5, e6⟩ := C_existing H1 W.1 H2 (atR_get v1)
    cases hu : rng A.1.2.1.length b with
    | none =>
      refine ⟨h, ?_, H, onX.rf⟩
      simp only [f_X5_joining, H1.ok, if_true, e1, C_existing_no H1 H2 hu, Option.bind_some]
      rfl
    | some j =>
      obtain ⟨u1, rfl⟩ := rng_some (by omega) hu
      dsimp only
      obtain ⟨t, f1, f3, f4, f5, f6⟩ := C_existing H1 W.1 H2 (atR_get u1)
      by_cases hij : i = j
      · rw [if_pos hij]
        subst hij
        refine ⟨h, ?_, H, onX.rf⟩
        simp only [f_X5_joining, f_X5_joining_J29, H1.ok, if_true, e1, Option.bind_some, not_true_eq_false, if_false]
        rfl
      · rw [if_neg hij]
        have b1 : ¬ nI i = nI j := fun q => hij ((nI_eq (by omega) (by omega)).mp q)
        obtain ⟨h', m1, m2, m3⟩ := C_reasonJoin W.1.1 H1 H2 (W.1.2.2 _ (atR_mem v1)) (W.1.2.2 _ (atR_mem u1)) e4 f4 ⟨e5, e6⟩ ⟨f5, f6⟩ H.2.2.2.2.2.2
        refine ⟨h', ?_, H.draft W m2 m3, m2.toX⟩
        simp only [f_X5_joining, f_X5_joining_J29, H1.ok, if_true, e1, f1, Option.bind_some, if_pos b1, m1]
        rfl
theorem C_join (W : wfA A) (H : repC h x A) (a b : Int32) : CK (f_X5_join h x a b) [eIO, eIS] h x A (sp_join A a b) := by
  obtain ⟨H1, H2, -⟩ := id H
  unfold CK sp_join
  have hR := W.1.2.1
  cases hv : rng A.1.2.1.length a with
  | none =>
    refine ⟨h, ?_, H, onX.rf⟩
    simp only [f_X5_join, H1.ok, if_true, C_existing_no H1 H2 hv, Option.bind_some]
    rfl
  | some i =>
    obtain ⟨v1, rfl⟩ := rng_some (by omega) hv
    dsimp only
    obtain ⟨r, e1, e3, e4, e5, e6⟩ := C_existing H1 W.1 H2 (atR_get v1)
    cases hu : rng A.1.2.1.length b with
    | none =>
      refine ⟨h, ?_, H, onX.rf⟩
      simp only [f_X5_join, H1.ok, if_true, e1, C_existing_no H1 H2 hu, Option.bind_some]
      rfl
    | some j =>
      obtain ⟨u1, rfl⟩ := rng_some (by omega) hu
      dsimp only
      obtain ⟨t, f1, f3, f4, f5, f6⟩ := C_existing H1 W.1 H2 (atR_get u1)
      by_cases hij : i = j
      · rw [if_pos hij]
        subst hij
        refine ⟨h, ?_, H, onX.rf⟩
        simp only [f_X5_join, f_X5_join_J28, H1.ok, if_true, e1, Option.bind_some]
        rfl
      · rw [if_neg hij]
        have b1 : ¬ nI i = nI j := fun q => hij ((nI_eq (by omega) (by omega)).mp q)
        have Wa := W.1.2.2 _ (atR_mem v1)
        have Wb := W.1.2.2 _ (atR_mem u1)
        obtain ⟨h', m1, m2, m3⟩ := C_reasonJoin W.1.1 H1 H2 Wa Wb e4 f4 ⟨e5, e6⟩ ⟨f5, f6⟩ H.2.2.2.2.2.2
        have K := H.draft W m2 m3
        have hle := rjA_le A.1.1 (atR A.1.2.1 i).1 (atR A.1.2.1 j).1 (atR A.1.2.1 i).2 (atR A.1.2.1 j).2
        by_cases hw : rjA A.1.1 (atR A.1.2.1 i).1 (atR A.1.2.1 j).1 (atR A.1.2.1 i).2 (atR A.1.2.1 j).2 = 0
        · rw [if_pos hw]
          rw [hw] at m1
          have Wj := wf_join W.1.1 Wa Wb hw
          have b2 : nI 0 = (0 : Int32) := rfl
          obtain ⟨h1, s1, s2, s3⟩ := C_save W K
          have g1 : f_X3_ropeAt h' (x + 1) (nI i) = some (some r) := (ropeAt_kp H2 hR (fun b b1 b2 => m2 b (by omega)) v1).trans e3
          have g2 : f_X3_ropeAt h' (x + 1) (nI j) = some (some t) := (ropeAt_kp H2 hR (fun b b1 b2 => m2 b (by omega)) u1).trans f3
          have g3 : f_X3_ropeAt h1 (x + 1) (nI i) = some (some r) := (ropeAt_kp K.2.1 hR (fun b b1 b2 => s3 b (by omega)) v1).trans g1
          have g4 : f_X3_ropeAt h1 (x + 1) (nI j) = some (some t) := (ropeAt_kp K.2.1 hR (fun b b1 b2 => s3 b (by omega)) u1).trans g2
          obtain ⟨k1, k2, k3⟩ := C_at W.sv s2 v1 g3
          obtain ⟨l1, l2, l3⟩ := C_at W.sv s2 u1 g4
          obtain ⟨v, h2, n1, n2, n3, n4⟩ := C_draftJoined W.1.1 s2.1 s2.2.1 Wa Wb k1 l1 ⟨k2, k3⟩ ⟨l2, l3⟩ s2.2.2.2.2.2.2 Wj.1.2
          rcases n4 with ⟨rfl, n5, n6⟩ | ⟨-, i9, n5, n6⟩
          · have K2 := s2.draft W.sv n2 n3
            have g5 : f_X3_ropeAt h2 (x + 1) (nI i) = some (some r) := (ropeAt_kp s2.2.1 hR (fun b b1 b2 => n2 b (by omega)) v1).trans g3
            obtain ⟨y1, y2, y3⟩ := C_at W.sv K2 v1 g5
            obtain ⟨h3, o1, o2, o3⟩ := R_copyFrom y1.j Wj n5 (by omega)
            obtain ⟨K3, K4⟩ := C_setR W.sv K2 v1 g5 o3 o2
            have WA3 := W.sv.put (T := (A.1.1, A.1.2.1.set i ((atR A.1.2.1 i).1 + (atR A.1.2.1 j).1, jnA A.1.1 (atR A.1.2.1 i).1 (atR A.1.2.1 i).2 (atR A.1.2.1 j).2), A.1.2.2)) (wf_set W.1 i Wj)
            obtain ⟨h4, z1, z2, z3⟩ := S_removeRope WA3.1 K3.2.1 (i := j) (by show j < (A.1.2.1.set _ _).length; rw [List.length_set]; exact u1)
            have K5 := K3.now (T := (A.1.1, (A.1.2.1.set i ((atR A.1.2.1 i).1 + (atR A.1.2.1 j).1, jnA A.1.1 (atR A.1.2.1 i).1 (atR A.1.2.1 i).2 (atR A.1.2.1 j).2)).eraseIdx j, A.1.2.2)) WA3 z3.only z2
            have WA5 := WA3.put (T := (A.1.1, (A.1.2.1.set i ((atR A.1.2.1 i).1 + (atR A.1.2.1 j).1, jnA A.1.1 (atR A.1.2.1 i).1 (atR A.1.2.1 i).2 (atR A.1.2.1 j).2)).eraseIdx j, A.1.2.2)) (wf_drop WA3.1 j)
            obtain ⟨h5, w1, w2, w3⟩ := S_countJoin K5.2.1
            have K6 := K5.now (T := (A.1.1, (A.1.2.1.set i ((atR A.1.2.1 i).1 + (atR A.1.2.1 j).1, jnA A.1.1 (atR A.1.2.1 i).1 (atR A.1.2.1 i).2 (atR A.1.2.1 j).2)).eraseIdx j, A.1.2.2.1, A.1.2.2.2.1 + 1, A.1.2.2.2.2)) WA5 w3.only w2
            have o4 : f_X2_length h5 r = some (nI ((atR A.1.2.1 i).1 + (atR A.1.2.1 j).1)) := by
              obtain ⟨cf, off, q1, -, -⟩ := o2
              have q2 : cR h4 r ((atR A.1.2.1 i).1 + (atR A.1.2.1 j).1) (jnA A.1.1 (atR A.1.2.1 i).1 (atR A.1.2.1 i).2 (atR A.1.2.1 j).2).length cf off := ⟨(z3 _ (by omega)).trans q1.1, (z3 _ (by omega)).trans q1.2.1, (z3 _ (by omega)).trans q1.2.2⟩
              have q3 : cR h5 r ((atR A.1.2.1 i).1 + (atR A.1.2.1 j).1) (jnA A.1.1 (atR A.1.2.1 i).1 (atR A.1.2.1 i).2 (atR A.1.2.1 j).2).length cf off := ⟨(w3 _ (by omega)).trans q2.1, (w3 _ (by omega)).trans q2.2.1, (w3 _ (by omega)).trans q2.2.2⟩
              exact X2_length q3
            refine ⟨h5, ?_, K6, m2.toX.tr (s3.toX.tr (n2.toX.tr (K4.tr (z3.only.toX.tr w3.only.toX))))⟩
            simp only [f_X5_join, H1.ok, if_true, e1, f1, Option.bind_some, if_neg b1, m1, b2, K.1.r2, K.1.r0, s1, n1, K2.1.r4, o1, K3.1.r0, z1, K5.1.r0, w1, o4]
            rfl
          · have h9 := cntT_le Wj n5
            omega
        · rw [if_neg hw]
          have b2 : ¬ nI (rjA A.1.1 (atR A.1.2.1 i).1 (atR A.1.2.1 j).1 (atR A.1.2.1 i).2 (atR A.1.2.1 j).2) = 0 := nI_ne0 (by omega) (by omega)
          refine ⟨h', ?_, K, m2.toX⟩
          simp only [f_X5_join, f_X5_join_J28, H1.ok, if_true, e1, f1, Option.bind_some, if_neg b1, m1, if_neg b2]
          rfl
end MainOps4
