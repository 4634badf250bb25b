/-! PURE READING, 38: the class: play -/
theorem num1 (B : List Nat) (b : Nat) (h : 48 ≤ B.getD b 0) : numI B b 1 = nI (B.getD b 0 - 48) := by
  show ((10 : Int32) * 0 + nI (B.getD (b + 0) 0)) - (48 : Int32) = _
  have e1 : (10 : Int32) * 0 + nI (B.getD (b + 0) 0) = nI (B.getD b 0) := by
    rw [Int32.mul_zero, Int32.zero_add, Nat.add_zero]
  rw [e1]
  exact nI_sub (b := 48) h
theorem num2 (B : List Nat) (b : Nat) (h : 48 ≤ B.getD b 0) (h2 : 48 ≤ B.getD (b + 1) 0) : numI B b 2 = nI (10 * (B.getD b 0 - 48) + (B.getD (b + 1) 0 - 48)) := by
  show ((10 : Int32) * numI B b 1 + nI (B.getD (b + 1) 0)) - (48 : Int32) = _
  rw [num1 B b h]
  have e1 : (10 : Int32) * nI (B.getD b 0 - 48) = nI (10 * (B.getD b 0 - 48)) := nI_mul 10 _
  rw [e1, nI_add]
  have e2 : nI (10 * (B.getD b 0 - 48) + B.getD (b + 1) 0) - (48 : Int32) = nI (10 * (B.getD b 0 - 48) + B.getD (b + 1) 0 - 48) := nI_sub (b := 48) (by omega)
  rw [e2]
  congr 1
  omega
theorem prt_num {B : List Nat} {a kd f s e : Nat} (h : prt B a = .ok (kd, f, s, e)) : (kd = 114 ∧ B.getD a 0 = 114 ∧ numI B (a + 1) (e - (a + 1)) = nI f ∧ a + 1 ≤ e) ∨ (kd = 97 ∧ 97 ≤ B.getD a 0 ∧ B.getD a 0 ≤ 104 ∧ f = B.getD a 0 - 97 ∧ numI B (a + 1) (e - (a + 1)) = nI s ∧ a + 1 ≤ e) ∨ (kd = 45 ∧ B.getD a 0 = 45 ∧ e = a + 2 ∧ f = B.getD (a + 1) 0 - 97 ∧ 97 ≤ B.getD (a + 1) 0) ∨ (kd = 60 ∧ B.getD a 0 = 60) := by
  unfold prt at h
  split at h
  · rename_i h1
    split at h
    · rename_i h2
      split at h
      · rename_i h3
        cases h
        refine Or.inl ⟨rfl, h1, ?_, by omega⟩
        rw [show a + 3 - (a + 1) = 2 by omega]
        exact num2 B (a + 1) (by omega) h3.1.1
      · cases h
        refine Or.inl ⟨rfl, h1, ?_, by omega⟩
        rw [show a + 2 - (a + 1) = 1 by omega]
        exact num1 B (a + 1) (by omega)
    · cases h
  · split at h
    · rename_i h1
      split at h
      · rename_i h2
        split at h
        · rename_i h3
          cases h
          refine Or.inr (Or.inl ⟨rfl, h1.1, h1.2, rfl, ?_, by omega⟩)
          rw [show a + 3 - (a + 1) = 2 by omega]
          exact num2 B (a + 1) (by omega) h3.1.1
        · cases h
          refine Or.inr (Or.inl ⟨rfl, h1.1, h1.2, rfl, ?_, by omega⟩)
          rw [show a + 2 - (a + 1) = 1 by omega]
          exact num1 B (a + 1) (by omega)
      · cases h
    · split at h
      · rename_i h1
        split at h
        · rename_i h2
          cases h
          exact Or.inr (Or.inr (Or.inl ⟨rfl, h1, rfl, rfl, h2.1⟩))
        · cases h
      · split at h
        · rename_i h1
          cases h
          exact Or.inr (Or.inr (Or.inr ⟨rfl, h1⟩))
        · cases h
section MainPlay
variable {h : PH} {x : Nat} {A : AAt}
theorem C_playPart (W : wfA A) (H : repC h x A) {a kd f s e : Nat} (hp : prt A.2.2.2 a = .ok (kd, f, s, e)) (hae : a < e) (hen : e ≤ A.2.2.2.length) : ∃ h', f_X5_playPart h x (nI a) (nI e) = some (bI (doA A.1 kd f s).isSome, h') ∧ repC h' x ((doA A.1 kd f s).getD A.1, A.2) ∧ onX x h h' := by
  obtain ⟨H1, H2, H3, H4, H5, H6, H7⟩ := id H
  have WX := W.2.2.2.2
  have hX := WX.1
  have hR := W.1.2.1
  have hr := prt_rng hp
  have ec := T_codeAt WX H6 (show a < A.2.2.2.length by omega)
  have hca := getD_126 WX a
  have zI : z01 (0 : Int32) = true ∧ z01 (1 : Int32) = true := ⟨rfl, rfl⟩
  rcases prt_num hp with ⟨rfl, n1, n2, n3⟩ | hq
  · have e1 := T_numberIn WX H6 n3 hen
    have e1 : f_X4_numberIn h (x + 123) (nI a + 1) (nI e) = some (nI f) := by rw [nI_1, e1, n2]
    rw [n1] at ec
    have ec : f_X4_codeAt h (x + 123) (nI a) = some (114 : Int32) := ec
    have c1 : ¬ ¬ (114 : Int32) = 114 := fun q => q rfl
    unfold doA
    rw [if_pos rfl]
    by_cases hl : A.1.2.1.length = 4
    · rw [if_pos hl]
      refine ⟨h, ?_, H, onX.rf⟩
      simp only [f_X5_playPart, f_X5_playPart_J41, H1.ok, H1.r0, H1.r3, if_true, bs9, ec, if_neg c1, e1, S_addRope_no H2 hl]
      rfl
    · rw [if_neg hl]
      obtain ⟨r, h2, t1, t2, t3, -⟩ := S_addRope W.1 H2 (by omega) (n := f) (by omega)
      refine ⟨h2, ?_, H.now (T := (A.1.1, A.1.2.1 ++ [(f, [])], A.1.2.2)) W t3 t2, t3.toX⟩
      simp only [f_X5_playPart, f_X5_playPart_J41, H1.ok, H1.r0, H1.r3, if_true, bs9, ec, if_neg c1, e1, t1]
      rfl
  · have hk : ¬ kd = 114 := by omega
    have hc114 : ¬ nI (A.2.2.2.getD a 0) = (114 : Int32) := fun q => by
      have := (nI_eq (b := 114) (show A.2.2.2.getD a 0 < 2 ^ 31 by omega) (by omega)).mp q
      omega
    unfold doA
    rw [if_neg hk]
    by_cases hl : A.1.2.1.length = 0
    · rw [if_pos hl]
      have e2 : f_X3_ropeAt h (x + 1) (nI A.1.2.1.length - 1) = some none := S_ropeAt_no H2 (Or.inl (by rw [hl]; decide))
      refine ⟨h, ?_, H, onX.rf⟩
      simp only [f_X5_playPart, H1.ok, H1.r0, H1.r3, if_true, bs9, ec, if_pos hc114, S_ropeCount H2, e2]
      rfl
    · rw [if_neg hl]
      have hi : A.1.2.1.length - 1 < A.1.2.1.length := by omega
      have WR := W.1.2.2 _ (atR_mem hi)
      obtain ⟨r, e1, e3, e4, e5, e6⟩ := C_existing H1 W.1 H2 (atR_get hi)
      have el : nI A.1.2.1.length - 1 = nI (A.1.2.1.length - 1) := nI_sub (b := 1) (by omega)
      rcases hq with ⟨rfl, n1, n2, n3, n4, n5⟩ | ⟨rfl, n1, n2, n3, n4⟩ | ⟨rfl, n1⟩
      · rw [if_pos rfl]
        have c60 : ¬ nI (A.2.2.2.getD a 0) = (60 : Int32) := fun q => by
          have := (nI_eq (b := 60) (show A.2.2.2.getD a 0 < 2 ^ 31 by omega) (by omega)).mp q
          omega
        have c45 : ¬ nI (A.2.2.2.getD a 0) = (45 : Int32) := fun q => by
          have := (nI_eq (b := 45) (show A.2.2.2.getD a 0 < 2 ^ 31 by omega) (by omega)).mp q
          omega
        have n6 := T_numberIn WX H6 n5 hen
        have n6 : f_X4_numberIn h (x + 123) (nI a + 1) (nI e) = some (nI s) := by rw [nI_1, n6, n4]
        have n7 : nI (A.2.2.2.getD a 0) - (97 : Int32) = nI f := by rw [n3]; exact nI_sub (b := 97) n1
        have hf8 : f < 8 := by omega
        have hgf := W.1.1 f
        have hs20 : s < 20 := by omega
        by_cases hsg : s < A.1.1 f
        · have c1 : ¬ nI (A.1.1 f) ≤ nI s := nI_ge hsg (by omega)
          have ew := R_reasonAgainst W.1.1 WR e4 (u := f) (p := s) (by omega) (by omega)
          have hw3 := whyA_le A.1.1 (atR A.1.2.1 (A.1.2.1.length - 1)).1 (atR A.1.2.1 (A.1.2.1.length - 1)).2 f s
          by_cases hw : whyA A.1.1 (atR A.1.2.1 (A.1.2.1.length - 1)).1 (atR A.1.2.1 (A.1.2.1.length - 1)).2 f s = 0
          · rw [if_pos ⟨hsg, hw⟩]
            obtain ⟨h2, t1, t2, t3⟩ := S_layOn W.1 H2 (atR_get hi) e3 hf8 (wf_lay W.1.1 WR hf8 hsg hw)
            rw [hw] at ew
            have c2 : nI 0 = (0 : Int32) := rfl
            refine ⟨h2, ?_, H.now W t3 t2, t3.toX⟩
            simp only [f_X5_playPart, f_X5_playLaying, H1.ok, H1.r0, H1.r3, if_true, bs9, ec, if_pos hc114, S_ropeCount H2, el, e3, if_pos c60, if_pos c45, n6, n7, S_gapAt H2 hf8, if_neg c1, ew, c2, t1, zI.2]
            rfl
          · rw [if_neg (fun q => hw q.2)]
            have c2 : ¬ nI (whyA A.1.1 (atR A.1.2.1 (A.1.2.1.length - 1)).1 (atR A.1.2.1 (A.1.2.1.length - 1)).2 f s) = 0 := nI_ne0 (by omega) (by omega)
            refine ⟨h, ?_, H, onX.rf⟩
            simp only [f_X5_playPart, f_X5_playLaying, f_X5_playLaying_J27, H1.ok, H1.r0, H1.r3, if_true, bs9, ec, if_pos hc114, S_ropeCount H2, el, e3, if_pos c60, if_pos c45, n6, n7, S_gapAt H2 hf8, if_neg c1, ew, if_neg c2, zI.1]
            rfl
        · rw [if_neg (fun q => hsg q.1)]
          have c1 : nI (A.1.1 f) ≤ nI s := nI_le (by omega) (by omega)
          refine ⟨h, ?_, H, onX.rf⟩
          simp only [f_X5_playPart, f_X5_playLaying, f_X5_playLaying_J27, H1.ok, H1.r0, H1.r3, if_true, bs9, ec, if_pos hc114, S_ropeCount H2, el, e3, if_pos c60, if_pos c45, n6, n7, S_gapAt H2 hf8, if_pos c1, zI.1]
          rfl
      · rw [if_neg (show ¬ (45 : Nat) = 97 by omega), if_pos rfl]
        rw [n1] at ec hc114
        have ec : f_X4_codeAt h (x + 123) (nI a) = some (45 : Int32) := ec
        have c114 : ¬ (45 : Int32) = 114 := by decide
        have c60 : ¬ (45 : Int32) = 60 := by decide
        have c45 : ¬ ¬ (45 : Int32) = 45 := fun q => q rfl
        have ec2 := T_codeAt WX H6 (show a + 1 < A.2.2.2.length by omega)
        have ec2 : f_X4_codeAt h (x + 123) (nI a + 1) = some (nI (A.2.2.2.getD (a + 1) 0)) := by rw [nI_1]; exact ec2
        have n7 : nI (A.2.2.2.getD (a + 1) 0) - (97 : Int32) = nI f := by rw [n3]; exact nI_sub (b := 97) n4
        have hf8 : f < 8 := by omega
        cases hph : phs (atR A.1.2.1 (A.1.2.1.length - 1)).2 f with
        | none =>
          have e7 := R_remove_n WR e4 (u := f) (by omega) hph
          have c1 : (0 : Int32) ≤ 0 := by decide
          refine ⟨h, ?_, H, onX.rf⟩
          simp only [f_X5_playPart, f_X5_playPart_J114, H1.ok, H1.r0, H1.r3, if_true, bs9, ec, if_pos c114, S_ropeCount H2, el, e3, if_pos c60, if_neg c45, ec2, n7, e7, if_pos c1, zI.1]
          rfl
        | some p =>
          obtain ⟨h2, t1, t2, t3⟩ := R_remove W.1.1 WR e4 (phs_mem hph)
          have hgf := W.1.1 f
          have hpl := (WR.2.2.1 _ (phs_mem hph)).2.1
          have s1 := stp9_pos (s := A.1.1 f) (by omega) hpl
          have s2 : stp9 (atR A.1.2.1 (A.1.2.1.length - 1)).1 p (A.1.1 f) ≤ (atR A.1.2.1 (A.1.2.1.length - 1)).1 := stp9_le (by omega)
          have s3 := WR.1.2
          have c1 : ¬ nI (stp9 (atR A.1.2.1 (A.1.2.1.length - 1)).1 p (A.1.1 f)) ≤ 0 := nI_nle s1 (by omega)
          refine ⟨h2, ?_, H.now W (t3.only (by omega) (by omega)) (S_set W.1 H2 (atR_get hi) e3 t3 t2), (t3.only (s := x + 1) (by omega) (by omega)).toX⟩
          simp only [f_X5_playPart, f_X5_playPart_J114, H1.ok, H1.r0, H1.r3, if_true, bs9, ec, if_pos c114, S_ropeCount H2, el, e3, if_pos c60, if_neg c45, ec2, n7, t1, if_neg c1, zI.2]
          rfl
      · rw [if_neg (show ¬ (60 : Nat) = 97 by omega), if_neg (show ¬ (60 : Nat) = 45 by omega)]
        rw [n1] at ec hc114
        have ec : f_X4_codeAt h (x + 123) (nI a) = some (60 : Int32) := ec
        have c114 : ¬ (60 : Int32) = 114 := by decide
        have c60 : ¬ ¬ (60 : Int32) = 60 := fun q => q rfl
        obtain ⟨hm, h2, t1, t2, t3, t4, t5⟩ := C_turnRound W.1.1 H1 H2 WR e4 ⟨e5, e6⟩ H7
        have K := H.draft W t2 t3
        have e10 : f_X3_ropeAt hm (x + 1) (nI (A.1.2.1.length - 1)) = some (some r) := (ropeAt_kp H2 hR (fun b b1 b2 => t2 b (by omega)) hi).trans e3
        obtain ⟨K2, K3⟩ := C_setR W K hi e10 t4 t5
        refine ⟨h2, ?_, K2, t2.toX.tr K3⟩
        simp only [f_X5_playPart, H1.ok, H1.r0, H1.r3, if_true, bs9, ec, if_pos c114, S_ropeCount H2, el, e3, if_neg c60, t1]
        rfl
theorem lpn_l {σ ρ : Type} {b : σ → Option (σ ⊕ ρ)} {k : Nat} {x y : σ} (h : b x = some (.inl y)) : lpn b (k + 1) x = lpn b k y := by
  show (b x).bind _ = _
  rw [h]
  rfl
theorem lpn_r {σ ρ : Type} {b : σ → Option (σ ⊕ ρ)} {k : Nat} {x : σ} {z : ρ} (h : b x = some (.inr z)) : lpn b (k + 1) x = some z := by
  show (b x).bind _ = _
  rw [h]
  rfl
theorem C_playLoop {B : List Nat} (WB : wfX B) (hc : endS (dueS B B.length) = true) : ∀ (k : Nat) (T : TTt) (a cnt part fuel : Nat) (h : PH) (S : List TTt) (K : Option TTt), beg B a → a < B.length → B.length - a < k → k < fuel → part ≤ a → cnt ≤ a → wfA (T, S, K, B) → repC h x (T, S, K, B) → ∃ h' w, lpn (f_X5_play_L37 x) fuel (nI cnt, nI a, nI part, h) = some w ∧ (w = .inl (nI (cnt + (runT B k T a).1), h') ∨ w = .inr (nI (cnt + (runT B k T a).1), h')) ∧ repC h' x ((runT B k T a).2, S, K, B) ∧ onX x h h' := by
  have hB := WB.1
  intro k
  induction k with
  | zero => intro T a cnt part fuel h S K _ _ h3; omega
  | succ k ih =>
    intro T a cnt part fuel h S K hb ha h3 h4 h5 h6 W H
    obtain ⟨fuel, rfl⟩ : ∃ q, fuel = q + 1 := ⟨fuel - 1, by omega⟩
    obtain ⟨kd, f, s, e, hp, p1, p2, p3, p4⟩ := prt_ok WB hb hc
    obtain ⟨H1, H2, H3, H4, H5, H6, H7⟩ := id H
    obtain ⟨h1, q1, q2, q3⟩ := C_playPart W H hp p1 p2
    have c1 : ¬ (60 : Int32) ≤ nI part := nI_ge (b := 60) (by omega) (by omega)
    have c2 : ¬ nI B.length ≤ nI a := nI_ge ha (by omega)
    have ee : (fst9 (fun j => decide (B.getD j 0 = 44)) a (B.length - a)).getD B.length = e := by
      by_cases he : e < B.length
      · rw [fst9_of (show a ≤ e by omega) (by omega) (by simpa using (p4 he).1) (fun i i1 i2 => by simpa using p3 i i1 i2)]
        rfl
      · rw [fst9_of_none (fun i i1 i2 => by simpa using p3 i i1 (by omega))]
        show B.length = e
        omega
    have ep := T_partEnd WB H6 (show a ≤ B.length by omega)
    rw [ee] at ep
    have el := T_length H6
    have el : f_X4_length h (x + 123) = some (nI B.length) := el
    have ep : f_X4_partEnd h (x + 123) (nI a) = some (nI e) := ep
    have er : runT B (k + 1) T a = (match doA T kd f s with
      | none => (0, T)
      | some T' => if e < B.length then ((runT B k T' (e + 1)).1 + 1, (runT B k T' (e + 1)).2) else (1, T')) := by
      show (match prt B a with
        | .error _ => (0, T)
        | .ok v => match doA T v.1 v.2.1 v.2.2.1 with
          | none => (0, T)
          | some T' => if v.2.2.2 < B.length then ((runT B k T' (v.2.2.2 + 1)).1 + 1, (runT B k T' (v.2.2.2 + 1)).2) else (1, T')) = _
      rw [hp]
    dsimp only at q1 q2
    cases hd : doA T kd f s with
    | none =>
      rw [hd] at q1 q2 er
      dsimp only at er
      have c3 : ¬ ¬ bI (none : Option TTt).isSome = 0 := fun q => q rfl
      have st : f_X5_play_L37 x (nI cnt, nI a, nI part, h) = some (.inr (.inr (nI cnt, h1))) := by
        simp only [f_X5_play_L37, if_neg c1, H1.r3, el, if_neg c2, ep, q1, bs9, if_neg c3]
      rw [er]
      exact ⟨h1, _, lpn_r st, Or.inr rfl, q2, q3⟩
    | some T' =>
      rw [hd] at q1 q2 er
      dsimp only at er
      have c3 : ¬ bI (some T').isSome = 0 := by simp [bI]
      have st : f_X5_play_L37 x (nI cnt, nI a, nI part, h) = some (.inl (nI (cnt + 1), nI (e + 1), nI (part + 1), h1)) := by
        simp only [f_X5_play_L37, if_neg c1, H1.r3, el, if_neg c2, ep, q1, bs9, if_pos c3, nI_1]
      rw [lpn_l st]
      have WT : wfT T' := doA_wf W.1 (prt_rng hp) hd
      have W1 : wfA (T', S, K, B) := W.put WT
      have q2 : repC h1 x (T', S, K, B) := q2
      by_cases he : e < B.length
      · rw [if_pos he] at er
        obtain ⟨-, hb2⟩ := p4 he
        have hlt : e + 1 < B.length := by
          rcases Nat.lt_or_ge (e + 1) B.length with c | c
          · exact c
          · have := hb2.2.1
            rw [show e + 1 = B.length by omega] at this
            rw [this] at hc
            cases hc
        obtain ⟨h', w, w1, w2, w3, w4⟩ := ih T' (e + 1) (cnt + 1) (part + 1) fuel h1 S K hb2 hlt (by omega) (by omega) (by omega) (by omega) W1 q2
        refine ⟨h', w, w1, ?_, ?_, q3.tr w4⟩
        · rw [er]
          dsimp only
          rw [show cnt + ((runT B k T' (e + 1)).1 + 1) = cnt + 1 + (runT B k T' (e + 1)).1 by omega]
          exact w2
        · rw [er]; exact w3
      · rw [if_neg he] at er
        obtain ⟨fuel, rfl⟩ : ∃ q, fuel = q + 1 := ⟨fuel - 1, by omega⟩
        obtain ⟨G1, G2, G3, G4, G5, G6, G7⟩ := id q2
        have c4 : nI B.length ≤ nI (e + 1) := nI_le (by omega) (by omega)
        have el2 := T_length G6
        have el2 : f_X4_length h1 (x + 123) = some (nI B.length) := el2
        rw [er]
        refine ⟨h1, .inl (nI (cnt + 1), h1), ?_, Or.inl rfl, q2, q3⟩
        by_cases c5 : part + 1 < 60
        · have c6 : ¬ (60 : Int32) ≤ nI (part + 1) := nI_ge (b := 60) c5 (by omega)
          refine lpn_r ?_
          simp only [f_X5_play_L37, if_neg c6, G1.r3, el2, if_pos c4, bs9]
        · have c6 : (60 : Int32) ≤ nI (part + 1) := nI_le (a := 60) (by omega) (by omega)
          refine lpn_r ?_
          simp only [f_X5_play_L37, if_pos c6]
theorem C_play (W : wfA A) (H : repC h x A) : CK (f_X5_play h x) [eIA] h x A (sp_play A) := by
  obtain ⟨H1, H2, H3, H4, H5, H6, H7⟩ := id H
  have WX := W.2.2.2.2
  have hX := WX.1
  have ec := T_isComplete WX H6
  unfold CK sp_play
  by_cases hc : endS (dueS A.2.2.2 A.2.2.2.length) = true
  · rw [if_pos hc]
    have ec : f_X4_isComplete h (x + 123) = some (bI true) := by
      rw [ec]
      unfold endS at hc
      rw [hc]
    have c1 : ¬ bI true = 0 := by decide
    have hne : 0 < A.2.2.2.length := by
      rcases Nat.eq_zero_or_pos A.2.2.2.length with c | c
      · rw [c] at hc; cases hc
      · exact c
    obtain ⟨h1, s1, s2, s3⟩ := C_save W H
    obtain ⟨h2, w, l1, l2, l3, l4⟩ := C_playLoop WX hc 61 A.1 0 0 0 LF h1 (svA A).2.1 A.2.2.1 (beg_0 _) hne (by omega) (by unfold LF; omega) (Nat.le_refl _) (Nat.le_refl _) W.sv s2
    rw [Nat.zero_add] at l2
    have l1 : lpn (f_X5_play_L37 x) LF (0, 0, 0, h1) = some w := l1
    obtain ⟨G1, G2, G3, G4, G5, G6, G7⟩ := id l3
    obtain ⟨h3, m1, m2, m3⟩ := T_empty G6
    have WR : wfA ((runT A.2.2.2 61 A.1 0).2, (svA A).2.1, A.2.2.1, A.2.2.2) := by
      refine W.sv.put ?_
      have : ∀ (k : Nat) (T : TTt) (a : Nat), wfT T → wfT (runT A.2.2.2 k T a).2 := by
        intro k
        induction k with
        | zero => intro T a h; exact h
        | succ k ih =>
          intro T a hT
          show wfT (match prt A.2.2.2 a with
            | .error _ => (0, T)
            | .ok v => match doA T v.1 v.2.1 v.2.2.1 with
              | none => (0, T)
              | some T' => if v.2.2.2 < A.2.2.2.length then ((runT A.2.2.2 k T' (v.2.2.2 + 1)).1 + 1, (runT A.2.2.2 k T' (v.2.2.2 + 1)).2) else (1, T')).2
          cases hp : prt A.2.2.2 a with
          | error w => exact hT
          | ok v =>
            obtain ⟨kd, f, s, e⟩ := v
            dsimp only
            cases hd : doA T kd f s with
            | none => exact hT
            | some T' =>
              have WT' := doA_wf hT (prt_rng hp) hd
              dsimp only
              split
              · exact ih T' (e + 1) WT'
              · exact WT'
      exact this 61 A.1 0 W.1
    refine ⟨h3, ?_, l3.text WR m3 m2, s3.toX.tr (l4.tr m3.toX)⟩
    rcases l2 with rfl | rfl
    · simp only [f_X5_play, f_X5_play_J91, H1.ok, H1.r0, H1.r2, H1.r3, if_true, ec, if_pos c1, s1, l1, G1.r3, m1, bs9]
      rfl
    · simp only [f_X5_play, f_X5_play_J74, f_X5_play_J91, H1.ok, H1.r0, H1.r2, H1.r3, if_true, ec, if_pos c1, s1, l1, G1.r3, m1, bs9]
      rfl
  · rw [if_neg hc]
    have ec : f_X4_isComplete h (x + 123) = some (bI false) := by
      rw [ec]
      unfold endS at hc
      have hc : decide (dueS A.2.2.2 A.2.2.2.length = 4 ∨ dueS A.2.2.2 A.2.2.2.length = 5 ∨ dueS A.2.2.2 A.2.2.2.length = 6) = false := by simpa using hc
      rw [hc]
    have c1 : ¬ ¬ bI false = 0 := fun q => q rfl
    refine ⟨h, ?_, H, onX.rf⟩
    simp only [f_X5_play, H1.ok, H1.r3, if_true, ec, if_neg c1, bs9]
    rfl
end MainPlay
