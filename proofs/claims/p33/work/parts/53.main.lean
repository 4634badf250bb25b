/-! PURE READING, 22: the class: stretch, cut, turn -/
def sp_stretch (A : AAt) (a b : Int32) : Except Nat (Int32 × AAt) := match rng A.1.2.1.length a with
  | none => .error 1
  | some i => match btw 1 60 b with
    | none => .error 2
    | some n => if n ≤ clashA A.1.1 (atR A.1.2.1 i).2 then .ok (nI ((atR A.1.2.1 i).2.length - (fltA n (atR A.1.2.1 i).2).length), (A.1.1, A.1.2.1.set i (n, fltA n (atR A.1.2.1 i).2), A.1.2.2), (svA A).2) else .error 3
def sp_cut (A : AAt) (a b : Int32) : Except Nat (Int32 × AAt) := match rng A.1.2.1.length a with
  | none => .error 1
  | some i => match btw 1 ((atR A.1.2.1 i).1 - 1) b with
    | none => .error 2
    | some p => if A.1.2.1.length = 4 then .error 3 else .ok (nI A.1.2.1.length, (A.1.1, (A.1.2.1 ++ [((atR A.1.2.1 i).1 - p, (atR A.1.2.1 i).2.filterMap (bkA A.1.1 p (atR A.1.2.1 i).1))]).set i (p, fltA p (atR A.1.2.1 i).2), A.1.2.2.1, A.1.2.2.2.1, A.1.2.2.2.2 + 1), (svA A).2)
def trnA (g : Nat → Nat) (X : Nat × List (Nat × Nat)) : Nat × List (Nat × Nat) := (X.1, X.2.map (tnA g X.1))
def unlA (g : Nat → Nat) (X : Nat × List (Nat × Nat)) : Nat := cnt9 (fun k => decide (¬ col g X.2 k = col g X.2 (X.1 - 1 - k))) X.1
def sp_turn (A : AAt) (a : Int32) : Except Nat (Int32 × AAt) := match rng A.1.2.1.length a with
  | none => .error 1
  | some i => .ok (nI (unlA A.1.1 (atR A.1.2.1 i)), (A.1.1, A.1.2.1.set i (trnA A.1.1 (atR A.1.2.1 i)), A.1.2.2), (svA A).2)
theorem take_s {α : Type} {L : List α} {j : Nat} {q : α} (hq : L[j]? = some q) : L.take (j + 1) = L.take j ++ [q] := by
  rw [List.take_succ, hq]
  rfl
section MainOps2
variable {h : PH} {x r len : Nat} {k : Int32} {g : Nat → Nat} {R : RRt} {c1 c2 c3 : Int32} {L : List (Nat × Nat)}
theorem C_huesDue (hg : wfg g) (Hx : cX h x k) (HS : repS h (x + 1) g R c1 c2 c3) (W : wfR g len L) (H : repR g h r len L) {pl : Nat} (h1 : len ≤ pl) (h2 : pl ≤ 100) : f_X5_huesDueAt h x r (nI pl) = some (nI (cntT g L pl)) := by
  have h8 := W.le8
  have hb : ∀ j, 0 ≤ j → j < 0 + L.length → f_X5_huesDueAt_L5 h x r (nI pl) ((fun j => (nI (cntT g (L.take j) pl), nI j)) j) = some (.inl ((fun j => (nI (cntT g (L.take j) pl), nI j)) (j + 1))) := by
    intro j _ hj
    have hj2 : j < L.length := by omega
    obtain ⟨q, hq⟩ : ∃ q, L[j]? = some q := ⟨_, List.getElem?_eq_getElem hj2⟩
    have hm := List.mem_of_getElem? hq
    obtain ⟨a1, a2, a3⟩ := W.2.2.1 q hm
    have hgq := hg q.1
    have b1 : ¬ nI L.length ≤ nI j := nI_ge hj2 (by omega)
    have e1 : cntT g (L.take (j + 1)) pl = cntT g (L.take j) pl + (if tkb g q pl = true then 1 else 0) := by
      unfold cntT
      rw [take_s hq, List.filter_append, List.length_append]
      by_cases ht : tkb g q pl = true
      · rw [if_pos ht, List.filter_cons_of_pos (p := fun q => tkb g q pl) ht]; rfl
      · rw [if_neg ht, List.filter_cons_of_neg (p := fun q => tkb g q pl) ht]; rfl
    simp only [f_X5_huesDueAt_L5, f_X5_huesDueAt_J49, R_hueCount H, Option.bind_some, if_neg b1, R_hueAt W H hq, R_first0 hg W H hm, Hx.r0, S_gapAt HS a1, nI_sub (show q.2 ≤ pl by omega), X1_remainder (h := h) (show pl - q.2 < 2 ^ 31 by omega) (show g q.1 < 2 ^ 31 by omega) (by omega), e1]
    have hlt := Nat.mod_lt (pl - q.2) (show 0 < g q.1 by omega)
    by_cases ht : (pl - q.2) % g q.1 = 0
    · have t2 : tkb g q pl = true := decide_eq_true ⟨by omega, ht⟩
      have t3 : nI ((pl - q.2) % g q.1) = 0 := by rw [ht]; rfl
      simp only [t2, t3, not_true_eq_false, if_false, if_true, nI_1]
    · have t2 : ¬ tkb g q pl = true := fun q9 => ht (of_decide_eq_true q9).2
      have t3 : ¬ nI ((pl - q.2) % g q.1) = 0 := nI_ne0 (by omega) (by omega)
      simp only [if_neg t2, if_pos t3, nI_1, Nat.add_zero]
  have he : f_X5_huesDueAt_L5 h x r (nI pl) ((fun j => (nI (cntT g (L.take j) pl), nI j)) (0 + L.length)) = some (.inr (nI (cntT g L pl))) := by
    have b1 : nI L.length ≤ nI L.length := nI_le (Nat.le_refl _) (by omega)
    simp only [Nat.zero_add, f_X5_huesDueAt_L5, R_hueCount H, Option.bind_some, if_pos b1, List.take_length]
  have hw := lpn_run (fun j => (nI (cntT g (L.take j) pl), nI j)) _ L.length 0 LF hb he (by unfold LF; omega)
  have hw0 : lpn (f_X5_huesDueAt_L5 h x r (nI pl)) LF (0, 0) = _ := hw
  simp only [f_X5_huesDueAt, f_X5_huesDueAt_J55, Hx.ok, if_true, hw0, Option.bind_some]
theorem cntT_len {L : List (Nat × Nat)} {i : Nat} : cntT g L i ≤ L.length := List.length_filter_le _ _
theorem C_greatest (hg : wfg g) (Hx : cX h x k) (HS : repS h (x + 1) g R c1 c2 c3) (W : wfR g len L) (H : repR g h r len L) : f_X5_greatestLength h x r = some (nI (clashA g L)) := by
  have h8 := W.le8
  have h60 := W.1.2
  have hb : ∀ j, len ≤ j → j < len + (60 - len) → f_X5_greatestLength_L5 h x r ((fun j => nI j) j) = some (if (fun i => decide (2 ≤ cntT g L i)) j = true then .inr ((fun j => (.inr (nI j) : Unit ⊕ Int32)) j) else .inl ((fun j => nI j) (j + 1))) := by
    intro j j1 j2
    have b1 : ¬ (60 : Int32) ≤ nI j := nI_ge (b := 60) (by omega) (by omega)
    have hc := cntT_len (g := g) (L := L) (i := j)
    simp only [f_X5_greatestLength_L5, if_neg b1, C_huesDue hg Hx HS W H j1 (by omega), Option.bind_some, nI_1]
    by_cases hd : 2 ≤ cntT g L j
    · have b2 : ¬ nI (cntT g L j) ≤ (1 : Int32) := nI_ge (a := 1) (by omega) (by omega)
      simp only [if_neg b2, hd, decide_true, if_true]
    · have b2 : nI (cntT g L j) ≤ (1 : Int32) := nI_le (b := 1) (by omega) (by omega)
      simp only [if_pos b2, hd, decide_false, Bool.false_eq_true, if_false]
  have he : f_X5_greatestLength_L5 h x r ((fun j => nI j) (len + (60 - len))) = some (.inr (.inl ())) := by
    have b1 : (60 : Int32) ≤ nI (len + (60 - len)) := nI_le (a := 60) (by omega) (by omega)
    simp only [f_X5_greatestLength_L5, if_pos b1]
  have hw := lpn_find (fun j => nI j) (fun i => decide (2 ≤ cntT g L i)) (fun j => (.inr (nI j) : Unit ⊕ Int32)) (.inl ()) (60 - len) len LF hb he (by unfold LF; omega)
  have e1 := clash_from W
  cases hf : fst9 (fun i => decide (2 ≤ cntT g L i)) len (60 - len) with
  | none =>
    rw [hf] at hw e1
    simp only [f_X5_greatestLength, f_X5_greatestLength_J29, Hx.ok, if_true, R_length H, hw, Option.bind_some, ← e1]
    rfl
  | some j =>
    rw [hf] at hw e1
    simp only [f_X5_greatestLength, f_X5_greatestLength_J21, Hx.ok, if_true, R_length H, hw, Option.bind_some, ← e1]
    rfl
theorem R_put_no (H : repR g h r len L) {p : Nat} (hp : len ≤ p) (h2 : p < 2 ^ 31) (u s : Int32) : f_X2_put h r u (nI p) s = some (0, h) := by
  obtain ⟨cf, off, H1, -, -⟩ := H
  have b1 : ¬ nI p < 0 := nI_pos h2
  have b2 : nI len ≤ nI p := nI_le hp h2
  simp only [f_X2_put, f_X2_put_J31, H1.ok, H1.r2, if_true, if_neg b1, Option.bind_some, if_pos b2]
theorem fltA_s {n j : Nat} {q : Nat × Nat} (hq : L[j]? = some q) : fltA n (L.take (j + 1)) = fltA n (L.take j) ++ (if q.2 < n then [q] else []) := by
  unfold fltA
  rw [take_s hq, List.filter_append]
  by_cases ht : q.2 < n
  · rw [if_pos ht, List.filter_cons_of_pos (p := fun q : Nat × Nat => decide (q.2 < n)) (decide_eq_true ht)]; rfl
  · rw [if_neg ht, List.filter_cons_of_neg (p := fun q : Nat × Nat => decide (q.2 < n)) (by simpa using ht)]; rfl
theorem cX.chg {d : Nat} {h' : PH} (Hx : cX h x k) (hc : chg d h h') (hd : x < d) : cX h' x k := (hc x (by omega)).trans Hx
theorem C_changeLength (hg : wfg g) (Hx : cX h x k) (HS : repS h (x + 1) g R c1 c2 c3) (W : wfR g len L) (H : repR g h r len L) (hr : x + 4 ≤ r ∧ r + 3 ≤ x + 16) (J : jR h (x + 125)) {n : Nat} (Wn : wfR g n (fltA n L)) : ∃ hm h', f_X5_changeLength h x r (nI n) = some h' ∧ chg (x + 125) h hm ∧ jR hm (x + 125) ∧ chg r hm h' ∧ repR g h' r n (fltA n L) := by
  have h8 := W.le8
  have h60 := Wn.1.2
  obtain ⟨h1, p1, p2, p3⟩ := R_begin g J (n := n) h60
  obtain ⟨hm, q1, q2, q3⟩ := lpn_inv (b := f_X5_changeLength_L10 x r) (fun j (z : Int32 × PH) => z.1 = nI j ∧ repR g z.2 (x + 125) n (fltA n (L.take j)) ∧ chg (x + 125) h z.2) (fun z => repR g z (x + 125) n (fltA n L) ∧ chg (x + 125) h z) L.length (by
    rintro j ⟨z1, z2⟩ hj ⟨i1, i2, i3⟩
    dsimp only at i1 i2 i3
    subst i1
    obtain ⟨q, hq⟩ : ∃ q, L[j]? = some q := ⟨_, List.getElem?_eq_getElem hj⟩
    have hm := List.mem_of_getElem? hq
    obtain ⟨a1, a2, a3⟩ := W.2.2.1 q hm
    have hgq := hg q.1
    have K : repR g z2 r len L := H.chg i3 (by omega)
    have Kx : cX z2 x k := Hx.chg i3 (by omega)
    have b1 : ¬ nI L.length ≤ nI j := nI_ge hj (by omega)
    have Kg := gapAt_kp HS (h' := z2) (fun b b1 b2 => i3 b (by omega)) a1
    by_cases hp : q.2 < n
    · have e1 := fltA_s (n := n) hq
      rw [if_pos hp] at e1
      have Wp : wfR g n (fltA n (L.take j) ++ [(q.1, q.2)]) := by
        rw [← e1]
        exact Wn.sub (List.Sublist.filter _ (List.take_sublist _ _))
      obtain ⟨h2, m1, m2, m3⟩ := R_put hg Wp i2
      refine ⟨(nI (j + 1), h2), ?_, rfl, ?_, i3.tr m3⟩
      · simp only [f_X5_changeLength_L10, R_hueCount K, Option.bind_some, if_neg b1, R_hueAt W K hq, Kx.r4, R_first0 hg W K hm, Kx.r0, Kg, m1, nI_1]
      · dsimp only
        rw [e1]
        exact m2
    · have e1 := fltA_s (n := n) hq
      rw [if_neg hp, List.append_nil] at e1
      refine ⟨(nI (j + 1), z2), ?_, rfl, ?_, i3⟩
      · simp only [f_X5_changeLength_L10, R_hueCount K, Option.bind_some, if_neg b1, R_hueAt W K hq, Kx.r4, R_first0 hg W K hm, Kx.r0, Kg, R_put_no i2 (show n ≤ q.2 by omega) (show q.2 < 2 ^ 31 by omega), nI_1]
      · dsimp only
        rw [e1]
        exact i2) (by
    rintro ⟨z1, z2⟩ ⟨i1, i2, i3⟩
    dsimp only at i1 i2 i3
    subst i1
    have K : repR g z2 r len L := H.chg i3 (by omega)
    have b1 : nI L.length ≤ nI L.length := nI_le (Nat.le_refl _) (by omega)
    rw [List.take_length] at i2
    refine ⟨z2, ?_, i2, i3⟩
    simp only [f_X5_changeLength_L10, R_hueCount K, Option.bind_some, if_pos b1]) L.length 0 LF (0, h1) (by omega) (by unfold LF; omega) ⟨rfl, p2, p3⟩
  have K : repR g hm r len L := H.chg q3 (by omega)
  have Kx : cX hm x k := Hx.chg q3 (by omega)
  obtain ⟨h', m1, m2, m3⟩ := R_copyFrom K.j Wn q2 (by omega)
  refine ⟨hm, h', ?_, q3, q2.j, m3, m2⟩
  simp only [f_X5_changeLength, f_X5_changeLength_J57, Hx.ok, Hx.r4, if_true, Option.bind_some, p1, q1, Kx.r4, m1]
theorem C_turnRound (hg : wfg g) (Hx : cX h x k) (HS : repS h (x + 1) g R c1 c2 c3) (W : wfR g len L) (H : repR g h r len L) (hr : x + 4 ≤ r ∧ r + 3 ≤ x + 16) (J : jR h (x + 125)) : ∃ hm h', f_X5_turnRound h x r = some (nI (unlA g (len, L)), h') ∧ chg (x + 125) h hm ∧ jR hm (x + 125) ∧ chg r hm h' ∧ repR g h' r len (L.map (tnA g len)) := by
  have h8 := W.le8
  have h60 := W.1.2
  have Wn := wf_turn hg W
  obtain ⟨h1, p1, p2, p3⟩ := R_begin g J (n := len) h60
  obtain ⟨hm, q1, q2, q3⟩ := lpn_inv (b := f_X5_turnRound_L13 x r) (fun j (z : Int32 × PH) => z.1 = nI j ∧ repR g z.2 (x + 125) len ((L.take j).map (tnA g len)) ∧ chg (x + 125) h z.2) (fun z => repR g z (x + 125) len (L.map (tnA g len)) ∧ chg (x + 125) h z) L.length (by
    rintro j ⟨z1, z2⟩ hj ⟨i1, i2, i3⟩
    dsimp only at i1 i2 i3
    subst i1
    obtain ⟨q, hq⟩ : ∃ q, L[j]? = some q := ⟨_, List.getElem?_eq_getElem hj⟩
    have hm := List.mem_of_getElem? hq
    obtain ⟨a1, a2, a3⟩ := W.2.2.1 q hm
    have hgq := hg q.1
    have K : repR g z2 r len L := H.chg i3 (by omega)
    have Kx : cX z2 x k := Hx.chg i3 (by omega)
    have b1 : ¬ nI L.length ≤ nI j := nI_ge hj (by omega)
    have Kg := gapAt_kp HS (h' := z2) (fun b b1 b2 => i3 b (by omega)) a1
    have e1 : (L.take (j + 1)).map (tnA g len) = (L.take j).map (tnA g len) ++ [(q.1, len - 1 - lst q.2 (g q.1) len)] := by
      rw [take_s hq, List.map_append]
      rfl
    have Wp : wfR g len ((L.take j).map (tnA g len) ++ [(q.1, len - 1 - lst q.2 (g q.1) len)]) := by
      rw [← e1]
      exact Wn.sub (List.Sublist.map _ (List.take_sublist _ _))
    obtain ⟨h2, m1, m2, m3⟩ := R_put hg Wp i2
    have hl := lst_lt (s := g q.1) a2
    have e2 : nI len - 1 - nI (lst q.2 (g q.1) len) = nI (len - 1 - lst q.2 (g q.1) len) := by
      have : nI len - 1 = nI (len - 1) := nI_sub (b := 1) (by omega)
      rw [this, nI_sub (by omega)]
    refine ⟨(nI (j + 1), h2), ?_, rfl, ?_, i3.tr m3⟩
    · simp only [f_X5_turnRound_L13, R_hueCount K, Option.bind_some, if_neg b1, R_hueAt W K hq, Kx.r4, R_length K, R_lastOf hg W K hm, Kx.r0, Kg, e2, m1, nI_1]
    · dsimp only
      rw [e1]
      exact m2) (by
    rintro ⟨z1, z2⟩ ⟨i1, i2, i3⟩
    dsimp only at i1 i2 i3
    subst i1
    have K : repR g z2 r len L := H.chg i3 (by omega)
    have b1 : nI L.length ≤ nI L.length := nI_le (Nat.le_refl _) (by omega)
    rw [List.take_length] at i2
    refine ⟨z2, ?_, i2, i3⟩
    simp only [f_X5_turnRound_L13, R_hueCount K, Option.bind_some, if_pos b1]) L.length 0 LF (0, h1) (by omega) (by unfold LF; omega) ⟨rfl, p2, p3⟩
  have K : repR g hm r len L := H.chg q3 (by omega)
  have Kx : cX hm x k := Hx.chg q3 (by omega)
  obtain ⟨h', m1, m2, m3⟩ := R_copyFrom K.j Wn q2 (by omega)
  have e3 := R_differences W K Wn q2
  rw [cnt9_congr (Q := fun k => decide (¬ col g L k = col g L (len - 1 - k))) (fun i hi => by rw [col_turn hg W hi])] at e3
  refine ⟨hm, h', ?_, q3, q2.j, m3, m2⟩
  simp only [f_X5_turnRound, f_X5_turnRound_J62, Hx.ok, Hx.r4, if_true, Option.bind_some, R_length H, p1, q1, Kx.r4, e3, m1]
  rfl
theorem C_layBack (hg : wfg g) (Hx : cX h x k) (HS : repS h (x + 1) g R c1 c2 c3) (W : wfR g len L) (H : repR g h r len L) {a d : Nat} (ha : a < len) (hd : r + 3 ≤ d ∨ d + 3 ≤ r) (hd2 : x + 4 ≤ d) (HD : repR g h d (len - a) []) : ∃ h', f_X5_layBack h x r (nI a) d = some h' ∧ repR g h' d (len - a) (L.filterMap (bkA g a len)) ∧ chg d h h' := by
  have h8 := W.le8
  have h60 := W.1.2
  have Wn := wf_back hg W ha
  obtain ⟨hm, q1, q2, q3⟩ := lpn_inv (b := f_X5_layBack_L3 x r (nI a) d) (fun j (z : Int32 × PH) => z.1 = nI j ∧ repR g z.2 d (len - a) ((L.take j).filterMap (bkA g a len)) ∧ chg d h z.2) (fun z => repR g z d (len - a) (L.filterMap (bkA g a len)) ∧ chg d h z) L.length (by
    rintro j ⟨z1, z2⟩ hj ⟨i1, i2, i3⟩
    dsimp only at i1 i2 i3
    subst i1
    obtain ⟨q, hq⟩ : ∃ q, L[j]? = some q := ⟨_, List.getElem?_eq_getElem hj⟩
    have hm := List.mem_of_getElem? hq
    obtain ⟨a1, a2, a3⟩ := W.2.2.1 q hm
    have hgq := hg q.1
    have K : repR g z2 r len L := H.chg i3 (by omega)
    have Kx : cX z2 x k := Hx.chg i3 (by omega)
    have b1 : ¬ nI L.length ≤ nI j := nI_ge hj (by omega)
    have Kg := gapAt_kp HS (h' := z2) (fun b b1 b2 => i3 b (by omega)) a1
    have Kf := R_firstFrom hg W K hm (a := a) (by omega)
    have e1 : (L.take (j + 1)).filterMap (bkA g a len) = (L.take j).filterMap (bkA g a len) ++ (bkA g a len q).toList := by
      rw [take_s hq, List.filterMap_append, List.filterMap_cons]
      cases bkA g a len q <;> rfl
    by_cases hp : frm q.2 (g q.1) a < len
    · rw [if_pos hp] at Kf
      have e2 : bkA g a len q = some (q.1, frm q.2 (g q.1) a - a) := if_pos hp
      rw [e2] at e1
      have e1 : (L.take (j + 1)).filterMap (bkA g a len) = (L.take j).filterMap (bkA g a len) ++ [(q.1, frm q.2 (g q.1) a - a)] := e1
      have Wp : wfR g (len - a) ((L.take j).filterMap (bkA g a len) ++ [(q.1, frm q.2 (g q.1) a - a)]) := by
        rw [← e1]
        exact Wn.sub (List.Sublist.filterMap _ (List.take_sublist _ _))
      obtain ⟨h2, m1, m2, m3⟩ := R_put hg Wp i2
      have e3 : ¬ oI (some (frm q.2 (g q.1) a)) = -1 := nI_ne_m1 (by omega)
      have e4 : oI (some (frm q.2 (g q.1) a)) - nI a = nI (frm q.2 (g q.1) a - a) := nI_sub (frm_ge (by omega))
      refine ⟨(nI (j + 1), h2), ?_, rfl, ?_, i3.tr m3⟩
      · simp only [f_X5_layBack_L3, f_X5_layBack_J55, R_hueCount K, Option.bind_some, if_neg b1, R_hueAt W K hq, Kf, if_neg e3, Kx.r0, Kg, e4, m1, nI_1]
      · dsimp only
        rw [e1]
        exact m2
    · rw [if_neg hp] at Kf
      have e2 : bkA g a len q = none := if_neg hp
      rw [e2] at e1
      have e1 : (L.take (j + 1)).filterMap (bkA g a len) = (L.take j).filterMap (bkA g a len) := e1.trans (List.append_nil _)
      have e3 : oI none = -1 := rfl
      refine ⟨(nI (j + 1), z2), ?_, rfl, ?_, i3⟩
      · simp only [f_X5_layBack_L3, f_X5_layBack_J55, R_hueCount K, Option.bind_some, if_neg b1, R_hueAt W K hq, Kf, e3, if_true, nI_1]
      · dsimp only
        rw [e1]
        exact i2) (by
    rintro ⟨z1, z2⟩ ⟨i1, i2, i3⟩
    dsimp only at i1 i2 i3
    subst i1
    have K : repR g z2 r len L := H.chg i3 (by omega)
    have b1 : nI L.length ≤ nI L.length := nI_le (Nat.le_refl _) (by omega)
    rw [List.take_length] at i2
    refine ⟨z2, ?_, i2, i3⟩
    simp only [f_X5_layBack_L3, R_hueCount K, Option.bind_some, if_pos b1]) L.length 0 LF (0, h) (by omega) (by unfold LF; omega) ⟨rfl, HD, chg.rf⟩
  refine ⟨hm, ?_, q2, q3⟩
  simp only [f_X5_layBack, f_X5_layBack_J61, Hx.ok, if_true, Option.bind_some, q1]
theorem S_disj {s : Nat} (HS : repS h s g R c1 c2 c3) (hn : R.length ≤ 4) {i j r1 r2 : Nat} (hi : i < R.length) (hj : j < R.length) (hij : ¬ i = j) (e1 : f_X3_ropeAt h s (nI i) = some (some r1)) (e2 : f_X3_ropeAt h s (nI j) = some (some r2)) : r1 + 3 ≤ r2 ∨ r2 + 3 ≤ r1 := by
  obtain ⟨gf, rf, π, H1, -, H3, H4, -⟩ := HS
  rw [X3_ropeAt H1 hn hi, (H3 i (by omega)).2.1] at e1
  rw [X3_ropeAt H1 hn hj, (H3 j (by omega)).2.1] at e2
  cases e1
  cases e2
  have : ¬ π i = π j := fun q => hij (H4 i j (by omega) (by omega) q)
  omega
end MainOps2
section MainOps3
variable {h h' : PH} {x r : Nat} {A : AAt}
theorem C_setR (W : wfA A) (H : repC h x A) {i : Nat} (hi : i < A.1.2.1.length) (hr : f_X3_ropeAt h (x + 1) (nI i) = some (some r)) (hc : chg r h h') {n : Nat} {L : List (Nat × Nat)} (H' : repR A.1.1 h' r n L) : repC h' x ((A.1.1, A.1.2.1.set i (n, L), A.1.2.2), A.2) ∧ onX x h h' := by
  obtain ⟨r', k1, k2, k3, k4⟩ := S_ropeAt W.1 H.2.1 (atR_get hi)
  rw [hr] at k1
  cases k1
  have ho : onlyS (x + 1) h h' := hc.only (by omega) (by omega)
  exact ⟨H.now W ho (S_set W.1 H.2.1 (atR_get hi) hr hc H'), ho.toX⟩
theorem C_at (W : wfA A) (H : repC h x A) {i : Nat} (hi : i < A.1.2.1.length) (hr : f_X3_ropeAt h (x + 1) (nI i) = some (some r)) : repR A.1.1 h r (atR A.1.2.1 i).1 (atR A.1.2.1 i).2 ∧ x + 4 ≤ r ∧ r + 3 ≤ x + 16 := by
  obtain ⟨r', k1, k2, k3, k4⟩ := S_ropeAt W.1 H.2.1 (atR_get hi)
  rw [hr] at k1
  cases k1
  exact ⟨k2, by omega, by omega⟩
theorem C_stretch (W : wfA A) (H : repC h x A) (a b : Int32) : CK (f_X5_stretch h x a b) [eIO, eIA, eIS] h x A (sp_stretch A a b) := by
  obtain ⟨H1, H2, -⟩ := id H
  unfold CK sp_stretch
  have hR := W.1.2.1
  cases hv : rng A.1.2.1.length a with
  | none =>
    refine ⟨h, ?_, H, onX.rf⟩
    simp only [f_X5_stretch, H1.ok, if_true, C_existing_no H1 H2 hv, Option.bind_some]
    rfl
  | some i =>
    obtain ⟨v1, rfl⟩ := rng_some (by omega) hv
    dsimp only
    obtain ⟨r, e1, e3, e4, e5, e6⟩ := C_existing H1 W.1 H2 (atR_get v1)
    cases hu : btw 1 60 b with
    | none =>
      refine ⟨h, ?_, H, onX.rf⟩
      simp only [f_X5_stretch, H1.ok, if_true, e1, C_len_no H1 hu, Option.bind_some]
      rfl
    | some n =>
      obtain ⟨u1, u2, rfl⟩ := btw_some (by omega) hu
      dsimp only
      have WR := W.1.2.2 _ (atR_mem v1)
      have e7 := C_greatest W.1.1 H1 H2 WR e4
      have e8 := clash_le A.1.1 (atR A.1.2.1 i).2
      by_cases hc : n ≤ clashA A.1.1 (atR A.1.2.1 i).2
      · rw [if_pos hc]
        have b1 : nI n ≤ nI (clashA A.1.1 (atR A.1.2.1 i).2) := nI_le hc (by omega)
        obtain ⟨h1, s1, s2, s3⟩ := C_save W H
        have e9 : f_X3_ropeAt h1 (x + 1) (nI i) = some (some r) := (ropeAt_kp H2 hR (fun b b1 b2 => s3 b (by omega)) v1).trans e3
        obtain ⟨f1, f2, f3⟩ := C_at W.sv s2 v1 e9
        obtain ⟨hm, h2, t1, t2, t3, t4, t5⟩ := C_changeLength W.1.1 s2.1 s2.2.1 WR f1 ⟨f2, f3⟩ s2.2.2.2.2.2.2 (wf_flt WR u1 u2 hc)
        have K := s2.draft W.sv t2 t3
        have e10 : f_X3_ropeAt hm (x + 1) (nI i) = some (some r) := (ropeAt_kp s2.2.1 hR (fun b b1 b2 => t2 b (by omega)) v1).trans e9
        obtain ⟨K2, K3⟩ := C_setR W.sv K v1 e10 t4 t5
        have hle : (fltA n (atR A.1.2.1 i).2).length ≤ (atR A.1.2.1 i).2.length := List.length_filter_le _ _
        refine ⟨h2, ?_, K2, s3.toX.tr (t2.toX.tr K3)⟩
        have r1 := R_hueCount f1
        have r2 := R_hueCount t5
        have r1 : f_X2_hueCount h1 r = some (nI (atR A.1.2.1 i).2.length) := r1
        simp only [f_X5_stretch, H1.ok, H1.r0, H1.r2, if_true, e1, C_len_ok H1 u1 u2, e7, if_pos b1, Option.bind_some, s1, r1, t1, r2, nI_sub hle]
        rfl
      · rw [if_neg hc]
        have b1 : ¬ nI n ≤ nI (clashA A.1.1 (atR A.1.2.1 i).2) := nI_ge (by omega) (by omega)
        refine ⟨h, ?_, H, onX.rf⟩
        simp only [f_X5_stretch, H1.ok, if_true, e1, C_len_ok H1 u1 u2, e7, if_neg b1, Option.bind_some]
        rfl
theorem C_turn (W : wfA A) (H : repC h x A) (a : Int32) : CK (f_X5_turn h x a) [eIO] h x A (sp_turn A a) := by
  obtain ⟨H1, H2, -⟩ := id H
  unfold CK sp_turn
  have hR := W.1.2.1
  cases hv : rng A.1.2.1.length a with
  | none =>
    refine ⟨h, ?_, H, onX.rf⟩
    simp only [f_X5_turn, H1.ok, if_true, C_existing_no H1 H2 hv, Option.bind_some]
    rfl
  | some i =>
    obtain ⟨v1, rfl⟩ := rng_some (by omega) hv
    dsimp only
    obtain ⟨r, e1, e3, e4, e5, e6⟩ := C_existing H1 W.1 H2 (atR_get v1)
    have WR := W.1.2.2 _ (atR_mem v1)
    obtain ⟨h1, s1, s2, s3⟩ := C_save W H
    have e9 : f_X3_ropeAt h1 (x + 1) (nI i) = some (some r) := (ropeAt_kp H2 hR (fun b b1 b2 => s3 b (by omega)) v1).trans e3
    obtain ⟨f1, f2, f3⟩ := C_at W.sv s2 v1 e9
    obtain ⟨hm, h2, t1, t2, t3, t4, t5⟩ := C_turnRound W.1.1 s2.1 s2.2.1 WR f1 ⟨f2, f3⟩ s2.2.2.2.2.2.2
    have K := s2.draft W.sv t2 t3
    have e10 : f_X3_ropeAt hm (x + 1) (nI i) = some (some r) := (ropeAt_kp s2.2.1 hR (fun b b1 b2 => t2 b (by omega)) v1).trans e9
    obtain ⟨K2, K3⟩ := C_setR W.sv K v1 e10 t4 t5
    refine ⟨h2, ?_, K2, s3.toX.tr (t2.toX.tr K3)⟩
    simp only [f_X5_turn, H1.ok, H1.r0, H1.r2, if_true, e1, Option.bind_some, s1, t1]
    rfl
theorem C_cut (W : wfA A) (H : repC h x A) (a b : Int32) : CK (f_X5_cut h x a b) [eIO, eIA, eIS] h x A (sp_cut A a b) := by
  obtain ⟨H1, H2, -⟩ := id H
  unfold CK sp_cut
  have hR := W.1.2.1
  cases hv : rng A.1.2.1.length a with
  | none =>
    refine ⟨h, ?_, H, onX.rf⟩
    simp only [f_X5_cut, H1.ok, if_true, C_existing_no H1 H2 hv, Option.bind_some]
    rfl
  | some i =>
    obtain ⟨v1, rfl⟩ := rng_some (by omega) hv
    dsimp only
    obtain ⟨r, e1, e3, e4, e5, e6⟩ := C_existing H1 W.1 H2 (atR_get v1)
    have WR := W.1.2.2 _ (atR_mem v1)
    obtain ⟨w1, w2⟩ := WR.1
    have el : nI (atR A.1.2.1 i).1 - 1 = nI ((atR A.1.2.1 i).1 - 1) := nI_sub (b := 1) w1
    cases hu : btw 1 ((atR A.1.2.1 i).1 - 1) b with
    | none =>
      refine ⟨h, ?_, H, onX.rf⟩
      rcases btw_none (by omega) (by omega) hu with c1 | ⟨c1, c2⟩
      · have c1 : b < (1 : Int32) := c1
        simp only [f_X5_cut, f_X5_cut_J21, H1.ok, if_true, e1, Option.bind_some, if_pos c1]
        rfl
      · have c1 : ¬ b < (1 : Int32) := c1
        simp only [f_X5_cut, f_X5_cut_J21, H1.ok, if_true, e1, Option.bind_some, if_neg c1, R_length e4, el, if_neg c2]
        rfl
    | some p =>
      obtain ⟨u1, u2, rfl⟩ := btw_some (by omega) hu
      dsimp only
      have b1 : ¬ nI p < (1 : Int32) := nI_nlt (b := 1) u1 (by omega)
      have b2 : nI p ≤ nI ((atR A.1.2.1 i).1 - 1) := nI_le u2 (by omega)
      by_cases hc : A.1.2.1.length = 4
      · rw [if_pos hc]
        refine ⟨h, ?_, H, onX.rf⟩
        simp only [f_X5_cut, H1.ok, if_true, e1, Option.bind_some, if_neg b1, R_length e4, el, if_pos b2, C_room_no H1 H2 hc]
        rfl
      · rw [if_neg hc]
        have hl4 : A.1.2.1.length < 4 := by omega
        obtain ⟨h1, s1, s2, s3⟩ := C_save W H
        have e9 : f_X3_ropeAt h1 (x + 1) (nI i) = some (some r) := (ropeAt_kp H2 hR (fun b b1 b2 => s3 b (by omega)) v1).trans e3
        obtain ⟨f1, f2, f3⟩ := C_at W.sv s2 v1 e9
        obtain ⟨d, h2, t1, t2, t3, t4, t5⟩ := S_addRope W.1 s2.2.1 hl4 (n := (atR A.1.2.1 i).1 - p) (by omega)
        have W2 := wf_rope W.1 hc (n := (atR A.1.2.1 i).1 - p) (by omega) (by omega)
        have K := s2.now (T := (A.1.1, A.1.2.1 ++ [((atR A.1.2.1 i).1 - p, [])], A.1.2.2)) W.sv t3 t2
        have WA2 : wfA ((A.1.1, A.1.2.1 ++ [((atR A.1.2.1 i).1 - p, [])], A.1.2.2), (svA A).2) := W.sv.put (T := (A.1.1, A.1.2.1 ++ [((atR A.1.2.1 i).1 - p, [])], A.1.2.2)) W2
        have ll : (A.1.2.1 ++ [((atR A.1.2.1 i).1 - p, [])]).length = A.1.2.1.length + 1 := by rw [List.length_append]; rfl
        have g1 : f_X3_ropeAt h2 (x + 1) (nI i) = some (some r) := (t5 i v1).trans e9
        obtain ⟨d1, d2, d3⟩ := C_at WA2 K (i := A.1.2.1.length) (by rw [ll]; omega) t4
        obtain ⟨r1, -, -⟩ := C_at WA2 K (i := i) (by rw [ll]; omega) g1
        have a1 : atR (A.1.2.1 ++ [((atR A.1.2.1 i).1 - p, [])]) A.1.2.1.length = ((atR A.1.2.1 i).1 - p, []) := by
          unfold atR
          rw [List.getD_eq_getElem?_getD, List.getElem?_append_right (Nat.le_refl _), Nat.sub_self]
          rfl
        have a2 : atR (A.1.2.1 ++ [((atR A.1.2.1 i).1 - p, [])]) i = atR A.1.2.1 i := by
          show (A.1.2.1 ++ [((atR A.1.2.1 i).1 - p, [])]).getD i (0, []) = A.1.2.1.getD i (0, [])
          rw [List.getD_eq_getElem?_getD, List.getElem?_append_left v1, List.getD_eq_getElem?_getD]
        dsimp only at d1 r1
        rw [a1] at d1
        rw [a2] at r1
        have hdj := S_disj K.2.1 (by show (A.1.2.1 ++ [((atR A.1.2.1 i).1 - p, [])]).length ≤ 4; rw [ll]; omega) (i := i) (j := A.1.2.1.length) (by show i < (A.1.2.1 ++ _).length; rw [ll]; omega) (by show A.1.2.1.length < (A.1.2.1 ++ _).length; rw [ll]; omega) (by omega) g1 t4
        obtain ⟨h3, l1, l2, l3⟩ := C_layBack W.1.1 K.1 K.2.1 WR r1 (a := p) (d := d) (by omega) hdj d2 d1
        obtain ⟨K2, K3⟩ := C_setR WA2 K (i := A.1.2.1.length) (by show A.1.2.1.length < (A.1.2.1 ++ _).length; rw [ll]; omega) t4 l3 l2
        have ss : (A.1.2.1 ++ [((atR A.1.2.1 i).1 - p, [])]).set A.1.2.1.length ((atR A.1.2.1 i).1 - p, (atR A.1.2.1 i).2.filterMap (bkA A.1.1 p (atR A.1.2.1 i).1)) = A.1.2.1 ++ [((atR A.1.2.1 i).1 - p, (atR A.1.2.1 i).2.filterMap (bkA A.1.1 p (atR A.1.2.1 i).1))] := by
          rw [List.set_append_right _ _ (Nat.le_refl _), Nat.sub_self]
          rfl
        dsimp only at K2
        rw [ss] at K2
        have W3 : wfS A.1.1 (A.1.2.1 ++ [((atR A.1.2.1 i).1 - p, (atR A.1.2.1 i).2.filterMap (bkA A.1.1 p (atR A.1.2.1 i).1))]) := by
          rw [← ss]
          exact wf_set W2 _ (wf_back W.1.1 WR (by omega))
        have WA3 : wfA ((A.1.1, A.1.2.1 ++ [((atR A.1.2.1 i).1 - p, (atR A.1.2.1 i).2.filterMap (bkA A.1.1 p (atR A.1.2.1 i).1))], A.1.2.2), (svA A).2) := W.sv.put (T := (A.1.1, A.1.2.1 ++ [((atR A.1.2.1 i).1 - p, (atR A.1.2.1 i).2.filterMap (bkA A.1.1 p (atR A.1.2.1 i).1))], A.1.2.2)) W3
        have ll3 : (A.1.2.1 ++ [((atR A.1.2.1 i).1 - p, (atR A.1.2.1 i).2.filterMap (bkA A.1.1 p (atR A.1.2.1 i).1))]).length = A.1.2.1.length + 1 := by rw [List.length_append]; rfl
        have g3 : f_X3_ropeAt h3 (x + 1) (nI i) = some (some r) := (ropeAt_kp K.2.1 (by show (A.1.2.1 ++ [((atR A.1.2.1 i).1 - p, [])]).length ≤ 4; rw [ll]; omega) (fun b b1 b2 => l3 b (by omega)) (by show i < (A.1.2.1 ++ [((atR A.1.2.1 i).1 - p, [])]).length; rw [ll]; omega)).trans g1
        have r3 : repR A.1.1 h3 r (atR A.1.2.1 i).1 (atR A.1.2.1 i).2 := r1.chg l3 (by omega)
        obtain ⟨hm, h4, m1, m2, m3, m4, m5⟩ := C_changeLength W.1.1 K2.1 K2.2.1 WR r3 ⟨f2, f3⟩ K2.2.2.2.2.2.2 (wf_flt WR (n := p) u1 (by omega) (by have := clash_len WR; omega))
        have K4 := K2.draft WA3 m2 m3
        have g4 : f_X3_ropeAt hm (x + 1) (nI i) = some (some r) := (ropeAt_kp K2.2.1 (by show (A.1.2.1 ++ _).length ≤ 4; rw [ll3]; omega) (fun b b1 b2 => m2 b (by omega)) (by show i < (A.1.2.1 ++ _).length; rw [ll3]; omega)).trans g3
        obtain ⟨K5, K6⟩ := C_setR WA3 K4 (i := i) (by show i < (A.1.2.1 ++ _).length; rw [ll3]; omega) g4 m4 m5
        have WA5 := WA3.put (T := (A.1.1, (A.1.2.1 ++ [((atR A.1.2.1 i).1 - p, (atR A.1.2.1 i).2.filterMap (bkA A.1.1 p (atR A.1.2.1 i).1))]).set i (p, fltA p (atR A.1.2.1 i).2), A.1.2.2)) (wf_set W3 i (wf_flt WR (n := p) u1 (by omega) (by have := clash_len WR; omega)))
        obtain ⟨h5, n1, n2, n3⟩ := S_countCut K5.2.1
        have K7 := K5.now (T := (A.1.1, (A.1.2.1 ++ [((atR A.1.2.1 i).1 - p, (atR A.1.2.1 i).2.filterMap (bkA A.1.1 p (atR A.1.2.1 i).1))]).set i (p, fltA p (atR A.1.2.1 i).2), A.1.2.2.1, A.1.2.2.2.1, A.1.2.2.2.2 + 1)) WA5 n3.only n2
        have e12 := S_ropeCount n2
        dsimp only at e12
        rw [List.length_set, ll3] at e12
        refine ⟨h5, ?_, K7, s3.toX.tr (t3.toX.tr (K3.tr (m2.toX.tr (K6.tr n3.only.toX))))⟩
        have el2 : nI (atR A.1.2.1 i).1 - nI p = nI ((atR A.1.2.1 i).1 - p) := nI_sub (by omega)
        have rl := R_length f1
        have rl : f_X2_length h1 r = some (nI (atR A.1.2.1 i).1) := rl
        simp only [f_X5_cut, f_X5_cut_J74, H1.ok, H1.r0, H1.r2, if_true, e1, Option.bind_some, if_neg b1, R_length e4, el, if_pos b2, C_room_ok H1 H2 hl4, s1, s2.1.r0, rl, el2, t1, l1, m1, K5.1.r0, n1, K7.1.r0, e12, nI_pred]
        rfl
end MainOps3
