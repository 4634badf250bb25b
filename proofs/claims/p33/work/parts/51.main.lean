/-! PURE READING, 20: what each call is to do, on the abstract state; the class does it: gap, rope, drop, lay, take -/
def atR (R : RRt) (i : Nat) : Nat × List (Nat × Nat) := R.getD i (0, [])
theorem atR_get {R : RRt} {i : Nat} (hi : i < R.length) : R[i]? = some (atR R i) := by
  unfold atR
  rw [List.getD_eq_getElem?_getD, List.getElem?_eq_getElem hi]
  rfl
theorem atR_mem {R : RRt} {i : Nat} (hi : i < R.length) : atR R i ∈ R := List.mem_of_getElem? (atR_get hi)
def outC (e : List String) (h' : PH) : Except Nat (Int32 × AAt) → Except (String × PH) (Int32 × PH)
  | .error k => .error (e.getD (k - 1) "", h')
  | .ok v => .ok (v.1, h')
def nxt (A : AAt) : Except Nat (Int32 × AAt) → AAt
  | .error _ => A
  | .ok v => v.2
def CK (f : Option (Except (String × PH) (Int32 × PH))) (e : List String) (h : PH) (x : Nat) (A : AAt) (sp : Except Nat (Int32 × AAt)) : Prop := ∃ h', f = some (outC e h' sp) ∧ repC h' x (nxt A sp) ∧ onX x h h'
def outL (e : List String) : Except Nat Int32 → Except String Int32
  | .error k => .error (e.getD (k - 1) "")
  | .ok v => .ok v
def sp_gap (A : AAt) (a b : Int32) : Except Nat (Int32 × AAt) := match rng 8 a with
  | none => .error 1
  | some u => match btw 2 20 b with
    | none => .error 2
    | some v => if anyA A.1.2.1 u = true then .error 3 else .ok (nI (A.1.1 u), ((fun w => if w = u then v else A.1.1 w), A.1.2), (svA A).2)
def sp_rope (A : AAt) (a : Int32) : Except Nat (Int32 × AAt) := match btw 1 60 a with
  | none => .error 1
  | some n => if A.1.2.1.length = 4 then .error 2 else .ok (nI A.1.2.1.length, (A.1.1, A.1.2.1 ++ [(n, [])], A.1.2.2), (svA A).2)
def sp_drop (A : AAt) (a : Int32) : Except Nat (Int32 × AAt) := match rng A.1.2.1.length a with
  | none => .error 1
  | some i => .ok (nI (A.1.2.1.length - 1), (A.1.1, A.1.2.1.eraseIdx i, A.1.2.2), (svA A).2)
def sp_lay (A : AAt) (a b c : Int32) : Except Nat (Int32 × AAt) := match rng A.1.2.1.length a with
  | none => .error 1
  | some i => match rng 8 b with
    | none => .error 1
    | some u => match rng (A.1.1 u) c with
      | none => .error 2
      | some p => if whyA A.1.1 (atR A.1.2.1 i).1 (atR A.1.2.1 i).2 u p = 0 then .ok (nI (stp9 (atR A.1.2.1 i).1 p (A.1.1 u)), (A.1.1, A.1.2.1.set i ((atR A.1.2.1 i).1, (atR A.1.2.1 i).2 ++ [(u, p)]), A.1.2.2.1 + 1, A.1.2.2.2), (svA A).2) else .error 3
def sp_take (A : AAt) (a b : Int32) : Except Nat (Int32 × AAt) := match rng A.1.2.1.length a with
  | none => .error 1
  | some i => match rng 8 b with
    | none => .error 1
    | some u => match phs (atR A.1.2.1 i).2 u with
      | none => .error 2
      | some p => .ok (nI (stp9 (atR A.1.2.1 i).1 p (A.1.1 u)), (A.1.1, A.1.2.1.set i ((atR A.1.2.1 i).1, (atR A.1.2.1 i).2.filter (fun q => decide (¬ q.1 = u))), A.1.2.2), (svA A).2)
-- the new states are good ones
theorem any_no {R : RRt} {u : Nat} (h : ¬ anyA R u = true) : ∀ X ∈ R, phs X.2 u = none := by
  intro X hX
  obtain ⟨k, hk, rfl⟩ := List.getElem_of_mem hX
  cases hf : fst9 (laidA R u) 0 R.length with
  | some j => exact absurd (by unfold anyA; rw [hf]; rfl) h
  | none =>
    have h1 := fst9_none hf k (Nat.zero_le _) (by omega)
    unfold laidA at h1
    rw [List.getElem?_eq_getElem hk] at h1
    cases h2 : phs R[k].2 u with
    | none => rfl
    | some p =>
      have h3 : (phs R[k].2 u).isSome = false := h1
      rw [h2] at h3
      cases h3
theorem tkb_gap {g : Nat → Nat} {u x : Nat} {q : Nat × Nat} {i : Nat} (h : ¬ q.1 = u) : tkb (fun v => if v = u then x else g v) q i = tkb g q i := by
  show decide (q.2 ≤ i ∧ (i - q.2) % (if q.1 = u then x else g q.1) = 0) = _
  rw [if_neg h]
  rfl
theorem wf_gap {g : Nat → Nat} {R : RRt} (W : wfS g R) {u x : Nat} (h1 : 2 ≤ x) (h2 : x ≤ 20) (hno : ∀ X ∈ R, phs X.2 u = none) : wfS (fun v => if v = u then x else g v) R := by
  obtain ⟨W1, W2, W3⟩ := W
  refine ⟨fun v => ?_, W2, fun X hX => ?_⟩
  · show 2 ≤ (if v = u then x else g v) ∧ (if v = u then x else g v) ≤ 20
    split
    · exact ⟨h1, h2⟩
    · exact W1 v
  · obtain ⟨V1, V2, V3, V4⟩ := W3 X hX
    have hn := phs_none.mp (hno X hX)
    refine ⟨V1, V2, fun q hq => ?_, fun q hq q' hq' i hi h3 h4 => ?_⟩
    · obtain ⟨a1, a2, a3⟩ := V3 q hq
      refine ⟨a1, a2, ?_⟩
      show q.2 < (if q.1 = u then x else g q.1)
      rw [if_neg (hn q hq)]
      exact a3
    · rw [tkb_gap (hn q hq)] at h3
      rw [tkb_gap (hn q' hq')] at h4
      exact V4 q hq q' hq' i hi h3 h4
theorem wf_rope {g : Nat → Nat} {R : RRt} (W : wfS g R) (hR : ¬ R.length = 4) {n : Nat} (h1 : 1 ≤ n) (h2 : n ≤ 60) : wfS g (R ++ [(n, [])]) := by
  obtain ⟨W1, W2, W3⟩ := W
  refine ⟨W1, by rw [List.length_append]; show R.length + 1 ≤ 4; omega, fun X hX => ?_⟩
  rcases List.mem_append.mp hX with h3 | h3
  · exact W3 X h3
  · rw [List.mem_singleton.mp h3]
    refine ⟨⟨h1, h2⟩, List.nodup_nil, ?_, ?_⟩
    · intro q hq
      cases hq
    · intro q hq
      cases hq
theorem wf_drop {g : Nat → Nat} {R : RRt} (W : wfS g R) (i : Nat) : wfS g (R.eraseIdx i) := by
  obtain ⟨W1, W2, W3⟩ := W
  refine ⟨W1, ?_, fun X hX => W3 X (List.mem_of_mem_eraseIdx hX)⟩
  rw [List.length_eraseIdx]
  split <;> omega
theorem wf_set {g : Nat → Nat} {R : RRt} (W : wfS g R) (i : Nat) {n : Nat} {L : List (Nat × Nat)} (h : wfR g n L) : wfS g (R.set i (n, L)) := by
  obtain ⟨W1, W2, W3⟩ := W
  refine ⟨W1, by rw [List.length_set]; exact W2, fun X hX => ?_⟩
  rcases List.mem_or_eq_of_mem_set hX with h3 | h3
  · exact W3 X h3
  · rw [h3]; exact h
/-- a hue that nothing stands against -/
theorem wf_lay {g : Nat → Nat} (hg : wfg g) {len : Nat} {L : List (Nat × Nat)} (W : wfR g len L) {u p : Nat} (hu : u < 8) (hp : p < g u) (hw : whyA g len L u p = 0) : wfR g len (L ++ [(u, p)]) := by
  have hs : 0 < g u := by have := (hg u).1; omega
  unfold whyA at hw
  split at hw
  · omega
  · rename_i h1
    split at hw
    · omega
    · rename_i h2
      split at hw
      · omega
      · rename_i h3
        have h4 : phs L u = none := by
          cases hx : phs L u with
          | none => rfl
          | some v => rw [hx] at h1; exact absurd rfl h1
        have h5 : fst9 (fun i => decide (¬ col g L (p + i * g u) = none)) 0 (stp9 len p (g u)) = none := by
          cases hx : fst9 (fun i => decide (¬ col g L (p + i * g u) = none)) 0 (stp9 len p (g u)) with
          | none => rfl
          | some v => rw [hx] at h3; exact absurd rfl h3
        have h6 : ∀ i, i < len → tkb g (u, p) i = true → ∀ q ∈ L, tkb g q i = false := by
          intro i hi ht
          obtain ⟨j, hj⟩ := tkb_iff.mp ht
          have hj2 : i = p + j * g u := hj
          have h7 := fst9_none h5 j (Nat.zero_le _) (by rw [Nat.zero_add]; exact (stp9_lt hs).mpr (by omega))
          rw [← hj2] at h7
          have h8 : col g L i = none := by
            by_cases hx : col g L i = none
            · exact hx
            · rw [decide_eq_true hx] at h7; cases h7
          exact col_none.mp h8
        obtain ⟨V1, V2, V3, V4⟩ := W
        refine ⟨V1, ?_, fun q hq => ?_, fun q hq q' hq' i hi t1 t2 => ?_⟩
        · rw [List.map_append, List.nodup_append]
          refine ⟨V2, by simp, fun a ha b hb => ?_⟩
          obtain ⟨q, hq, rfl⟩ := List.mem_map.mp ha
          have hb2 : b = u := by simpa using hb
          rw [hb2]
          exact phs_none.mp h4 q hq
        · rcases List.mem_append.mp hq with h9 | h9
          · exact V3 q h9
          · rw [List.mem_singleton.mp h9]
            exact ⟨hu, by show p < len; omega, hp⟩
        · rcases List.mem_append.mp hq with h9 | h9 <;> rcases List.mem_append.mp hq' with h10 | h10
          · exact V4 q h9 q' h10 i hi t1 t2
          · rw [List.mem_singleton.mp h10] at t2
            rw [h6 i hi t2 q h9] at t1
            cases t1
          · rw [List.mem_singleton.mp h9] at t1
            rw [h6 i hi t1 q' h10] at t2
            cases t2
          · rw [List.mem_singleton.mp h9, List.mem_singleton.mp h10]
theorem whyA_le (g : Nat → Nat) (len : Nat) (L : List (Nat × Nat)) (u p : Nat) : whyA g len L u p ≤ 3 := by
  unfold whyA
  repeat' split
  all_goals omega
section MainOps1
variable {h : PH} {x : Nat} {A : AAt}
theorem C_gap (W : wfA A) (H : repC h x A) (a b : Int32) : CK (f_X5_gap h x a b) [eIO, eIA, eIS] h x A (sp_gap A a b) := by
  obtain ⟨H1, H2, -⟩ := id H
  unfold CK sp_gap
  cases hu : rng 8 a with
  | none =>
    refine ⟨h, ?_, H, onX.rf⟩
    simp only [f_X5_gap, H1.ok, if_true, C_hue_no H1 hu, Option.bind_some]
    rfl
  | some u =>
    obtain ⟨u1, rfl⟩ := rng_some (by omega) hu
    dsimp only
    cases hv : btw 2 20 b with
    | none =>
      refine ⟨h, ?_, H, onX.rf⟩
      rcases btw_none (by omega) (by omega) hv with c1 | ⟨c1, c2⟩
      · have c1 : b < (2 : Int32) := c1
        simp only [f_X5_gap, f_X5_gap_J16, H1.ok, if_true, C_hue_ok H1 u1, Option.bind_some, if_pos c1]
        rfl
      · have c1 : ¬ b < (2 : Int32) := c1
        have c2 : ¬ b ≤ (20 : Int32) := c2
        simp only [f_X5_gap, f_X5_gap_J16, H1.ok, if_true, C_hue_ok H1 u1, Option.bind_some, if_neg c1, if_neg c2]
        rfl
    | some v =>
      obtain ⟨v1, v2, rfl⟩ := btw_some (by omega) hv
      dsimp only
      have c1 : ¬ nI v < (2 : Int32) := nI_nlt (b := 2) v1 (by omega)
      have c2 : nI v ≤ (20 : Int32) := nI_le (b := 20) v2 (by omega)
      have e1 := S_isLaidOnSome W.1 H2 u1
      by_cases hl : anyA A.1.2.1 u = true
      · rw [if_pos hl]
        refine ⟨h, ?_, H, onX.rf⟩
        rw [hl] at e1
        have c3 : ¬ (bI true) = 0 := by decide
        simp only [f_X5_gap, H1.ok, H1.r0, if_true, C_hue_ok H1 u1, Option.bind_some, if_neg c1, if_pos c2, e1, if_neg c3]
        rfl
      · rw [if_neg hl]
        obtain ⟨h1, s1, s2, s3⟩ := C_save W H
        have e2 := S_gapAt s2.2.1 u1
        obtain ⟨h2, t1, t2, t3⟩ := S_setGap s2.2.1 u1 (x := v) (any_no hl)
        refine ⟨h2, ?_, s2.now W.sv t3 t2, s3.toX.tr t3.toX⟩
        have c3 : (bI (anyA A.1.2.1 u)) = 0 := by
          cases hx : anyA A.1.2.1 u with
          | true => exact absurd hx hl
          | false => rfl
        simp only [f_X5_gap, H1.ok, H1.r0, H1.r2, if_true, C_hue_ok H1 u1, Option.bind_some, if_neg c1, if_pos c2, e1, if_pos c3, s1, s2.1.r0, e2, t1]
        rfl
theorem C_rope (W : wfA A) (H : repC h x A) (a : Int32) : CK (f_X5_rope h x a) [eIA, eIS] h x A (sp_rope A a) := by
  obtain ⟨H1, H2, -⟩ := id H
  unfold CK sp_rope
  cases hv : btw 1 60 a with
  | none =>
    refine ⟨h, ?_, H, onX.rf⟩
    simp only [f_X5_rope, H1.ok, if_true, C_len_no H1 hv, Option.bind_some]
    rfl
  | some n =>
    obtain ⟨v1, v2, rfl⟩ := btw_some (by omega) hv
    dsimp only
    by_cases hl : A.1.2.1.length = 4
    · rw [if_pos hl]
      refine ⟨h, ?_, H, onX.rf⟩
      simp only [f_X5_rope, H1.ok, if_true, C_len_ok H1 v1 v2, C_room_no H1 H2 hl, Option.bind_some]
      rfl
    · rw [if_neg hl]
      have hl4 : A.1.2.1.length < 4 := by have := W.1.2.1; omega
      obtain ⟨h1, s1, s2, s3⟩ := C_save W H
      obtain ⟨r, h2, t1, t2, t3, -⟩ := S_addRope W.1 s2.2.1 hl4 v2
      have e1 := S_ropeCount t2
      rw [List.length_append] at e1
      have K := s2.now (T := (A.1.1, A.1.2.1 ++ [(n, [])], A.1.2.2)) W.sv t3 t2
      refine ⟨h2, ?_, K, s3.toX.tr t3.toX⟩
      have e1 : f_X3_ropeCount h2 (x + 1) = some (nI (A.1.2.1.length + 1)) := e1
      simp only [f_X5_rope, H1.ok, H1.r0, H1.r2, if_true, C_len_ok H1 v1 v2, C_room_ok H1 H2 hl4, Option.bind_some, s1, s2.1.r0, t1, K.1.r0, e1, nI_pred]
      rfl
theorem C_drop (W : wfA A) (H : repC h x A) (a : Int32) : CK (f_X5_drop h x a) [eIO] h x A (sp_drop A a) := by
  obtain ⟨H1, H2, -⟩ := id H
  unfold CK sp_drop
  cases hv : rng A.1.2.1.length a with
  | none =>
    refine ⟨h, ?_, H, onX.rf⟩
    simp only [f_X5_drop, H1.ok, if_true, C_existing_no H1 H2 hv, Option.bind_some]
    rfl
  | some i =>
    have hR := W.1.2.1
    obtain ⟨v1, rfl⟩ := rng_some (by omega) hv
    dsimp only
    obtain ⟨r, e1, -⟩ := C_existing H1 W.1 H2 (atR_get v1)
    obtain ⟨h1, s1, s2, s3⟩ := C_save W H
    obtain ⟨h2, t1, t2, t3⟩ := S_removeRope W.1 s2.2.1 v1
    have e2 := S_ropeCount t2
    rw [List.length_eraseIdx, if_pos v1] at e2
    have K := s2.now (T := (A.1.1, A.1.2.1.eraseIdx i, A.1.2.2)) W.sv t3.only t2
    refine ⟨h2, ?_, K, s3.toX.tr t3.only.toX⟩
    have e2 : f_X3_ropeCount h2 (x + 1) = some (nI (A.1.2.1.length - 1)) := e2
    simp only [f_X5_drop, H1.ok, H1.r0, H1.r2, if_true, e1, Option.bind_some, s1, s2.1.r0, t1, K.1.r0, e2]
    rfl
theorem C_lay (W : wfA A) (H : repC h x A) (a b c : Int32) : CK (f_X5_lay h x a b c) [eIO, eIA, eIS] h x A (sp_lay A a b c) := by
  obtain ⟨H1, H2, -⟩ := id H
  unfold CK sp_lay
  have hR := W.1.2.1
  cases hv : rng A.1.2.1.length a with
  | none =>
    refine ⟨h, ?_, H, onX.rf⟩
    simp only [f_X5_lay, H1.ok, if_true, C_existing_no H1 H2 hv, Option.bind_some]
    rfl
  | some i =>
    obtain ⟨v1, rfl⟩ := rng_some (by omega) hv
    dsimp only
    obtain ⟨r, e1, e3, e4, e5, e6⟩ := C_existing H1 W.1 H2 (atR_get v1)
    cases hu : rng 8 b with
    | none =>
      refine ⟨h, ?_, H, onX.rf⟩
      simp only [f_X5_lay, H1.ok, if_true, e1, C_hue_no H1 hu, Option.bind_some]
      rfl
    | some u =>
      obtain ⟨u1, rfl⟩ := rng_some (by omega) hu
      dsimp only
      have hgu := W.1.1 u
      cases hp : rng (A.1.1 u) c with
      | none =>
        refine ⟨h, ?_, H, onX.rf⟩
        simp only [f_X5_lay, H1.ok, if_true, e1, C_hue_ok H1 u1, C_phase_no H1 H2 u1 hp, Option.bind_some]
        rfl
      | some p =>
        obtain ⟨p1, rfl⟩ := rng_some (by omega) hp
        dsimp only
        have e7 := R_reasonAgainst W.1.1 (W.1.2.2 _ (atR_mem v1)) e4 (u := u) (p := p) (by omega) (by omega)
        have e8 := whyA_le A.1.1 (atR A.1.2.1 i).1 (atR A.1.2.1 i).2 u p
        by_cases hw : whyA A.1.1 (atR A.1.2.1 i).1 (atR A.1.2.1 i).2 u p = 0
        · rw [if_pos hw]
          obtain ⟨h1, s1, s2, s3⟩ := C_save W H
          have e9 : f_X3_ropeAt h1 (x + 1) (nI i) = some (some r) := (ropeAt_kp H2 hR (fun b b1 b2 => s3 b (by omega)) v1).trans e3
          obtain ⟨h2, t1, t2, t3⟩ := S_layOn W.1 s2.2.1 (atR_get v1) e9 u1 (wf_lay W.1.1 (W.1.2.2 _ (atR_mem v1)) u1 p1 hw)
          rw [hw] at e7
          have c1 : nI 0 = (0 : Int32) := rfl
          refine ⟨h2, ?_, s2.now W.sv t3 t2, s3.toX.tr t3.toX⟩
          simp only [f_X5_lay, H1.ok, H1.r0, H1.r2, if_true, e1, C_hue_ok H1 u1, C_phase_ok H1 H2 u1 p1 hgu.2, S_gapAt H2 u1, e7, c1, Option.bind_some, s1, s2.1.r0, t1]
          rfl
        · rw [if_neg hw]
          refine ⟨h, ?_, H, onX.rf⟩
          have c1 : ¬ nI (whyA A.1.1 (atR A.1.2.1 i).1 (atR A.1.2.1 i).2 u p) = 0 := nI_ne0 (by omega) (by omega)
          simp only [f_X5_lay, H1.ok, H1.r0, if_true, e1, C_hue_ok H1 u1, C_phase_ok H1 H2 u1 p1 hgu.2, S_gapAt H2 u1, e7, if_neg c1, Option.bind_some]
          rfl
theorem C_take (W : wfA A) (H : repC h x A) (a b : Int32) : CK (f_X5_take h x a b) [eIO, eIS] h x A (sp_take A a b) := by
  obtain ⟨H1, H2, -⟩ := id H
  unfold CK sp_take
  have hR := W.1.2.1
  cases hv : rng A.1.2.1.length a with
  | none =>
    refine ⟨h, ?_, H, onX.rf⟩
    simp only [f_X5_take, H1.ok, if_true, C_existing_no H1 H2 hv, Option.bind_some]
    rfl
  | some i =>
    obtain ⟨v1, rfl⟩ := rng_some (by omega) hv
    dsimp only
    obtain ⟨r, e1, e3, e4, e5, e6⟩ := C_existing H1 W.1 H2 (atR_get v1)
    cases hu : rng 8 b with
    | none =>
      refine ⟨h, ?_, H, onX.rf⟩
      simp only [f_X5_take, H1.ok, if_true, e1, C_hue_no H1 hu, Option.bind_some]
      rfl
    | some u =>
      obtain ⟨u1, rfl⟩ := rng_some (by omega) hu
      dsimp only
      have WR := W.1.2.2 _ (atR_mem v1)
      have e7 := R_orderOf WR e4 (u := u) (by omega)
      have e8 := ixo_m1 (u := u) WR
      cases hp : phs (atR A.1.2.1 i).2 u with
      | none =>
        refine ⟨h, ?_, H, onX.rf⟩
        have c1 : oI (ixo (atR A.1.2.1 i).2 u) = -1 := e8.mpr (by rw [hp]; rfl)
        rw [c1] at e7
        simp only [f_X5_take, H1.ok, if_true, e1, C_hue_ok H1 u1, e7, not_true_eq_false, if_false, Option.bind_some]
        rfl
      | some p =>
        dsimp only
        have c1 : ¬ oI (ixo (atR A.1.2.1 i).2 u) = -1 := fun q => by have := e8.mp q; rw [hp] at this; cases this
        obtain ⟨h1, s1, s2, s3⟩ := C_save W H
        have e9 : f_X3_ropeAt h1 (x + 1) (nI i) = some (some r) := (ropeAt_kp H2 hR (fun b b1 b2 => s3 b (by omega)) v1).trans e3
        have e10 : repR A.1.1 h1 r (atR A.1.2.1 i).1 (atR A.1.2.1 i).2 := by
          obtain ⟨r', k1, k2, k3⟩ := S_ropeAt W.1 s2.2.1 (atR_get v1)
          rw [e9] at k1
          cases k1
          exact k2
        obtain ⟨h2, t1, t2, t3⟩ := R_remove W.1.1 WR e10 (phs_mem hp)
        refine ⟨h2, ?_, s2.now W.sv (t3.only (by omega) (by omega)) (S_set W.1 s2.2.1 (atR_get v1) e9 t3 t2), s3.toX.tr (t3.only (s := x + 1) (by omega) (by omega)).toX⟩
        simp only [f_X5_take, H1.ok, H1.r0, H1.r2, if_true, e1, C_hue_ok H1 u1, e7, if_pos c1, Option.bind_some, s1, t1]
        rfl
end MainOps1
