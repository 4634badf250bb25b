/-! PURE READING, 25: the class: looks -/
def perA (g : Nat → Nat) (L : List (Nat × Nat)) : Nat := L.foldl (fun m q => Nat.lcm m (g q.1)) 1
def rnA (g : Nat → Nat) (X : Nat × List (Nat × Nat)) (w : Nat) : Int32 := if w = 0 then nI X.1 else if w = 1 then nI X.2.length else if w = 2 then nI (cnt9 (fun i => decide (col g X.2 i = none)) X.1) else if w = 3 then oI (fst9 (fun i => decide (col g X.2 i = none)) 0 X.1) else if w = 4 then nI (mho9 (fun i => decide (col g X.2 i = none)) X.1) else nI (perA g X.2)
def cntA (A : AAt) (w : Nat) : Int32 := if w = 0 then nI A.1.2.1.length else if w = 1 then nI (sum9 (lenAt A.1.2.1) A.1.2.1.length) else if w = 2 then nI (sum9 (holA A.1.1 A.1.2.1) A.1.2.1.length) else if w = 3 then nI (cnt9 (anyA A.1.2.1) 8) else if w = 4 then A.1.2.2.1 else if w = 5 then A.1.2.2.2.1 else if w = 6 then A.1.2.2.2.2 else nI A.2.1.length
def flA (g : Nat → Nat) (len : Nat) (L : List (Nat × Nat)) (u : Nat) : Nat := match (fil9 (fun p => decide (whyA g len L u p = 0)) (fun p => stp9 len p (g u)) (g u)).1 with
  | none => 0
  | some p => stp9 len p (g u)
def bstA (g : Nat → Nat) (len : Nat) (L : List (Nat × Nat)) : Nat → Option Nat × Nat
  | 0 => (none, 0)
  | n + 1 => if flA g len L n ≤ (bstA g len L n).2 then bstA g len L n else (some n, flA g len L n)
def shrA (A : AAt) : UInt64 := if sum9 (lenAt A.1.2.1) A.1.2.1.length = 0 then FP.dconst1 else FP.ddiv (FP.i2d (nI (sum9 (lenAt A.1.2.1) A.1.2.1.length - sum9 (holA A.1.1 A.1.2.1) A.1.2.1.length))) (FP.i2d (nI (sum9 (lenAt A.1.2.1) A.1.2.1.length)))
def sp_place (A : AAt) (a b : Int32) : Except Nat Int32 := match rng A.1.2.1.length a with
  | none => .error 1
  | some i => match rng (atR A.1.2.1 i).1 b with
    | none => .error 1
    | some p => .ok (oI (col A.1.1 (atR A.1.2.1 i).2 p))
def sp_ropeOf (A : AAt) (a b : Int32) : Except Nat Int32 := match rng A.1.2.1.length a with
  | none => .error 1
  | some i => match rng 6 b with
    | none => .error 2
    | some w => .ok (rnA A.1.1 (atR A.1.2.1 i) w)
def sp_hueOf (A : AAt) (a b c : Int32) : Except Nat Int32 := match rng A.1.2.1.length a with
  | none => .error 1
  | some i => match rng 8 b with
    | none => .error 1
    | some u => match rng 4 c with
      | none => .error 2
      | some w => .ok (hnA A.1.1 (atR A.1.2.1 i).1 (atR A.1.2.1 i).2 u w)
def sp_gapOf (A : AAt) (a : Int32) : Except Nat Int32 := match rng 8 a with
  | none => .error 1
  | some u => .ok (nI (A.1.1 u))
def sp_count (A : AAt) (a : Int32) : Except Nat Int32 := match rng 8 a with
  | none => .error 1
  | some w => .ok (cntA A w)
def sp_refusal (A : AAt) (a b c : Int32) : Except Nat Int32 := match rng A.1.2.1.length a with
  | none => .error 1
  | some i => match rng 8 b with
    | none => .error 1
    | some u => match rng (A.1.1 u) c with
      | none => .error 2
      | some p => .ok (nI (whyA A.1.1 (atR A.1.2.1 i).1 (atR A.1.2.1 i).2 u p))
def sp_meet (A : AAt) (a b c d : Int32) : Except Nat Int32 := match rng 8 a with
  | none => .error 1
  | some u => match rng 8 c with
    | none => .error 1
    | some v => match rng (A.1.1 u) b with
      | none => .error 2
      | some p => match rng (A.1.1 v) d with
        | none => .error 2
        | some q => .ok (oI (meetA (A.1.1 u) p (A.1.1 v) q))
def sp_phases (A : AAt) (a b c : Int32) : Except Nat Int32 := match rng A.1.2.1.length a with
  | none => .error 1
  | some i => match rng 8 b with
    | none => .error 1
    | some u => match rng 3 c with
      | none => .error 2
      | some w => .ok (pnA A.1.1 (atR A.1.2.1 i).1 (atR A.1.2.1 i).2 u w)
def sp_bestHue (A : AAt) (a : Int32) : Except Nat Int32 := match rng A.1.2.1.length a with
  | none => .error 1
  | some i => .ok (oI (bstA A.1.1 (atR A.1.2.1 i).1 (atR A.1.2.1 i).2 8).1)
def sp_greatest (A : AAt) (a : Int32) : Except Nat Int32 := match rng A.1.2.1.length a with
  | none => .error 1
  | some i => .ok (nI (clashA A.1.1 (atR A.1.2.1 i).2))
theorem gap_dvd : ∀ n : Fin 21, 2 ≤ (n : Nat) → (n : Nat) ∣ 232792560 := by decide
theorem perA_dvd {g : Nat → Nat} (hg : wfg g) : ∀ (L : List (Nat × Nat)) (m : Nat), m ∣ 232792560 → L.foldl (fun m q => Nat.lcm m (g q.1)) m ∣ 232792560 := by
  intro L
  induction L with
  | nil => intro m h; exact h
  | cons a L ih =>
    intro m h
    rw [List.foldl_cons]
    have := hg a.1
    exact ih _ (Nat.lcm_dvd h (gap_dvd ⟨g a.1, by omega⟩ this.1))
theorem sum9_le {f : Nat → Nat} {m : Nat} : ∀ n, (∀ i, i < n → f i ≤ m) → sum9 f n ≤ n * m := by
  intro n
  induction n with
  | zero => intro _; exact Nat.zero_le _
  | succ n ih =>
    intro h
    have h1 := ih (fun i hi => h i (by omega))
    have h2 := h n (by omega)
    show sum9 f n + f n ≤ _
    rw [Nat.add_mul]
    omega
theorem sum9_mono {f f2 : Nat → Nat} : ∀ n, (∀ i, i < n → f i ≤ f2 i) → sum9 f n ≤ sum9 f2 n := by
  intro n
  induction n with
  | zero => intro _; exact Nat.zero_le _
  | succ n ih =>
    intro h
    have h1 := ih (fun i hi => h i (by omega))
    have h2 := h n (by omega)
    show sum9 f n + f n ≤ sum9 f2 n + f2 n
    omega
theorem lenAt_le {g : Nat → Nat} {R : RRt} (W : wfS g R) : sum9 (lenAt R) R.length ≤ 240 := by
  have h1 := sum9_le (f := lenAt R) (m := 60) R.length (fun i hi => by
    unfold lenAt
    rw [List.getElem?_eq_getElem hi]
    exact (W.2.2 _ (List.getElem_mem hi)).1.2)
  have h2 := Nat.mul_le_mul_right 60 W.2.1
  omega
theorem hol_le {g : Nat → Nat} {R : RRt} : sum9 (holA g R) R.length ≤ sum9 (lenAt R) R.length := by
  refine sum9_mono _ (fun i hi => ?_)
  unfold lenAt holA
  rw [List.getElem?_eq_getElem hi]
  exact cnt9_le
theorem flA_le {g : Nat → Nat} (hg : wfg g) (len : Nat) (L : List (Nat × Nat)) (u : Nat) : flA g len L u ≤ len := by
  unfold flA
  split
  · exact Nat.zero_le _
  · exact stp9_le (by have := (hg u).1; omega)
theorem bstA_le {g : Nat → Nat} (hg : wfg g) (len : Nat) (L : List (Nat × Nat)) : ∀ n, (bstA g len L n).2 ≤ len := by
  intro n
  induction n with
  | zero => exact Nat.zero_le _
  | succ n ih =>
    simp only [bstA]
    split
    · exact ih
    · exact flA_le hg len L n
section MainLooks
variable {h : PH} {x : Nat} {k : Int32} {g : Nat → Nat} {R : RRt} {c1 c2 c3 : Int32} {r len : Nat} {L : List (Nat × Nat)}
theorem C_period (hg : wfg g) (Hx : cX h x k) (HS : repS h (x + 1) g R c1 c2 c3) (W : wfR g len L) (H : repR g h r len L) : f_X5_period h x r = some (nI (perA g L)) := by
  have h8 := W.le8
  have hb : ∀ j, 0 ≤ j → j < 0 + L.length → f_X5_period_L4 h x r ((fun j => (nI (perA g (L.take j)), nI j)) j) = some (.inl ((fun j => (nI (perA g (L.take j)), nI j)) (j + 1))) := by
    intro j _ hj
    have hj2 : j < L.length := by omega
    obtain ⟨q, hq⟩ : ∃ q, L[j]? = some q := ⟨_, List.getElem?_eq_getElem hj2⟩
    have hm := List.mem_of_getElem? hq
    obtain ⟨a1, a2, a3⟩ := W.2.2.1 q hm
    have hgq := hg q.1
    have b1 : ¬ nI L.length ≤ nI j := nI_ge hj2 (by omega)
    have e1 : perA g (L.take (j + 1)) = Nat.lcm (perA g (L.take j)) (g q.1) := by
      unfold perA
      rw [take_s hq, List.foldl_append]
      rfl
    have e2 : perA g (L.take j) ≤ 232792560 := Nat.le_of_dvd (by omega) (perA_dvd hg _ 1 (Nat.one_dvd _))
    simp only [f_X5_period_L4, R_hueCount H, Option.bind_some, if_neg b1, R_hueAt W H hq, Hx.r0, S_gapAt HS a1, X1_lcm (h := h) (show perA g (L.take j) < 2 ^ 31 by omega) hgq.2 (by omega), e1, nI_1]
  have he : f_X5_period_L4 h x r ((fun j => (nI (perA g (L.take j)), nI j)) (0 + L.length)) = some (.inr (nI (perA g L))) := by
    have b1 : nI L.length ≤ nI L.length := nI_le (Nat.le_refl _) (by omega)
    simp only [Nat.zero_add, f_X5_period_L4, R_hueCount H, Option.bind_some, if_pos b1, List.take_length]
  have hw := lpn_run (fun j => (nI (perA g (L.take j)), nI j)) _ L.length 0 LF hb he (by unfold LF; omega)
  have hw0 : lpn (f_X5_period_L4 h x r) LF (1, 0) = _ := hw
  simp only [f_X5_period, f_X5_period_J35, Hx.ok, if_true, hw0, Option.bind_some]
theorem C_ropeNumber (hg : wfg g) (Hx : cX h x k) (HS : repS h (x + 1) g R c1 c2 c3) (W : wfR g len L) (H : repR g h r len L) {w : Nat} (hw : w < 6) : f_X5_ropeNumber h x r (nI w) = some (rnA g (len, L) w) := by
  simp only [f_X5_ropeNumber, Hx.ok, if_true, R_length H, R_hueCount H, R_holes W H, R_firstHole W H, R_mostHoles W H, C_period hg Hx HS W H, Option.bind_some]
  match w, hw with
  | 0, _ => rfl
  | 1, _ => rfl
  | 2, _ => rfl
  | 3, _ => rfl
  | 4, _ => rfl
  | 5, _ => rfl
end MainLooks
section MainOps6
variable {h : PH} {x : Nat} {A : AAt}
theorem C_counted (W : wfA A) (H : repC h x A) {w : Nat} (hw : w < 8) : f_X5_counted h x (nI w) = some (cntA A w) := by
  obtain ⟨H1, H2, H3, H4, H5, H6, H7⟩ := id H
  simp only [f_X5_counted, H1.ok, H1.r0, H1.r2, if_true, S_ropeCount H2, S_places W.1 H2, S_holes W.1 H2, S_laidHues W.1 H2, S_layings H2, S_joins H2, S_cuts H2, H_size H5, Option.bind_some]
  match w, hw with
  | 0, _ => rfl
  | 1, _ => rfl
  | 2, _ => rfl
  | 3, _ => rfl
  | 4, _ => rfl
  | 5, _ => rfl
  | 6, _ => rfl
  | 7, _ => rfl
theorem C_count (W : wfA A) (H : repC h x A) (a : Int32) : f_X5_count h x a = some (outL [eIA] (sp_count A a)) := by
  obtain ⟨H1, H2, -⟩ := id H
  unfold sp_count
  cases hv : rng 8 a with
  | none =>
    have e1 := C_what_no H1 hv
    have e1 : f_X5_requireWhat h x a (8 : Int32) = some (.error eIA) := e1
    simp only [f_X5_count, H1.ok, if_true, e1, Option.bind_some]
    rfl
  | some w =>
    obtain ⟨v1, rfl⟩ := rng_some (by omega) hv
    have e1 := C_what_ok H1 v1 (by omega)
    have e1 : f_X5_requireWhat h x (nI w) (8 : Int32) = some (.ok ()) := e1
    simp only [f_X5_count, H1.ok, if_true, e1, C_counted W H v1, Option.bind_some]
    rfl
theorem C_gapOf (W : wfA A) (H : repC h x A) (a : Int32) : f_X5_gapOf h x a = some (outL [eIO] (sp_gapOf A a)) := by
  obtain ⟨H1, H2, -⟩ := id H
  unfold sp_gapOf
  cases hv : rng 8 a with
  | none =>
    simp only [f_X5_gapOf, H1.ok, if_true, C_hue_no H1 hv, Option.bind_some]
    rfl
  | some u =>
    obtain ⟨v1, rfl⟩ := rng_some (by omega) hv
    simp only [f_X5_gapOf, H1.ok, H1.r0, if_true, C_hue_ok H1 v1, S_gapAt H2 v1, Option.bind_some]
    rfl
theorem C_place (W : wfA A) (H : repC h x A) (a b : Int32) : f_X5_place h x a b = some (outL [eIO] (sp_place A a b)) := by
  obtain ⟨H1, H2, -⟩ := id H
  have hR := W.1.2.1
  unfold sp_place
  cases hv : rng A.1.2.1.length a with
  | none =>
    simp only [f_X5_place, H1.ok, if_true, C_existing_no H1 H2 hv, Option.bind_some]
    rfl
  | some i =>
    obtain ⟨v1, rfl⟩ := rng_some (by omega) hv
    dsimp only
    obtain ⟨r, e1, e3, e4, e5, e6⟩ := C_existing H1 W.1 H2 (atR_get v1)
    have WR := W.1.2.2 _ (atR_mem v1)
    have h60 := WR.1.2
    cases hu : rng (atR A.1.2.1 i).1 b with
    | none =>
      rcases rng_none hu with c1 | ⟨c1, c2⟩
      · simp only [f_X5_place, f_X5_place_J18, H1.ok, if_true, e1, if_pos c1, Option.bind_some]
        rfl
      · have c3 : ¬ b < nI (atR A.1.2.1 i).1 := Int32.not_lt.mpr c2
        simp only [f_X5_place, f_X5_place_J18, H1.ok, if_true, e1, if_neg c1, R_length e4, if_neg c3, Option.bind_some]
        rfl
    | some p =>
      obtain ⟨u1, rfl⟩ := rng_some (by omega) hu
      have c1 : ¬ nI p < 0 := nI_pos (by omega)
      have c2 : nI p < nI (atR A.1.2.1 i).1 := nI_lt u1 (by omega)
      simp only [f_X5_place, H1.ok, if_true, e1, if_neg c1, R_length e4, if_pos c2, R_colourAt WR e4 u1, Option.bind_some]
      rfl
theorem C_ropeOf (W : wfA A) (H : repC h x A) (a b : Int32) : f_X5_ropeOf h x a b = some (outL [eIO, eIA] (sp_ropeOf A a b)) := by
  obtain ⟨H1, H2, -⟩ := id H
  have hR := W.1.2.1
  unfold sp_ropeOf
  cases hv : rng A.1.2.1.length a with
  | none =>
    simp only [f_X5_ropeOf, H1.ok, if_true, C_existing_no H1 H2 hv, Option.bind_some]
    rfl
  | some i =>
    obtain ⟨v1, rfl⟩ := rng_some (by omega) hv
    dsimp only
    obtain ⟨r, e1, e3, e4, e5, e6⟩ := C_existing H1 W.1 H2 (atR_get v1)
    have WR := W.1.2.2 _ (atR_mem v1)
    cases hu : rng 6 b with
    | none =>
      have f1 : f_X5_requireWhat h x b (6 : Int32) = some (.error eIA) := C_what_no H1 hu
      simp only [f_X5_ropeOf, H1.ok, if_true, e1, f1, Option.bind_some]
      rfl
    | some w =>
      obtain ⟨u1, rfl⟩ := rng_some (by omega) hu
      have f1 : f_X5_requireWhat h x (nI w) (6 : Int32) = some (.ok ()) := C_what_ok H1 (m := 6) u1 (by omega)
      simp only [f_X5_ropeOf, H1.ok, if_true, e1, f1, C_ropeNumber W.1.1 H1 H2 WR e4 u1, Option.bind_some]
      rfl
theorem C_hueOf (W : wfA A) (H : repC h x A) (a b c : Int32) : f_X5_hueOf h x a b c = some (outL [eIO, eIA] (sp_hueOf A a b c)) := by
  obtain ⟨H1, H2, -⟩ := id H
  have hR := W.1.2.1
  unfold sp_hueOf
  cases hv : rng A.1.2.1.length a with
  | none =>
    simp only [f_X5_hueOf, H1.ok, if_true, C_existing_no H1 H2 hv, Option.bind_some]
    rfl
  | some i =>
    obtain ⟨v1, rfl⟩ := rng_some (by omega) hv
    dsimp only
    obtain ⟨r, e1, e3, e4, e5, e6⟩ := C_existing H1 W.1 H2 (atR_get v1)
    have WR := W.1.2.2 _ (atR_mem v1)
    cases ht : rng 8 b with
    | none =>
      simp only [f_X5_hueOf, H1.ok, if_true, e1, C_hue_no H1 ht, Option.bind_some]
      rfl
    | some u =>
      obtain ⟨t1, rfl⟩ := rng_some (by omega) ht
      dsimp only
      cases hu : rng 4 c with
      | none =>
        have f1 : f_X5_requireWhat h x c (4 : Int32) = some (.error eIA) := C_what_no H1 hu
        simp only [f_X5_hueOf, H1.ok, if_true, e1, C_hue_ok H1 t1, f1, Option.bind_some]
        rfl
      | some w =>
        obtain ⟨u1, rfl⟩ := rng_some (by omega) hu
        have f1 : f_X5_requireWhat h x (nI w) (4 : Int32) = some (.ok ()) := C_what_ok H1 (m := 4) u1 (by omega)
        simp only [f_X5_hueOf, H1.ok, if_true, e1, C_hue_ok H1 t1, f1, R_hueNumber W.1.1 WR e4 (show u < 2 ^ 31 by omega) u1, Option.bind_some]
        rfl
theorem C_phases (W : wfA A) (H : repC h x A) (a b c : Int32) : f_X5_phases h x a b c = some (outL [eIO, eIA] (sp_phases A a b c)) := by
  obtain ⟨H1, H2, -⟩ := id H
  have hR := W.1.2.1
  unfold sp_phases
  cases hv : rng A.1.2.1.length a with
  | none =>
    simp only [f_X5_phases, H1.ok, if_true, C_existing_no H1 H2 hv, Option.bind_some]
    rfl
  | some i =>
    obtain ⟨v1, rfl⟩ := rng_some (by omega) hv
    dsimp only
    obtain ⟨r, e1, e3, e4, e5, e6⟩ := C_existing H1 W.1 H2 (atR_get v1)
    have WR := W.1.2.2 _ (atR_mem v1)
    cases ht : rng 8 b with
    | none =>
      simp only [f_X5_phases, H1.ok, if_true, e1, C_hue_no H1 ht, Option.bind_some]
      rfl
    | some u =>
      obtain ⟨t1, rfl⟩ := rng_some (by omega) ht
      dsimp only
      cases hu : rng 3 c with
      | none =>
        have f1 : f_X5_requireWhat h x c (3 : Int32) = some (.error eIA) := C_what_no H1 hu
        simp only [f_X5_phases, H1.ok, if_true, e1, C_hue_ok H1 t1, f1, Option.bind_some]
        rfl
      | some w =>
        obtain ⟨u1, rfl⟩ := rng_some (by omega) hu
        have f1 : f_X5_requireWhat h x (nI w) (3 : Int32) = some (.ok ()) := C_what_ok H1 (m := 3) u1 (by omega)
        simp only [f_X5_phases, H1.ok, H1.r0, if_true, e1, C_hue_ok H1 t1, f1, S_gapAt H2 t1, R_phaseNumber W.1.1 WR e4 (show u < 2 ^ 31 by omega) u1, Option.bind_some]
        rfl
theorem C_refusal (W : wfA A) (H : repC h x A) (a b c : Int32) : f_X5_refusal h x a b c = some (outL [eIO, eIA] (sp_refusal A a b c)) := by
  obtain ⟨H1, H2, -⟩ := id H
  have hR := W.1.2.1
  unfold sp_refusal
  cases hv : rng A.1.2.1.length a with
  | none =>
    simp only [f_X5_refusal, H1.ok, if_true, C_existing_no H1 H2 hv, Option.bind_some]
    rfl
  | some i =>
    obtain ⟨v1, rfl⟩ := rng_some (by omega) hv
    dsimp only
    obtain ⟨r, e1, e3, e4, e5, e6⟩ := C_existing H1 W.1 H2 (atR_get v1)
    have WR := W.1.2.2 _ (atR_mem v1)
    cases ht : rng 8 b with
    | none =>
      simp only [f_X5_refusal, H1.ok, if_true, e1, C_hue_no H1 ht, Option.bind_some]
      rfl
    | some u =>
      obtain ⟨t1, rfl⟩ := rng_some (by omega) ht
      dsimp only
      have hgu := W.1.1 u
      cases hu : rng (A.1.1 u) c with
      | none =>
        simp only [f_X5_refusal, H1.ok, if_true, e1, C_hue_ok H1 t1, C_phase_no H1 H2 t1 hu, Option.bind_some]
        rfl
      | some p =>
        obtain ⟨u1, rfl⟩ := rng_some (by omega) hu
        simp only [f_X5_refusal, H1.ok, H1.r0, if_true, e1, C_hue_ok H1 t1, C_phase_ok H1 H2 t1 u1 hgu.2, S_gapAt H2 t1, R_reasonAgainst W.1.1 WR e4 (show u < 2 ^ 31 by omega) (show p ≤ 100 by omega), Option.bind_some]
        rfl
theorem C_meeting (W : wfA A) (H : repC h x A) (a b c d : Int32) : f_X5_meeting h x a b c d = some (outL [eIO, eIA] (sp_meet A a b c d)) ∧ f_X5_walked h x a b c d = some (outL [eIO, eIA] (sp_meet A a b c d)) := by
  obtain ⟨H1, H2, -⟩ := id H
  unfold sp_meet
  cases hv : rng 8 a with
  | none =>
    simp only [f_X5_meeting, f_X5_walked, H1.ok, if_true, C_hue_no H1 hv, Option.bind_some]
    exact ⟨rfl, rfl⟩
  | some u =>
    obtain ⟨v1, rfl⟩ := rng_some (by omega) hv
    dsimp only
    cases hw : rng 8 c with
    | none =>
      simp only [f_X5_meeting, f_X5_walked, H1.ok, if_true, C_hue_ok H1 v1, C_hue_no H1 hw, Option.bind_some]
      exact ⟨rfl, rfl⟩
    | some v =>
      obtain ⟨w1, rfl⟩ := rng_some (by omega) hw
      dsimp only
      have hgu := W.1.1 u
      have hgv := W.1.1 v
      cases hp : rng (A.1.1 u) b with
      | none =>
        simp only [f_X5_meeting, f_X5_walked, H1.ok, if_true, C_hue_ok H1 v1, C_hue_ok H1 w1, C_phase_no H1 H2 v1 hp, Option.bind_some]
        exact ⟨rfl, rfl⟩
      | some p =>
        obtain ⟨p1, rfl⟩ := rng_some (by omega) hp
        dsimp only
        cases hq : rng (A.1.1 v) d with
        | none =>
          simp only [f_X5_meeting, f_X5_walked, H1.ok, if_true, C_hue_ok H1 v1, C_hue_ok H1 w1, C_phase_ok H1 H2 v1 p1 hgu.2, C_phase_no H1 H2 w1 hq, Option.bind_some]
          exact ⟨rfl, rfl⟩
        | some q =>
          obtain ⟨q1, rfl⟩ := rng_some (by omega) hq
          simp only [f_X5_meeting, f_X5_walked, H1.ok, H1.r0, if_true, C_hue_ok H1 v1, C_hue_ok H1 w1, C_phase_ok H1 H2 v1 p1 hgu.2, C_phase_ok H1 H2 w1 q1 hgv.2, S_gapAt H2 v1, S_gapAt H2 w1, X1_meetByRemainders (h := h) hgu hgv p1 q1, X1_meetByWalking (h := h) hgu hgv p1 q1, Option.bind_some]
          exact ⟨rfl, rfl⟩
end MainOps6
