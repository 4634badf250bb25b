/-! PURE READING, 2: the class's Rope, phases; writes -/
def fil9 (P : Nat → Bool) (w : Nat → Nat) : Nat → Option Nat × Nat
  | 0 => (none, 0)
  | n + 1 => if w n ≤ (fil9 P w n).2 then fil9 P w n else if P n = true then (some n, w n) else fil9 P w n
section RopeReads3
variable {h : PH} {r len cnt : Nat} {cf off : Nat → Int32}
theorem whyC_le (u : Int32) (p g : Nat) : whyC len cnt cf off u p g ≤ 3 := by
  unfold whyC
  repeat' split
  all_goals omega
theorem X2_fittingPhases (H : cR h r len cnt cf off) (hl : len ≤ 60) (hc : cnt ≤ 8) (u : Int32) {g : Nat} (hg1 : 1 ≤ g) (hg : g ≤ 100) : f_X2_fittingPhases h r u (nI g) = some (nI (cnt9 (fun p => decide (whyC len cnt cf off u p g = 0)) g)) := by
  have hb : ∀ j, 0 ≤ j → j < 0 + g → f_X2_fittingPhases_L5 h r u (nI g) ((fun j => (nI (cnt9 (fun p => decide (whyC len cnt cf off u p g = 0)) j), nI j)) j) = some (.inl ((fun j => (nI (cnt9 (fun p => decide (whyC len cnt cf off u p g = 0)) j), nI j)) (j + 1))) := by
    intro j _ hj
    have c2 : ¬ nI g ≤ nI j := nI_ge (by omega) (by omega)
    have h3 := whyC_le (len := len) (cnt := cnt) (cf := cf) (off := off) u j g
    simp only [f_X2_fittingPhases_L5, f_X2_fittingPhases_J25, if_neg c2, X2_reasonAgainst H hl hc u (show j ≤ 100 by omega) hg1 hg, Option.bind_some, cnt9]
    by_cases hu : whyC len cnt cf off u j g = 0
    · simp [hu, nI_1, nI_0]
    · have c4 : ¬ nI (whyC len cnt cf off u j g) = 0 := nI_ne0 (by omega) (by omega)
      simp [hu, c4, nI_1]
  have he : f_X2_fittingPhases_L5 h r u (nI g) ((fun j => (nI (cnt9 (fun p => decide (whyC len cnt cf off u p g = 0)) j), nI j)) (0 + g)) = some (.inr (nI (cnt9 (fun p => decide (whyC len cnt cf off u p g = 0)) g))) := by
    have c2 : nI g ≤ nI g := nI_le (Nat.le_refl _) (by omega)
    simp only [Nat.zero_add, f_X2_fittingPhases_L5, if_pos c2]
  have hw := lpn_run (fun j => (nI (cnt9 (fun p => decide (whyC len cnt cf off u p g = 0)) j), nI j)) _ g 0 LF hb he (by unfold LF; omega)
  have hw0 : lpn (f_X2_fittingPhases_L5 h r u (nI g)) LF (0, 0) = _ := hw
  simp only [f_X2_fittingPhases, f_X2_fittingPhases_J31, H.ok, if_true, hw0, Option.bind_some]
theorem X2_lowestPhase (H : cR h r len cnt cf off) (hl : len ≤ 60) (hc : cnt ≤ 8) (u : Int32) {g : Nat} (hg1 : 1 ≤ g) (hg : g ≤ 100) : f_X2_lowestPhase h r u (nI g) = some (oI (fst9 (fun p => decide (whyC len cnt cf off u p g = 0)) 0 g)) := by
  have hb : ∀ j, 0 ≤ j → j < 0 + g → f_X2_lowestPhase_L2 h r u (nI g) (nI j) = some (if (fun p => decide (whyC len cnt cf off u p g = 0)) j = true then .inr ((fun j => (.inr (nI j) : Unit ⊕ Int32)) j) else .inl (nI (j + 1))) := by
    intro j _ hj
    have c2 : ¬ nI g ≤ nI j := nI_ge (by omega) (by omega)
    have h3 := whyC_le (len := len) (cnt := cnt) (cf := cf) (off := off) u j g
    simp only [f_X2_lowestPhase_L2, if_neg c2, X2_reasonAgainst H hl hc u (show j ≤ 100 by omega) hg1 hg, Option.bind_some]
    by_cases hu : whyC len cnt cf off u j g = 0
    · simp [hu, nI_0]
    · have c4 : ¬ nI (whyC len cnt cf off u j g) = 0 := nI_ne0 (by omega) (by omega)
      simp [hu, c4, nI_1]
  have he : f_X2_lowestPhase_L2 h r u (nI g) (nI (0 + g)) = some (.inr (.inl ())) := by
    have c2 : nI g ≤ nI g := nI_le (Nat.le_refl _) (by omega)
    simp only [Nat.zero_add, f_X2_lowestPhase_L2, if_pos c2]
  have hw := lpn_find (fun j => nI j) (fun p => decide (whyC len cnt cf off u p g = 0)) (fun j => (.inr (nI j) : Unit ⊕ Int32)) (.inl ()) g 0 LF hb he (by unfold LF; omega)
  have hw0 : lpn (f_X2_lowestPhase_L2 h r u (nI g)) LF 0 = _ := hw
  simp only [f_X2_lowestPhase, H.ok, if_true, hw0, Option.bind_some]
  cases fst9 (fun p => decide (whyC len cnt cf off u p g = 0)) 0 g with
  | none => rfl
  | some j => rfl
theorem stp9_le {n p s : Nat} (hs : 0 < s) : stp9 n p s ≤ n := by
  rcases Nat.lt_or_ge n (stp9 n p s) with q | q
  · have h1 := (stp9_lt hs).mp q
    have h2 : n * 1 ≤ n * s := Nat.mul_le_mul_left n hs
    omega
  · exact q
theorem fil9_le {P : Nat → Bool} {w : Nat → Nat} {m : Nat} (hw : ∀ i, w i ≤ m) : ∀ n, (fil9 P w n).2 ≤ m := by
  intro n
  induction n with
  | zero => exact Nat.zero_le _
  | succ n ih =>
    simp only [fil9]
    split
    · exact ih
    · split
      · exact hw n
      · exact ih
theorem fil9_lt {P : Nat → Bool} {w : Nat → Nat} : ∀ n j, (fil9 P w n).1 = some j → j < n := by
  intro n
  induction n with
  | zero => intro j hj; cases hj
  | succ n ih =>
    intro j hj
    simp only [fil9] at hj
    split at hj
    · have := ih j hj; omega
    · split at hj
      · cases hj; omega
      · have := ih j hj; omega
theorem X2_fillingPhase (H : cR h r len cnt cf off) (hl : len ≤ 60) (hc : cnt ≤ 8) (u : Int32) {g : Nat} (hg1 : 1 ≤ g) (hg : g ≤ 100) : f_X2_fillingPhase h r u (nI g) = some (oI (fil9 (fun p => decide (whyC len cnt cf off u p g = 0)) (fun p => stp9 len p g) g).1) := by
  have hb : ∀ j, 0 ≤ j → j < 0 + g → f_X2_fillingPhase_L8 h r u (nI g) ((fun j => (oI (fil9 (fun p => decide (whyC len cnt cf off u p g = 0)) (fun p => stp9 len p g) j).1, nI (fil9 (fun p => decide (whyC len cnt cf off u p g = 0)) (fun p => stp9 len p g) j).2, nI j)) j) = some (.inl ((fun j => (oI (fil9 (fun p => decide (whyC len cnt cf off u p g = 0)) (fun p => stp9 len p g) j).1, nI (fil9 (fun p => decide (whyC len cnt cf off u p g = 0)) (fun p => stp9 len p g) j).2, nI j)) (j + 1))) := by
    intro j _ hj
    have c2 : ¬ nI g ≤ nI j := nI_ge (by omega) (by omega)
    have h3 := whyC_le (len := len) (cnt := cnt) (cf := cf) (off := off) u j g
    have h4 : stp9 len j g ≤ len := stp9_le (by omega)
    have h5 := fil9_le (P := fun p => decide (whyC len cnt cf off u p g = 0)) (w := fun p => stp9 len p g) (m := len) (fun i => stp9_le (by omega)) j
    simp only [f_X2_fillingPhase_L8, f_X2_fillingPhase_J48, if_neg c2, X2_placesFrom H hl (show j ≤ 100 by omega) hg1 hg, X2_reasonAgainst H hl hc u (show j ≤ 100 by omega) hg1 hg, Option.bind_some, fil9]
    by_cases hw : stp9 len j g ≤ (fil9 (fun p => decide (whyC len cnt cf off u p g = 0)) (fun p => stp9 len p g) j).2
    · have c5 := nI_le hw (by omega)
      simp only [if_pos c5, if_pos hw, nI_1]
    · have c5 := nI_ge (Nat.not_le.mp hw) (by omega)
      simp only [if_neg c5, if_neg hw]
      by_cases hu : whyC len cnt cf off u j g = 0
      · simp [hu, nI_0, nI_1, oI]
      · have c4 : ¬ nI (whyC len cnt cf off u j g) = 0 := nI_ne0 (by omega) (by omega)
        simp [hu, c4, nI_1]
  have he : f_X2_fillingPhase_L8 h r u (nI g) ((fun j => (oI (fil9 (fun p => decide (whyC len cnt cf off u p g = 0)) (fun p => stp9 len p g) j).1, nI (fil9 (fun p => decide (whyC len cnt cf off u p g = 0)) (fun p => stp9 len p g) j).2, nI j)) (0 + g)) = some (.inr (oI (fil9 (fun p => decide (whyC len cnt cf off u p g = 0)) (fun p => stp9 len p g) g).1)) := by
    have c2 : nI g ≤ nI g := nI_le (Nat.le_refl _) (by omega)
    simp only [Nat.zero_add, f_X2_fillingPhase_L8, if_pos c2]
  have hw := lpn_run (fun j => (oI (fil9 (fun p => decide (whyC len cnt cf off u p g = 0)) (fun p => stp9 len p g) j).1, nI (fil9 (fun p => decide (whyC len cnt cf off u p g = 0)) (fun p => stp9 len p g) j).2, nI j)) _ g 0 LF hb he (by unfold LF; omega)
  have hw0 : lpn (f_X2_fillingPhase_L8 h r u (nI g)) LF (-1, 0, 0) = _ := hw
  simp only [f_X2_fillingPhase, f_X2_fillingPhase_J54, H.ok, if_true, hw0, Option.bind_some]
end RopeReads3
-- a Rope's cells written anew
def setR (h : PH) (r len cnt : Nat) (cf off : Nat → Int32) : PH := fun b => if b = r then some (.inr (.inr (1, [.ref (r + 1), .ref (r + 2), .int (nI len), .int (nI cnt)]))) else if b = r + 1 then some (.inl (60, cf)) else if b = r + 2 then some (.inl (8, off)) else h b
section RopeWrites
variable {h : PH} {r len cnt : Nat} {cf off : Nat → Int32}
theorem setR_cR : cR (setR h r len cnt cf off) r len cnt cf off := by
  refine ⟨if_pos rfl, ?_, ?_⟩
  · show (if r + 1 = r then _ else _) = _
    rw [if_neg (by omega), if_pos rfl]
  · show (if r + 2 = r then _ else _) = _
    rw [if_neg (by omega), if_neg (by omega), if_pos rfl]
theorem setR_n {b : Nat} (hb : b < r ∨ r + 3 ≤ b) : setR h r len cnt cf off b = h b := by
  show (if b = r then _ else _) = _
  rw [if_neg (by omega), if_neg (by omega), if_neg (by omega)]
theorem setR_eq (H : cR h r len cnt cf off) : setR h r len cnt cf off = h := by
  funext b
  show (if b = r then _ else _) = _
  by_cases h0 : b = r
  · rw [if_pos h0, h0, H.1]
  · rw [if_neg h0]
    by_cases h1 : b = r + 1
    · rw [if_pos h1, h1, H.2.1]
    · rw [if_neg h1]
      by_cases h2 : b = r + 2
      · rw [if_pos h2, h2, H.2.2]
      · rw [if_neg h2]
theorem setR_setR {l2 c2 : Nat} {cf2 off2 : Nat → Int32} : setR (setR h r len cnt cf off) r l2 c2 cf2 off2 = setR h r l2 c2 cf2 off2 := by
  funext b
  show (if b = r then _ else _) = (if b = r then _ else _)
  by_cases h0 : b = r
  · rw [if_pos h0, if_pos h0]
  · rw [if_neg h0, if_neg h0]
    by_cases h1 : b = r + 1
    · rw [if_pos h1, if_pos h1]
    · rw [if_neg h1, if_neg h1]
      by_cases h2 : b = r + 2
      · rw [if_pos h2, if_pos h2]
      · rw [if_neg h2, if_neg h2]
        exact setR_n (by omega)
theorem pu_R0 (l2 c2 : Nat) : pu (setR h r len cnt cf off) r (.inr (.inr (1, [.ref (r + 1), .ref (r + 2), .int (nI l2), .int (nI c2)]))) = setR h r l2 c2 cf off := by
  funext b
  by_cases h0 : b = r
  · subst h0
    rw [pu_s]
    exact (if_pos rfl).symm
  · rw [pu_n h0]
    show (if b = r then _ else _) = (if b = r then _ else _)
    rw [if_neg h0, if_neg h0]
theorem pu_R1 (cf2 : Nat → Int32) : pu (setR h r len cnt cf off) (r + 1) (.inl (60, cf2)) = setR h r len cnt cf2 off := by
  funext b
  by_cases h0 : b = r + 1
  · subst h0
    rw [pu_s]
    show _ = (if r + 1 = r then _ else _)
    rw [if_neg (by omega), if_pos rfl]
  · rw [pu_n h0]
    show (if b = r then _ else _) = (if b = r then _ else _)
    rw [if_neg h0, if_neg h0]
theorem pu_R2 (off2 : Nat → Int32) : pu (setR h r len cnt cf off) (r + 2) (.inl (8, off2)) = setR h r len cnt cf off2 := by
  funext b
  by_cases h0 : b = r + 2
  · subst h0
    rw [pu_s]
    show _ = (if r + 2 = r then _ else _)
    rw [if_neg (by omega), if_neg (by omega), if_pos rfl]
  · rw [pu_n h0]
    show (if b = r then _ else _) = (if b = r then _ else _)
    rw [if_neg h0, if_neg h0]
theorem wr_R2 (l2 : Nat) : wrF (setR h r len cnt cf off) r 1 2 (.int (nI l2)) = some (setR h r l2 cnt cf off) := by
  rw [wrF_of _ setR_cR.1 (by simp)]
  exact congrArg some (pu_R0 _ _)
theorem wr_R3 (c2 : Nat) : wrF (setR h r len cnt cf off) r 1 3 (.int (nI c2)) = some (setR h r len c2 cf off) := by
  rw [wrF_of _ setR_cR.1 (by simp)]
  exact congrArg some (pu_R0 _ _)
theorem st_R1 {p : Nat} (hp : p < 60) (x : Int32) : stI (setR h r len cnt cf off) (r + 1) (nI p) x = some (setR h r len cnt (upd cf p x) off) := by
  rw [stI_of x setR_cR.2.1 hp (by omega), pu_R1]
theorem st_R2 {k : Nat} (hk : k < 8) (x : Int32) : stI (setR h r len cnt cf off) (r + 2) (nI k) x = some (setR h r len cnt cf (upd off k x)) := by
  rw [stI_of x setR_cR.2.2 hk (by omega), pu_R2]
/-- one entry after another set by a function -/
def fill9 (f g : Nat → Int32) : Nat → Nat → Int32
  | 0 => f
  | n + 1 => upd (fill9 f g n) n (g n)
theorem fill9_at (f g : Nat → Int32) : ∀ n i, fill9 f g n i = if i < n then g i else f i := by
  intro n
  induction n with
  | zero => intro i; rw [if_neg (by omega)]; rfl
  | succ n ih =>
    intro i
    show (if i = n then g n else fill9 f g n i) = _
    by_cases hi : i = n
    · subst hi; rw [if_pos rfl, if_pos (by omega)]
    · rw [if_neg hi, ih i]
      by_cases h2 : i < n
      · rw [if_pos h2, if_pos (by omega)]
      · rw [if_neg h2, if_neg (by omega)]
theorem X2_begin {L : Nat} (hL : L ≤ 60) : f_X2_begin (setR h r len cnt cf off) r (nI L) = some (setR h r L 0 (fill9 cf (fun _ => -1) 60) off) := by
  have H : ∀ {l c : Nat} {f : Nat → Int32}, cR (setR h r l c f off) r l c f off := setR_cR
  have hb : ∀ j, 0 ≤ j → j < 0 + 60 → f_X2_begin_L24 r ((fun j => (nI j, setR h r L 0 (fill9 cf (fun _ => -1) j) off)) j) = some (.inl ((fun j => (nI j, setR h r L 0 (fill9 cf (fun _ => -1) j) off)) (j + 1))) := by
    intro j _ hj
    have c2 : ¬ nI 60 ≤ nI j := nI_ge (by omega) (by omega)
    simp only [f_X2_begin_L24, H.r0, H.n0, Option.bind_some, if_neg c2, st_R1 (show j < 60 by omega), nI_1, fill9]
  have he : f_X2_begin_L24 r ((fun j => (nI j, setR h r L 0 (fill9 cf (fun _ => -1) j) off)) (0 + 60)) = some (.inr (setR h r L 0 (fill9 cf (fun _ => -1) 60) off)) := by
    have c2 : nI 60 ≤ nI 60 := nI_le (Nat.le_refl _) (by omega)
    simp only [Nat.zero_add, f_X2_begin_L24, H.r0, H.n0, Option.bind_some, if_pos c2]
  have hw := lpn_run (fun j => (nI j, setR h r L 0 (fill9 cf (fun _ => -1) j) off)) _ 60 0 LF hb he (by unfold LF; omega)
  have hw0 : lpn (f_X2_begin_L24 r) LF (0, setR h r L 0 cf off) = _ := hw
  have e1 : (if nI 60 < nI L then nI 60 else nI L) = nI L := if_neg (nI_nlt (by omega) (by omega))
  have e2 : (if (0 : Int32) < nI L then nI L else (0 : Int32)) = nI L := by
    by_cases h0 : L = 0
    · subst h0; rfl
    · exact if_pos (nI_lt (a := 0) (by omega) (by omega))
  have e3 : ∀ c, wrF (setR h r len c cf off) r 1 2 (.int (nI L)) = some (setR h r L c cf off) := fun c => wr_R2 L
  have e4 : wrF (setR h r L cnt cf off) r 1 3 (.int 0) = some (setR h r L 0 cf off) := wr_R3 0
  simp only [f_X2_begin, f_X2_begin_J46, H.ok, H.r0, H.n0, if_true, Option.bind_some, e1, e2, e3, e4, hw0]
theorem X2_setColour {p : Nat} (hp : p < 60) (x : Int32) : f_X2_setColour (setR h r len cnt cf off) r (nI p) x = some (setR h r len cnt (upd cf p x) off) := by
  have H : cR (setR h r len cnt cf off) r len cnt cf off := setR_cR
  have c1 : ¬ nI p < 0 := nI_pos (by omega)
  have c2 : ¬ nI 60 ≤ nI p := nI_ge (by omega) (by omega)
  simp only [f_X2_setColour, f_X2_setColour_J20, H.ok, H.r0, H.n0, if_true, Option.bind_some, if_neg c1, if_neg c2, st_R1 hp]
/-- a hue's places written -/
def lay9 (cf : Nat → Int32) (u : Int32) (p g : Nat) : Nat → Nat → Int32
  | 0 => cf
  | n + 1 => upd (lay9 cf u p g n) (p + n * g) u
theorem X2_put {p g : Nat} (u : Int32) (hl : len ≤ 60) (hc : cnt < 8) (hp : p < len) (hg1 : 1 ≤ g) (hg : g ≤ 100) : f_X2_put (setR h r len cnt cf off) r u (nI p) (nI g) = some (nI (stp9 len p g), setR h r len (cnt + 1) (lay9 cf u p g (stp9 len p g)) (upd off cnt u)) := by
  have H : ∀ {l c : Nat} {f o : Nat → Int32}, cR (setR h r l c f o) r l c f o := setR_cR
  have hlt : ∀ i, i < stp9 len p g ↔ p + i * g < len := fun i => stp9_lt (by omega)
  have hsm : stp9 len p g ≤ len := stp9_le (by omega)
  have hb : ∀ j, 0 ≤ j → j < 0 + stp9 len p g → f_X2_put_L66 r u (nI g) ((fun j => (nI j, nI (p + j * g), setR h r len (cnt + 1) (lay9 cf u p g j) (upd off cnt u))) j) = some (.inl ((fun j => (nI j, nI (p + j * g), setR h r len (cnt + 1) (lay9 cf u p g j) (upd off cnt u))) (j + 1))) := by
    intro j _ hj
    have h1 := (hlt j).mp (by omega)
    have c2 : ¬ nI len ≤ nI (p + j * g) := nI_ge h1 (by omega)
    simp only [f_X2_put_L66, H.r2, Option.bind_some, if_neg c2, X2_setColour (show p + j * g < 60 by omega), nI_1, nI_step, lay9]
  have he : f_X2_put_L66 r u (nI g) ((fun j => (nI j, nI (p + j * g), setR h r len (cnt + 1) (lay9 cf u p g j) (upd off cnt u))) (0 + stp9 len p g)) = some (.inr (nI (stp9 len p g), setR h r len (cnt + 1) (lay9 cf u p g (stp9 len p g)) (upd off cnt u))) := by
    rw [Nat.zero_add]
    have h1 : ¬ p + stp9 len p g * g < len := fun q => Nat.lt_irrefl _ ((hlt _).mpr q)
    have h2 : stp9 len p g * g ≤ 60 * 100 := Nat.mul_le_mul (by omega) hg
    have c2 : nI len ≤ nI (p + stp9 len p g * g) := nI_le (by omega) (by omega)
    simp only [f_X2_put_L66, H.r2, Option.bind_some, if_pos c2]
  have hw := lpn_run (fun j => (nI j, nI (p + j * g), setR h r len (cnt + 1) (lay9 cf u p g j) (upd off cnt u))) _ (stp9 len p g) 0 LF hb he (by unfold LF; omega)
  have hw0 : lpn (f_X2_put_L66 r u (nI g)) LF (0, nI p, setR h r len (cnt + 1) cf (upd off cnt u)) = some (nI (stp9 len p g), setR h r len (cnt + 1) (lay9 cf u p g (stp9 len p g)) (upd off cnt u)) := by
    rw [← hw]
    simp only [Nat.zero_mul, Nat.add_zero, nI_0, lay9]
  have c1 : ¬ nI p < 0 := nI_pos (by omega)
  have c2 : ¬ nI len ≤ nI p := nI_ge hp (by omega)
  have c3 : ¬ nI cnt < 0 := nI_pos (by omega)
  have c4 : nI cnt < nI 8 := nI_lt hc (by omega)
  have e1 : wrF (setR h r len cnt cf (upd off cnt u)) r 1 3 (.int (nI cnt + (1 : Int32))) = some (setR h r len (cnt + 1) cf (upd off cnt u)) := by
    rw [nI_1]; exact wr_R3 _
  simp only [f_X2_put, f_X2_put_J95, H.ok, H.r1, H.r2, H.r3, H.n1, if_true, Option.bind_some, if_neg c1, if_neg c2, if_neg c3, if_pos c4, st_R2 hc, e1, max1 hg1 hg, hw0]
end RopeWrites
