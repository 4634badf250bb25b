/-! PURE READING, 5: the class's Rope against the mathematical rope -/
theorem lt_same {a b : Nat} (h : ∀ i, i < a ↔ i < b) : a = b := by
  rcases Nat.lt_trichotomy a b with q | q | q
  · exact absurd ((h a).mpr q) (Nat.lt_irrefl _)
  · exact q
  · exact absurd ((h b).mp q) (Nat.lt_irrefl _)
theorem tkb_iff {g : Nat → Nat} {q : Nat × Nat} {i : Nat} : tkb g q i = true ↔ ∃ j, i = q.2 + j * g q.1 := by
  unfold tkb
  rw [decide_eq_true_iff]
  constructor
  · rintro ⟨h1, h2⟩
    refine ⟨(i - q.2) / g q.1, ?_⟩
    have h3 := Nat.div_add_mod (i - q.2) (g q.1)
    rw [h2, Nat.add_zero, Nat.mul_comm] at h3
    omega
  · rintro ⟨j, rfl⟩
    refine ⟨Nat.le_add_right _ _, ?_⟩
    rw [Nat.add_sub_cancel_left]
    exact Nat.mul_mod_left _ _
theorem stp9_s {n p s : Nat} (hs : 0 < s) : stp9 (n + 1) p s = stp9 n p s + (if decide (p ≤ n ∧ (n - p) % s = 0) = true then 1 else 0) := by
  apply lt_same
  intro i
  rw [stp9_lt hs]
  by_cases h : p ≤ n ∧ (n - p) % s = 0
  · have h1 : n = p + (n - p) / s * s := by
      have h3 := Nat.div_add_mod (n - p) s
      rw [h.2, Nat.add_zero, Nat.mul_comm] at h3
      omega
    have h2 : stp9 n p s = (n - p) / s := by
      apply lt_same
      intro k
      rw [stp9_lt hs]
      constructor
      · intro h4
        rcases Nat.lt_or_ge k ((n - p) / s) with h5 | h5
        · exact h5
        · have := Nat.mul_le_mul_right s h5
          omega
      · intro h4
        have := Nat.mul_lt_mul_of_pos_right h4 hs
        omega
    rw [if_pos (decide_eq_true h), h2]
    constructor
    · intro h4
      rcases Nat.lt_or_ge i ((n - p) / s + 1) with h5 | h5
      · exact h5
      · have := Nat.mul_lt_mul_of_pos_right (show (n - p) / s < i by omega) hs
        omega
    · intro h4
      have := Nat.mul_le_mul_right s (show i ≤ (n - p) / s by omega)
      omega
  · rw [if_neg (by simpa using h)]
    show _ ↔ i < stp9 n p s
    rw [stp9_lt hs]
    constructor
    · intro h4
      rcases Nat.lt_or_ge (p + i * s) n with h5 | h5
      · exact h5
      · exact absurd ⟨by omega, by rw [show n - p = i * s by omega]; exact Nat.mul_mod_left _ _⟩ h
    · omega
theorem cnt9_tkb {g : Nat → Nat} (hg : wfg g) (q : Nat × Nat) : ∀ n, cnt9 (fun i => tkb g q i) n = stp9 n q.2 (g q.1) := by
  intro n
  have hs : 0 < g q.1 := by have := (hg q.1).1; omega
  induction n with
  | zero =>
    apply lt_same
    intro i
    rw [stp9_lt hs]
    simp only [cnt9]
    omega
  | succ n ih => rw [stp9_s hs, ← ih]; rfl
/-- the first place from a on of phase p and gap s -/
def frm (p s a : Nat) : Nat := if a ≤ p then p else p + (a - p + s - 1) / s * s
theorem frm_ge {p s a : Nat} (hs : 0 < s) : a ≤ frm p s a := by
  unfold frm
  split
  · assumption
  · have h1 := Nat.div_add_mod (a - p + s - 1) s
    have h2 := Nat.mod_lt (a - p + s - 1) hs
    rw [Nat.mul_comm] at h1
    omega
theorem frm_lt {p s a : Nat} (hs : 0 < s) (ha : p < a) : frm p s a < a + s := by
  unfold frm
  rw [if_neg (by omega)]
  have h1 := Nat.div_add_mod (a - p + s - 1) s
  rw [Nat.mul_comm] at h1
  omega
theorem frm_on {p s a : Nat} : ∃ j, frm p s a = p + j * s := by
  unfold frm
  split
  · exact ⟨0, by omega⟩
  · exact ⟨_, rfl⟩
theorem frm_le {p s a j : Nat} (hs : 0 < s) (h : a ≤ p + j * s) : frm p s a ≤ p + j * s := by
  rcases Nat.lt_or_ge p a with h1 | h1
  · obtain ⟨k, hk⟩ := frm_on (p := p) (s := s) (a := a)
    have h2 := frm_lt hs h1
    rw [hk] at h2 ⊢
    rcases Nat.lt_or_ge j k with h3 | h3
    · have h4 := Nat.mul_le_mul_right s (show j + 1 ≤ k from h3)
      rw [Nat.add_mul] at h4
      omega
    · have h4 := Nat.mul_le_mul_right s h3
      omega
  · unfold frm
    rw [if_pos h1]
    omega
theorem fst9_frm {g : Nat → Nat} (hg : wfg g) (q : Nat × Nat) {a n : Nat} : fst9 (fun i => tkb g q i) a n = if frm q.2 (g q.1) a < a + n then some (frm q.2 (g q.1) a) else none := by
  have hs : 0 < g q.1 := by have := (hg q.1).1; omega
  have hlo : ∀ i, a ≤ i → i < frm q.2 (g q.1) a → tkb g q i = false := by
    intro i h1 h2
    cases h3 : tkb g q i with
    | false => rfl
    | true =>
      obtain ⟨j, hj⟩ := tkb_iff.mp h3
      have := frm_le (p := q.2) (s := g q.1) (a := a) (j := j) hs (by omega)
      omega
  split
  · rename_i h1
    exact fst9_of (frm_ge hs) h1 (tkb_iff.mpr frm_on) hlo
  · rename_i h1
    exact fst9_of_none (fun i h2 h3 => hlo i h2 (by omega))
/-- the last place below n -/
def lst (p s n : Nat) : Nat := p + (n - 1 - p) / s * s
theorem lst_lt {p s n : Nat} (hp : p < n) : lst p s n < n := by
  unfold lst
  have h1 := Nat.div_mul_le_self (n - 1 - p) s
  omega
theorem lst_gt {p s n : Nat} (hs : 0 < s) : n ≤ lst p s n + s := by
  unfold lst
  have h1 := Nat.div_add_mod (n - 1 - p) s
  have h2 := Nat.mod_lt (n - 1 - p) hs
  rw [Nat.mul_comm] at h1
  omega
theorem lst9_of {P : Nat → Bool} {n j : Nat} (h1 : j < n) (h2 : P j = true) (h3 : ∀ i, j < i → i < n → P i = false) : lst9 P n = some j := by
  cases h : lst9 P n with
  | none => rw [lst9_none h j h1] at h2; cases h2
  | some k =>
    obtain ⟨k1, k2, k3⟩ := lst9_some h
    rcases Nat.lt_trichotomy k j with h5 | h5 | h5
    · rw [k3 j h5 h1] at h2; cases h2
    · rw [h5]
    · rw [h3 k h5 k1] at k2; cases k2
theorem lst9_tkb {g : Nat → Nat} (hg : wfg g) (q : Nat × Nat) {n : Nat} (hq : q.2 < n) : lst9 (fun i => tkb g q i) n = some (lst q.2 (g q.1) n) := by
  have hs : 0 < g q.1 := by have := (hg q.1).1; omega
  refine lst9_of (lst_lt hq) (tkb_iff.mpr ⟨_, rfl⟩) (fun i h1 h2 => ?_)
  cases h3 : tkb g q i with
  | false => rfl
  | true =>
    obtain ⟨j, hj⟩ := tkb_iff.mp h3
    have h4 := lst_gt (p := q.2) (s := g q.1) (n := n) hs
    unfold lst at h1 h4
    rcases Nat.lt_or_ge ((n - 1 - q.2) / g q.1) j with h5 | h5
    · have h6 := Nat.mul_le_mul_right (g q.1) (show (n - 1 - q.2) / g q.1 + 1 ≤ j from h5)
      rw [Nat.add_mul] at h6
      omega
    · have h6 := Nat.mul_le_mul_right (g q.1) h5
      omega
section RopeOps
variable {g : Nat → Nat} {h : PH} {r len : Nat} {L : List (Nat × Nat)}
def whyA (g : Nat → Nat) (len : Nat) (L : List (Nat × Nat)) (u p : Nat) : Nat := if (phs L u).isSome = true then 1 else if len ≤ p then 2 else if (fst9 (fun i => decide (¬ col g L (p + i * g u) = none)) 0 (stp9 len p (g u))).isSome = true then 3 else 0
theorem R_length (H : repR g h r len L) : f_X2_length h r = some (nI len) := by
  obtain ⟨cf, off, H1, -, -⟩ := H
  exact X2_length H1
theorem R_hueCount (H : repR g h r len L) : f_X2_hueCount h r = some (nI L.length) := by
  obtain ⟨cf, off, H1, -, -⟩ := H
  exact X2_hueCount H1
theorem R_colourAt (W : wfR g len L) (H : repR g h r len L) {i : Nat} (hi : i < len) : f_X2_colourAt h r (nI i) = some (oI (col g L i)) := by
  obtain ⟨cf, off, H1, -, H3⟩ := H
  rw [X2_colourAt H1 W.1.2 hi, H3 i hi]
theorem R_hueAt (W : wfR g len L) (H : repR g h r len L) {k : Nat} {q : Nat × Nat} (hk : L[k]? = some q) : f_X2_hueAt h r (nI k) = some (nI q.1) := by
  obtain ⟨cf, off, H1, H2, -⟩ := H
  obtain ⟨hk2, -⟩ := List.getElem?_eq_some_iff.mp hk
  rw [X2_hueAt H1 W.le8 hk2, H2 k q hk]
theorem ixo_eq (W : wfR g len L) {off : Nat → Int32} (ho : ∀ k q, L[k]? = some q → off k = nI q.1) {u : Nat} (hu : u < 2 ^ 31) : fst9 (fun k => decide (off k = nI u)) 0 L.length = ixo L u :=
  fst9_congr (fun i _ h2 => off_eq W ho hu (by omega))
theorem R_orderOf (W : wfR g len L) (H : repR g h r len L) {u : Nat} (hu : u < 2 ^ 31) : f_X2_orderOf h r (nI u) = some (oI (ixo L u)) := by
  obtain ⟨cf, off, H1, H2, -⟩ := H
  rw [X2_orderOf H1 W.le8, ixo_eq W H2 hu]
theorem col_tkb (W : wfR g len L) {q : Nat × Nat} (hq : q ∈ L) {i : Nat} (hi : i < len) : decide (col g L i = some q.1) = tkb g q i := by
  have h1 := W.col_iff hq hi
  cases h2 : tkb g q i with
  | true => exact decide_eq_true (h1.mpr h2)
  | false => exact decide_eq_false (fun q9 => by rw [h1.mp q9] at h2; cases h2)
theorem R_firstFrom (hg : wfg g) (W : wfR g len L) (H : repR g h r len L) {q : Nat × Nat} (hq : q ∈ L) {a : Nat} (ha : a ≤ len) : f_X2_firstFrom h r (nI q.1) (nI a) = some (oI (if frm q.2 (g q.1) a < len then some (frm q.2 (g q.1) a) else none)) := by
  obtain ⟨cf, off, H1, -, H3⟩ := H
  have hu := (W.2.2.1 q hq).1
  rw [X2_firstFrom H1 W.1.2 _ ha, fst9_congr (fun i h1 h2 => (cf_eq W H3 (u := q.1) (by omega) (i := i) (by omega)).trans (col_tkb W hq (by omega))), fst9_frm hg, show a + (len - a) = len by omega]
theorem R_first0 (hg : wfg g) (W : wfR g len L) (H : repR g h r len L) {q : Nat × Nat} (hq : q ∈ L) : f_X2_firstFrom h r (nI q.1) 0 = some (nI q.2) := by
  have h1 := R_firstFrom hg W H hq (a := 0) (Nat.zero_le _)
  have h2 : frm q.2 (g q.1) 0 = q.2 := if_pos (Nat.zero_le _)
  rw [h2, if_pos (W.2.2.1 q hq).2.1] at h1
  exact h1
theorem R_lastOf (hg : wfg g) (W : wfR g len L) (H : repR g h r len L) {q : Nat × Nat} (hq : q ∈ L) : f_X2_lastOf h r (nI q.1) = some (nI (lst q.2 (g q.1) len)) := by
  obtain ⟨cf, off, H1, -, H3⟩ := H
  have hu := (W.2.2.1 q hq).1
  rw [X2_lastOf H1 W.1.2, lst9_congr (fun i h2 => (cf_eq W H3 (u := q.1) (by omega) (i := i) h2).trans (col_tkb W hq h2)), lst9_tkb hg q (W.2.2.1 q hq).2.1]
  rfl
theorem R_placesOf (hg : wfg g) (W : wfR g len L) (H : repR g h r len L) {q : Nat × Nat} (hq : q ∈ L) : f_X2_placesOf h r (nI q.1) = some (nI (stp9 len q.2 (g q.1))) := by
  obtain ⟨cf, off, H1, -, H3⟩ := H
  have hu := (W.2.2.1 q hq).1
  rw [X2_placesOf H1 W.1.2, cnt9_congr (fun i h2 => (cf_eq W H3 (u := q.1) (by omega) (i := i) h2).trans (col_tkb W hq h2)), cnt9_tkb hg q]
theorem R_holes (W : wfR g len L) (H : repR g h r len L) : f_X2_placesOf h r (-1) = some (nI (cnt9 (fun i => decide (col g L i = none)) len)) := by
  obtain ⟨cf, off, H1, -, H3⟩ := H
  rw [X2_placesOf H1 W.1.2, cnt9_congr (fun i h2 => cf_eq0 W H3 h2)]
theorem R_firstHole (W : wfR g len L) (H : repR g h r len L) : f_X2_firstFrom h r (-1) 0 = some (oI (fst9 (fun i => decide (col g L i = none)) 0 len)) := by
  obtain ⟨cf, off, H1, -, H3⟩ := H
  have h1 := X2_firstFrom H1 W.1.2 (-1) (a := 0) (Nat.zero_le _)
  rw [Nat.sub_zero, fst9_congr (fun i _ h2 => cf_eq0 W H3 (by omega))] at h1
  exact h1
theorem R_placesFrom (hg : wfg g) (W : wfR g len L) (H : repR g h r len L) {u p : Nat} (hp : p ≤ 100) : f_X2_placesFrom h r (nI p) (nI (g u)) = some (nI (stp9 len p (g u))) := by
  obtain ⟨cf, off, H1, -, H3⟩ := H
  have := hg u
  exact X2_placesFrom H1 W.1.2 hp (by omega) (by omega)
theorem whyC_eq (hg : wfg g) (W : wfR g len L) {cf off : Nat → Int32} (H2 : ∀ k q, L[k]? = some q → off k = nI q.1) (H3 : ∀ i, i < len → cf i = oI (col g L i)) {u : Nat} (hu : u < 2 ^ 31) (p : Nat) : whyC len L.length cf off (nI u) p (g u) = whyA g len L u p := by
  have hs : 0 < g u := by have := (hg u).1; omega
  unfold whyC whyA
  rw [ixo_eq W H2 hu, fst9_congr (P := fun i => decide (¬ cf (p + i * g u) = -1)) (Q := fun i => decide (¬ col g L (p + i * g u) = none)) (fun i _ h2 => ?_)]
  · have h4 : (ixo L u).isSome = (phs L u).isSome := by
      have h5 := ixo_none (L := L) (u := u)
      cases h6 : ixo L u with
      | none => rw [h5.mp h6]
      | some k =>
        cases h7 : phs L u with
        | none => rw [h5.mpr h7] at h6; cases h6
        | some p => rfl
    rw [h4]
  · have h4 : p + i * g u < len := (stp9_lt hs).mp (by omega)
    have h5 := cf_eq0 W H3 h4
    rw [decide_eq_decide] at h5
    simp only [h5]
theorem R_reasonAgainst (hg : wfg g) (W : wfR g len L) (H : repR g h r len L) {u p : Nat} (hu : u < 2 ^ 31) (hp : p ≤ 100) : f_X2_reasonAgainst h r (nI u) (nI p) (nI (g u)) = some (nI (whyA g len L u p)) := by
  obtain ⟨cf, off, H1, H2, H3⟩ := H
  have := hg u
  rw [X2_reasonAgainst H1 W.1.2 W.le8 _ hp (by omega) (by omega), whyC_eq hg W H2 H3 hu]
end RopeOps
