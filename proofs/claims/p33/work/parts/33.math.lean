/-! PURE READING, 4: ropes as mathematics. A rope is its length and a row of (hue, phase) in the order of laying; g is the gap of each hue. -/
def wfg (g : Nat → Nat) : Prop := ∀ u, 2 ≤ g u ∧ g u ≤ 20
def tkb (g : Nat → Nat) (q : Nat × Nat) (i : Nat) : Bool := decide (q.2 ≤ i ∧ (i - q.2) % g q.1 = 0)
def col (g : Nat → Nat) (L : List (Nat × Nat)) (i : Nat) : Option Nat := (L.find? (fun q => tkb g q i)).map Prod.fst
def phs (L : List (Nat × Nat)) (u : Nat) : Option Nat := (L.find? (fun q => decide (q.1 = u))).map Prod.snd
def ixo (L : List (Nat × Nat)) (u : Nat) : Option Nat := fst9 (fun k => decide (L[k]?.map Prod.fst = some u)) 0 L.length
def wfR (g : Nat → Nat) (len : Nat) (L : List (Nat × Nat)) : Prop := (1 ≤ len ∧ len ≤ 60) ∧ (L.map Prod.fst).Nodup ∧ (∀ q ∈ L, q.1 < 8 ∧ q.2 < len ∧ q.2 < g q.1) ∧ ∀ q ∈ L, ∀ q' ∈ L, ∀ i, i < len → tkb g q i = true → tkb g q' i = true → q = q'
theorem nodup_fst {L : List (Nat × Nat)} (h : (L.map Prod.fst).Nodup) : ∀ q ∈ L, ∀ q' ∈ L, q.1 = q'.1 → q = q' := by
  induction L with
  | nil => intro q hq; cases hq
  | cons a L ih =>
    rw [List.map_cons, List.nodup_cons] at h
    intro q hq q' hq' he
    rcases List.mem_cons.mp hq with h1 | h1 <;> rcases List.mem_cons.mp hq' with h2 | h2
    · rw [h1, h2]
    · exact absurd (List.mem_map.mpr ⟨q', h2, by rw [← he, h1]⟩) h.1
    · exact absurd (List.mem_map.mpr ⟨q, h1, by rw [he, h2]⟩) h.1
    · exact ih h.2 q h1 q' h2 he
theorem phs_of {L : List (Nat × Nat)} (h : (L.map Prod.fst).Nodup) {u p : Nat} (hm : (u, p) ∈ L) : phs L u = some p := by
  unfold phs
  cases hf : L.find? (fun q => decide (q.1 = u)) with
  | none =>
    have := List.find?_eq_none.mp hf (u, p) hm
    simp at this
  | some q =>
    have h1 := List.mem_of_find?_eq_some hf
    have h2 : q.1 = u := by simpa using List.find?_some hf
    rw [nodup_fst h q h1 (u, p) hm h2]
    rfl
theorem phs_mem {L : List (Nat × Nat)} {u p : Nat} (h : phs L u = some p) : (u, p) ∈ L := by
  unfold phs at h
  cases hf : L.find? (fun q => decide (q.1 = u)) with
  | none => rw [hf] at h; cases h
  | some q =>
    rw [hf] at h
    have h1 := List.mem_of_find?_eq_some hf
    have h2 : q.1 = u := by simpa using List.find?_some hf
    cases h
    rw [← h2]
    exact h1
theorem phs_none {L : List (Nat × Nat)} {u : Nat} : phs L u = none ↔ ∀ q ∈ L, q.1 ≠ u := by
  unfold phs
  rw [Option.map_eq_none_iff, List.find?_eq_none]
  simp
theorem col_none {g : Nat → Nat} {L : List (Nat × Nat)} {i : Nat} : col g L i = none ↔ ∀ q ∈ L, tkb g q i = false := by
  unfold col
  rw [Option.map_eq_none_iff, List.find?_eq_none]
  simp
theorem col_mem {g : Nat → Nat} {L : List (Nat × Nat)} {i u : Nat} (h : col g L i = some u) : ∃ p, (u, p) ∈ L ∧ tkb g (u, p) i = true := by
  unfold col at h
  cases hf : L.find? (fun q => tkb g q i) with
  | none => rw [hf] at h; cases h
  | some q =>
    rw [hf] at h
    cases h
    have h9 : tkb g q i = true := List.find?_some (p := fun q => tkb g q i) hf
    exact ⟨q.2, List.mem_of_find?_eq_some hf, h9⟩
theorem wfR.col_of {g : Nat → Nat} {len : Nat} {L : List (Nat × Nat)} (W : wfR g len L) {q : Nat × Nat} (hq : q ∈ L) {i : Nat} (hi : i < len) (ht : tkb g q i = true) : col g L i = some q.1 := by
  cases h : col g L i with
  | none => rw [col_none.mp h q hq] at ht; cases ht
  | some u =>
    obtain ⟨p, h1, h2⟩ := col_mem h
    rw [W.2.2.2 q hq (u, p) h1 i hi ht h2]
theorem wfR.col_iff {g : Nat → Nat} {len : Nat} {L : List (Nat × Nat)} (W : wfR g len L) {q : Nat × Nat} (hq : q ∈ L) {i : Nat} (hi : i < len) : col g L i = some q.1 ↔ tkb g q i = true := by
  refine ⟨fun h => ?_, W.col_of hq hi⟩
  obtain ⟨p, h1, h2⟩ := col_mem h
  rw [nodup_fst W.2.1 q hq (q.1, p) h1 rfl]
  exact h2
theorem col_lt {g : Nat → Nat} {len : Nat} {L : List (Nat × Nat)} (W : wfR g len L) {i u : Nat} (h : col g L i = some u) : u < 8 := by
  obtain ⟨p, h1, _⟩ := col_mem h
  exact (W.2.2.1 _ h1).1
theorem wfR.le8 {g : Nat → Nat} {len : Nat} {L : List (Nat × Nat)} (W : wfR g len L) : L.length ≤ 8 := by
  have h1 : (L.map Prod.fst) ⊆ List.range 8 := by
    intro u hu
    obtain ⟨q, hq, rfl⟩ := List.mem_map.mp hu
    exact List.mem_range.mpr (W.2.2.1 q hq).1
  have h2 := List.Nodup.length_le_of_subset W.2.1 h1
  rw [List.length_map, List.length_range] at h2
  exact h2
theorem wfR.sub {g : Nat → Nat} {len : Nat} {L M : List (Nat × Nat)} (W : wfR g len L) (h : M.Sublist L) : wfR g len M :=
  ⟨W.1, W.2.1.sublist (h.map _), fun q hq => W.2.2.1 q (h.subset hq), fun q hq q' hq' => W.2.2.2 q (h.subset hq) q' (h.subset hq')⟩
/-- the class's Rope at r is the rope (len, L) -/
def repR (g : Nat → Nat) (h : PH) (r len : Nat) (L : List (Nat × Nat)) : Prop := ∃ cf off, cR h r len L.length cf off ∧ (∀ k q, L[k]? = some q → off k = nI q.1) ∧ ∀ i, i < len → cf i = oI (col g L i)
theorem nI_same {a b : Nat} (ha : a < 2 ^ 31) (hb : b < 2 ^ 31) (h : nI a = nI b) : a = b := by
  have h1 := congrArg Int32.toNatClampNeg h
  rw [nI_clamp ha, nI_clamp hb] at h1
  exact h1
theorem oI_inj {x y : Option Nat} (hx : ∀ n, x = some n → n < 2 ^ 31) (hy : ∀ n, y = some n → n < 2 ^ 31) : oI x = oI y ↔ x = y := by
  refine ⟨fun h => ?_, fun h => by rw [h]⟩
  cases x with
  | none =>
    cases y with
    | none => rfl
    | some m => exact absurd h.symm (nI_ne_m1 (hy m rfl))
  | some n =>
    cases y with
    | none => exact absurd h (nI_ne_m1 (hx n rfl))
    | some m =>
      have h1 := hx n rfl
      have h2 := hy m rfl
      have h3 : nI n = nI m := h
      rw [nI_same h1 h2 h3]
section RopeMath
variable {g : Nat → Nat} {h : PH} {r len : Nat} {L : List (Nat × Nat)}
theorem off_eq (W : wfR g len L) {off : Nat → Int32} (ho : ∀ k q, L[k]? = some q → off k = nI q.1) {u : Nat} (hu : u < 2 ^ 31) {k : Nat} (hk : k < L.length) : decide (off k = nI u) = decide (L[k]?.map Prod.fst = some u) := by
  have h1 : L[k]? = some L[k] := List.getElem?_eq_getElem hk
  rw [ho k _ h1, h1]
  have h2 := (W.2.2.1 _ (List.getElem_mem hk)).1
  by_cases h3 : L[k].1 = u
  · simp [h3]
  · have h4 : ¬ nI L[k].1 = nI u := fun q => h3 (nI_same (by omega) hu q)
    simp [h3, h4]
theorem cf_eq (W : wfR g len L) {cf : Nat → Int32} (hc : ∀ i, i < len → cf i = oI (col g L i)) {u : Nat} (hu : u < 2 ^ 31) {i : Nat} (hi : i < len) : decide (cf i = nI u) = decide (col g L i = some u) := by
  rw [hc i hi]
  have h1 := oI_inj (x := col g L i) (y := some u) (fun n hn => by have := col_lt W hn; omega) (fun n hn => by cases hn; exact hu)
  have h2 : (oI (col g L i) = nI u) ↔ (col g L i = some u) := h1
  simp only [h2]
theorem cf_eq0 (W : wfR g len L) {cf : Nat → Int32} (hc : ∀ i, i < len → cf i = oI (col g L i)) {i : Nat} (hi : i < len) : decide (cf i = -1) = decide (col g L i = none) := by
  rw [hc i hi]
  have h1 := oI_m1 (x := col g L i) (fun n hn => by have := col_lt W hn; omega)
  simp only [h1]
theorem ixo_none {u : Nat} : ixo L u = none ↔ phs L u = none := by
  rw [phs_none]
  constructor
  · intro h1 q hq he
    obtain ⟨k, hk, rfl⟩ := List.getElem_of_mem hq
    have h2 := fst9_none h1 k (Nat.zero_le _) (by omega)
    rw [List.getElem?_eq_getElem hk] at h2
    simp [he] at h2
  · intro h1
    refine fst9_of_none (fun i _ hi => ?_)
    have hk : i < L.length := by omega
    rw [List.getElem?_eq_getElem hk]
    have := h1 _ (List.getElem_mem hk)
    simp [this]
theorem ixo_some {u k : Nat} (h1 : ixo L u = some k) : ∃ p, L[k]? = some (u, p) := by
  obtain ⟨-, h2, h3, -⟩ := fst9_some h1
  have hk : k < L.length := by omega
  rw [List.getElem?_eq_getElem hk] at h3 ⊢
  have : L[k].1 = u := by simpa using h3
  exact ⟨L[k].2, by rw [← this]⟩
theorem ixo_of (W : wfR g len L) {u p k : Nat} (h1 : L[k]? = some (u, p)) : ixo L u = some k := by
  obtain ⟨hk, h2⟩ := List.getElem?_eq_some_iff.mp h1
  refine fst9_of (Nat.zero_le _) (by omega) (by simp [h1]) (fun i _ hi => ?_)
  have hi2 : i < L.length := by omega
  rw [List.getElem?_eq_getElem hi2]
  have hn : ¬ L[i].1 = u := fun q => by
    have h3 : L[i] = L[k] := nodup_fst W.2.1 _ (List.getElem_mem hi2) _ (List.getElem_mem hk) (by rw [q, h2])
    have h4 : (L.map Prod.fst)[i]'(by rw [List.length_map]; exact hi2) = (L.map Prod.fst)[k]'(by rw [List.length_map]; exact hk) := by simp [h3]
    exact List.pairwise_iff_getElem.mp W.2.1 i k (by rw [List.length_map]; exact hi2) (by rw [List.length_map]; exact hk) hi h4
  simp [hn]
end RopeMath
