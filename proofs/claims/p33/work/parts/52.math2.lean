/-! PURE READING, 21: stretched, cut, turned, joined ropes as mathematics -/
def cntT (g : Nat → Nat) (L : List (Nat × Nat)) (i : Nat) : Nat := (L.filter (fun q => tkb g q i)).length
def clashA (g : Nat → Nat) (L : List (Nat × Nat)) : Nat := (fst9 (fun i => decide (2 ≤ cntT g L i)) 0 60).getD 60
theorem le1_of_same {α : Type} : ∀ {l : List α}, l.Nodup → (∀ a ∈ l, ∀ b ∈ l, a = b) → l.length ≤ 1 := by
  intro l
  match l with
  | [] => intro _ _; exact Nat.zero_le _
  | [a] => intro _ _; exact Nat.le_refl _
  | a :: b :: t =>
    intro h1 h2
    have h3 := h2 a (List.mem_cons_self) b (List.mem_cons_of_mem _ List.mem_cons_self)
    rw [List.nodup_cons] at h1
    exact absurd (by rw [h3]; exact List.mem_cons_self) h1.1
theorem same_of_le1 {α : Type} {l : List α} (h : l.length ≤ 1) {a b : α} (ha : a ∈ l) (hb : b ∈ l) : a = b := by
  match l, h with
  | [], _ => cases ha
  | [c], _ => rw [List.mem_singleton.mp ha, List.mem_singleton.mp hb]
theorem nodup_of_map {L : List (Nat × Nat)} (h : (L.map Prod.fst).Nodup) : L.Nodup := by
  induction L with
  | nil => exact List.nodup_nil
  | cons a L ih =>
    rw [List.map_cons, List.nodup_cons] at h
    rw [List.nodup_cons]
    exact ⟨fun q => h.1 (List.mem_map_of_mem q), ih h.2⟩
theorem cntT_le {g : Nat → Nat} {len : Nat} {L : List (Nat × Nat)} (W : wfR g len L) {i : Nat} (hi : i < len) : cntT g L i ≤ 1 := by
  refine le1_of_same ((nodup_of_map W.2.1).filter _) (fun a ha b hb => ?_)
  obtain ⟨a1, a2⟩ := List.mem_filter.mp ha
  obtain ⟨b1, b2⟩ := List.mem_filter.mp hb
  exact W.2.2.2 a a1 b b1 i hi a2 b2
theorem clash_le (g : Nat → Nat) (L : List (Nat × Nat)) : clashA g L ≤ 60 := by
  unfold clashA
  cases h : fst9 (fun i => decide (2 ≤ cntT g L i)) 0 60 with
  | none => exact Nat.le_refl _
  | some k => have := (fst9_some h).2.1; show k ≤ 60; omega
theorem clash_low {g : Nat → Nat} {L : List (Nat × Nat)} {i : Nat} (h : i < clashA g L) : cntT g L i ≤ 1 := by
  unfold clashA at h
  have h9 : decide (2 ≤ cntT g L i) = false := by
    cases hf : fst9 (fun i => decide (2 ≤ cntT g L i)) 0 60 with
    | none =>
      rw [hf] at h
      have h1 : i < 60 := h
      exact fst9_none hf i (Nat.zero_le _) (by omega)
    | some k =>
      rw [hf] at h
      exact (fst9_some hf).2.2.2 i (Nat.zero_le _) h
  have := of_decide_eq_false h9
  omega
theorem clash_ge {g : Nat → Nat} {L : List (Nat × Nat)} {n : Nat} (hn : n ≤ 60) (h : ∀ i, i < n → cntT g L i ≤ 1) : n ≤ clashA g L := by
  unfold clashA
  cases hf : fst9 (fun i => decide (2 ≤ cntT g L i)) 0 60 with
  | none => exact hn
  | some k =>
    obtain ⟨-, h1, h2, -⟩ := fst9_some hf
    show n ≤ k
    rcases Nat.lt_or_ge k n with q | q
    · have := h k q
      have h3 : 2 ≤ cntT g L k := of_decide_eq_true h2
      omega
    · exact q
theorem clash_len {g : Nat → Nat} {len : Nat} {L : List (Nat × Nat)} (W : wfR g len L) : len ≤ clashA g L := clash_ge W.1.2 (fun _ hi => cntT_le W hi)
theorem clash_from {g : Nat → Nat} {len : Nat} {L : List (Nat × Nat)} (W : wfR g len L) : (fst9 (fun i => decide (2 ≤ cntT g L i)) len (60 - len)).getD 60 = clashA g L := by
  have h60 := W.1.2
  have lo : ∀ i, i < len → decide (2 ≤ cntT g L i) = false := fun i hi => decide_eq_false (by have := cntT_le W hi; omega)
  unfold clashA
  cases hf : fst9 (fun i => decide (2 ≤ cntT g L i)) len (60 - len) with
  | none =>
    rw [fst9_of_none (fun i _ h2 => ?_)]
    rcases Nat.lt_or_ge i len with q | q
    · exact lo i q
    · exact fst9_none hf i q (by omega)
  | some k =>
    obtain ⟨h1, h2, h3, h4⟩ := fst9_some hf
    rw [fst9_of (Nat.zero_le k) (by omega) h3 (fun i _ hi => ?_)]
    rcases Nat.lt_or_ge i len with q | q
    · exact lo i q
    · exact h4 i q hi
/-- the hues that have a place below n -/
def fltA (n : Nat) (L : List (Nat × Nat)) : List (Nat × Nat) := L.filter (fun q => decide (q.2 < n))
theorem wf_flt {g : Nat → Nat} {len : Nat} {L : List (Nat × Nat)} (W : wfR g len L) {n : Nat} (h1 : 1 ≤ n) (h2 : n ≤ 60) (h3 : n ≤ clashA g L) : wfR g n (fltA n L) := by
  refine ⟨⟨h1, h2⟩, W.2.1.sublist (List.filter_sublist.map _), fun q hq => ?_, fun q hq q' hq' i hi t1 t2 => ?_⟩
  · obtain ⟨m1, m2⟩ := List.mem_filter.mp hq
    obtain ⟨a1, a2, a3⟩ := W.2.2.1 q m1
    exact ⟨a1, of_decide_eq_true m2, a3⟩
  · have h4 := clash_low (show i < clashA g L by omega)
    exact same_of_le1 h4 (List.mem_filter.mpr ⟨(List.mem_filter.mp hq).1, t1⟩) (List.mem_filter.mpr ⟨(List.mem_filter.mp hq').1, t2⟩)
/-- a hue of the part behind a place -/
def bkA (g : Nat → Nat) (a len : Nat) (q : Nat × Nat) : Option (Nat × Nat) := if frm q.2 (g q.1) a < len then some (q.1, frm q.2 (g q.1) a - a) else none
theorem bkA_fst {g : Nat → Nat} {a len : Nat} {q q' : Nat × Nat} (h : bkA g a len q = some q') : q'.1 = q.1 := by
  unfold bkA at h
  split at h
  · cases h; rfl
  · cases h
theorem fmap_fst {f : Nat × Nat → Option (Nat × Nat)} (hf : ∀ q q', f q = some q' → q'.1 = q.1) : ∀ L : List (Nat × Nat), ((L.filterMap f).map Prod.fst).Sublist (L.map Prod.fst) := by
  intro L
  induction L with
  | nil => exact List.Sublist.refl _
  | cons a L ih =>
    rw [List.filterMap_cons, List.map_cons]
    cases h : f a with
    | none => exact ih.cons _
    | some b =>
      show ((b :: List.filterMap f L).map Prod.fst).Sublist _
      rw [List.map_cons, hf a b h]
      exact ih.cons₂ _
theorem wf_back {g : Nat → Nat} (hg : wfg g) {len : Nat} {L : List (Nat × Nat)} (W : wfR g len L) {a : Nat} (ha : a < len) : wfR g (len - a) (L.filterMap (bkA g a len)) := by
  have tk : ∀ q q' i, bkA g a len q = some q' → tkb g q' i = true → tkb g q (i + a) = true := by
    intro q q' i h t
    have hs : 0 < g q.1 := by have := (hg q.1).1; omega
    unfold bkA at h
    split at h
    · rename_i h1
      cases h
      obtain ⟨j, hj⟩ := tkb_iff.mp t
      have hj2 : i = frm q.2 (g q.1) a - a + j * g q.1 := hj
      obtain ⟨k, hk⟩ := frm_on (p := q.2) (s := g q.1) (a := a)
      have h2 := frm_ge (p := q.2) (s := g q.1) (a := a) hs
      exact tkb_iff.mpr ⟨k + j, by rw [Nat.add_mul]; omega⟩
    · cases h
  refine ⟨⟨by omega, by have := W.1.2; omega⟩, W.2.1.sublist (fmap_fst (fun q q' => bkA_fst) L), fun q' hq' => ?_, fun q1 hq1 q2 hq2 i hi t1 t2 => ?_⟩
  · obtain ⟨q, hq, h⟩ := List.mem_filterMap.mp hq'
    obtain ⟨a1, a2, a3⟩ := W.2.2.1 q hq
    have hs : 0 < g q.1 := by have := (hg q.1).1; omega
    unfold bkA at h
    split at h
    · rename_i h1
      cases h
      have h2 := frm_ge (p := q.2) (s := g q.1) (a := a) hs
      refine ⟨a1, by show frm q.2 (g q.1) a - a < len - a; omega, ?_⟩
      show frm q.2 (g q.1) a - a < g q.1
      rcases Nat.lt_or_ge q.2 a with h3 | h3
      · have := frm_lt hs h3; omega
      · have h4 : frm q.2 (g q.1) a = q.2 := if_pos h3
        omega
    · cases h
  · obtain ⟨p1, m1, h1⟩ := List.mem_filterMap.mp hq1
    obtain ⟨p2, m2, h2⟩ := List.mem_filterMap.mp hq2
    have e := W.2.2.2 p1 m1 p2 m2 (i + a) (by omega) (tk _ _ _ h1 t1) (tk _ _ _ h2 t2)
    rw [e, h2] at h1
    exact (Option.some.inj h1).symm
/-- a hue of a rope that is turned round -/
def tnA (g : Nat → Nat) (len : Nat) (q : Nat × Nat) : Nat × Nat := (q.1, len - 1 - lst q.2 (g q.1) len)
theorem tn_tkb {g : Nat → Nat} (hg : wfg g) {len : Nat} {q : Nat × Nat} (h1 : q.2 < len) (h2 : q.2 < g q.1) {i : Nat} (hi : i < len) : tkb g (tnA g len q) i = tkb g q (len - 1 - i) := by
  have hs : 0 < g q.1 := by have := (hg q.1).1; omega
  have hl := lst_lt (s := g q.1) h1
  have hg2 := lst_gt (p := q.2) (s := g q.1) (n := len) hs
  obtain ⟨K, hK⟩ : ∃ K, lst q.2 (g q.1) len = q.2 + K * g q.1 := ⟨_, rfl⟩
  have key : tkb g (tnA g len q) i = true ↔ tkb g q (len - 1 - i) = true := by
    rw [tkb_iff, tkb_iff]
    constructor
    · rintro ⟨j, hj⟩
      have hj2 : i = len - 1 - lst q.2 (g q.1) len + j * g q.1 := hj
      refine ⟨K - j, ?_⟩
      have h3 : j ≤ K := by
        rcases Nat.lt_or_ge K j with c | c
        · have := Nat.mul_le_mul_right (g q.1) (show K + 1 ≤ j from c)
          rw [Nat.add_mul] at this
          omega
        · exact c
      have h4 := Nat.mul_le_mul_right (g q.1) h3
      rw [Nat.sub_mul]
      omega
    · rintro ⟨j, hj⟩
      refine ⟨K - j, ?_⟩
      show i = len - 1 - lst q.2 (g q.1) len + (K - j) * g q.1
      have h3 : j ≤ K := by
        rcases Nat.lt_or_ge K j with c | c
        · have := Nat.mul_le_mul_right (g q.1) (show K + 1 ≤ j from c)
          rw [Nat.add_mul] at this
          omega
        · exact c
      have h4 := Nat.mul_le_mul_right (g q.1) h3
      rw [Nat.sub_mul]
      omega
  cases h5 : tkb g (tnA g len q) i with
  | true => exact (key.mp h5).symm
  | false =>
    cases h6 : tkb g q (len - 1 - i) with
    | false => rfl
    | true => rw [key.mpr h6] at h5; cases h5
theorem wf_turn {g : Nat → Nat} (hg : wfg g) {len : Nat} {L : List (Nat × Nat)} (W : wfR g len L) : wfR g len (L.map (tnA g len)) := by
  refine ⟨W.1, ?_, fun q' hq' => ?_, fun q1 hq1 q2 hq2 i hi t1 t2 => ?_⟩
  · rw [List.map_map]
    exact W.2.1
  · obtain ⟨q, hq, rfl⟩ := List.mem_map.mp hq'
    obtain ⟨a1, a2, a3⟩ := W.2.2.1 q hq
    have hs : 0 < g q.1 := by have := (hg q.1).1; omega
    have hg2 := lst_gt (p := q.2) (s := g q.1) (n := len) hs
    refine ⟨a1, ?_, ?_⟩
    · show len - 1 - lst q.2 (g q.1) len < len; omega
    · show len - 1 - lst q.2 (g q.1) len < g q.1; omega
  · obtain ⟨p1, m1, rfl⟩ := List.mem_map.mp hq1
    obtain ⟨p2, m2, rfl⟩ := List.mem_map.mp hq2
    obtain ⟨a1, a2, a3⟩ := W.2.2.1 p1 m1
    obtain ⟨b1, b2, b3⟩ := W.2.2.1 p2 m2
    rw [tn_tkb hg a2 a3 hi] at t1
    rw [tn_tkb hg b2 b3 hi] at t2
    rw [W.2.2.2 p1 m1 p2 m2 (len - 1 - i) (by omega) t1 t2]
theorem find_congr {P Q : Nat × Nat → Bool} : ∀ {L : List (Nat × Nat)}, (∀ q ∈ L, P q = Q q) → L.find? P = L.find? Q := by
  intro L
  induction L with
  | nil => intro _; rfl
  | cons a L ih =>
    intro h
    rw [List.find?_cons, List.find?_cons, h a List.mem_cons_self, ih (fun q hq => h q (List.mem_cons_of_mem _ hq))]
theorem col_turn {g : Nat → Nat} (hg : wfg g) {len : Nat} {L : List (Nat × Nat)} (W : wfR g len L) {i : Nat} (hi : i < len) : col g (L.map (tnA g len)) i = col g L (len - 1 - i) := by
  unfold col
  rw [List.find?_map, find_congr (P := (fun q => tkb g q i) ∘ tnA g len) (Q := fun q => tkb g q (len - 1 - i)) (fun q hq => ?_)]
  · cases List.find? (fun q => tkb g q (len - 1 - i)) L with
    | none => rfl
    | some q => rfl
  · obtain ⟨a1, a2, a3⟩ := W.2.2.1 q hq
    exact tn_tkb hg a2 a3 hi
/-- the hues of two ropes that are joined -/
def jnA (g : Nat → Nat) (la : Nat) (La Lb : List (Nat × Nat)) : List (Nat × Nat) := La ++ (Lb.filter (fun q => decide (phs La q.1 = none))).map (fun q => (q.1, (la + q.2) % g q.1))
/-- some hue that both have doesn't come back at its gap where they meet -/
def disA (g : Nat → Nat) (la : Nat) (La Lb : List (Nat × Nat)) (q : Nat × Nat) : Bool := match phs Lb q.1 with
  | none => false
  | some p => decide (¬ q.2 = (la + p) % g q.1)
def rjA (g : Nat → Nat) (la lb : Nat) (La Lb : List (Nat × Nat)) : Nat := if 60 < la + lb then 2 else if La.any (disA g la La Lb) = true then 3 else if clashA g (jnA g la La Lb) < la + lb then 4 else 0
theorem mod_win {a b s : Nat} (hab : a ≤ b) (h1 : b < a + s) (h : a % s = b % s) : a = b := by
  have h2 := Nat.div_add_mod a s
  have h3 := Nat.div_add_mod b s
  rcases Nat.lt_or_ge (a / s) (b / s) with c | c
  · have h4 := Nat.mul_le_mul_left s (show a / s + 1 ≤ b / s from c)
    rw [Nat.mul_add] at h4
    omega
  · have h4 := Nat.mul_le_mul_left s c
    omega
theorem join_meet {s la pa pb : Nat} (hs : 0 < s) (h1 : pa < la) (h2 : pa < s) (h3 : pb < s) : lst pa s la + s = la + pb ↔ pa = (la + pb) % s := by
  have hl := lst_lt (s := s) h1
  have hg2 := lst_gt (p := pa) (s := s) (n := la) hs
  obtain ⟨K, hK⟩ : ∃ K, lst pa s la = pa + K * s := ⟨_, rfl⟩
  have h4 : (lst pa s la + s) % s = pa := by
    rw [Nat.add_mod_right, hK, Nat.add_mul_mod_self_right, Nat.mod_eq_of_lt h2]
  constructor
  · intro h
    rw [← h, h4]
  · intro h
    rcases Nat.le_total (lst pa s la + s) (la + pb) with c | c
    · exact mod_win (s := s) c (by omega) (by rw [h4]; exact h)
    · exact (mod_win (s := s) c (by omega) (by rw [h4]; exact h.symm)).symm
theorem jn_mem {g : Nat → Nat} {la : Nat} {La Lb : List (Nat × Nat)} {q : Nat × Nat} (h : q ∈ jnA g la La Lb) : q ∈ La ∨ ∃ q' ∈ Lb, phs La q'.1 = none ∧ q = (q'.1, (la + q'.2) % g q'.1) := by
  rcases List.mem_append.mp h with h1 | h1
  · exact Or.inl h1
  · obtain ⟨q', hq', rfl⟩ := List.mem_map.mp h1
    obtain ⟨m1, m2⟩ := List.mem_filter.mp hq'
    exact Or.inr ⟨q', m1, of_decide_eq_true m2, rfl⟩
theorem jn_nodup {g : Nat → Nat} {la lb : Nat} {La Lb : List (Nat × Nat)} (Wa : wfR g la La) (Wb : wfR g lb Lb) : ((jnA g la La Lb).map Prod.fst).Nodup := by
  unfold jnA
  rw [List.map_append, List.nodup_append, List.map_map]
  refine ⟨Wa.2.1, Wb.2.1.sublist (List.filter_sublist.map _), fun a ha b hb => ?_⟩
  obtain ⟨q, hq, rfl⟩ := List.mem_map.mp ha
  obtain ⟨q', hq', rfl⟩ := List.mem_map.mp hb
  exact phs_none.mp (of_decide_eq_true (List.mem_filter.mp hq').2) q hq
theorem jn_each {g : Nat → Nat} (hg : wfg g) {la lb : Nat} {La Lb : List (Nat × Nat)} (Wa : wfR g la La) (Wb : wfR g lb Lb) {q : Nat × Nat} (h : q ∈ jnA g la La Lb) : q.1 < 8 ∧ q.2 < la + lb ∧ q.2 < g q.1 := by
  rcases jn_mem h with h1 | ⟨q', h1, h2, rfl⟩
  · obtain ⟨a1, a2, a3⟩ := Wa.2.2.1 q h1
    exact ⟨a1, by omega, a3⟩
  · obtain ⟨a1, a2, a3⟩ := Wb.2.2.1 q' h1
    have hs : 0 < g q'.1 := by have := (hg q'.1).1; omega
    have h3 := Nat.mod_le (la + q'.2) (g q'.1)
    refine ⟨a1, ?_, Nat.mod_lt _ hs⟩
    show (la + q'.2) % g q'.1 < la + lb
    omega
theorem wf_join {g : Nat → Nat} (hg : wfg g) {la lb : Nat} {La Lb : List (Nat × Nat)} (Wa : wfR g la La) (Wb : wfR g lb Lb) (h : rjA g la lb La Lb = 0) : wfR g (la + lb) (jnA g la La Lb) := by
  unfold rjA at h
  split at h
  · omega
  · rename_i h1
    split at h
    · omega
    · split at h
      · omega
      · rename_i h3
        refine ⟨⟨by have := Wa.1.1; omega, by omega⟩, jn_nodup Wa Wb, fun q hq => jn_each hg Wa Wb hq, fun q hq q' hq' i hi t1 t2 => ?_⟩
        have h4 := clash_low (show i < clashA g (jnA g la La Lb) by omega)
        exact same_of_le1 h4 (List.mem_filter.mpr ⟨hq, t1⟩) (List.mem_filter.mpr ⟨hq', t2⟩)
/-- a hue that can't be laid behind some others of a row: two of the row would take one place -/
theorem lay_bad {g : Nat → Nat} (hg : wfg g) {n : Nat} {D J : List (Nat × Nat)} {q : Nat × Nat} (hJ : (J.map Prod.fst).Nodup) (h1 : (D ++ [q]).Sublist J) (h2 : q.2 < n) (h3 : ¬ whyA g n D q.1 q.2 = 0) : ∃ i, i < n ∧ 2 ≤ cntT g J i := by
  have hs : 0 < g q.1 := by have := (hg q.1).1; omega
  have hn := hJ.sublist (h1.map Prod.fst)
  rw [List.map_append, List.nodup_append] at hn
  have h4 : phs D q.1 = none := by
    rw [phs_none]
    intro q' hq'
    exact hn.2.2 _ (List.mem_map_of_mem hq') _ (by simp)
  unfold whyA at h3
  rw [h4] at h3
  rw [if_neg (by simp), if_neg (by omega)] at h3
  cases hf : fst9 (fun i => decide (¬ col g D (q.2 + i * g q.1) = none)) 0 (stp9 n q.2 (g q.1)) with
  | none => rw [hf] at h3; exact absurd (if_neg (by simp)) h3
  | some j =>
    obtain ⟨-, h5, h6, -⟩ := fst9_some hf
    rw [Nat.zero_add] at h5
    have h7 := (stp9_lt hs).mp h5
    have h8 : ¬ col g D (q.2 + j * g q.1) = none := of_decide_eq_true h6
    refine ⟨_, h7, ?_⟩
    cases hc : col g D (q.2 + j * g q.1) with
    | none => exact absurd hc h8
    | some u =>
      obtain ⟨p, m1, m2⟩ := col_mem hc
      have h9 : ([(u, p), q] : List (Nat × Nat)).Sublist J := by
        refine List.Sublist.trans ?_ h1
        exact (List.singleton_sublist.mpr m1).append (List.Sublist.refl [q])
      have h10 := h9.filter (fun q' => tkb g q' (q.2 + j * g q.1))
      have h11 : tkb g q (q.2 + j * g q.1) = true := tkb_iff.mpr ⟨j, rfl⟩
      rw [List.filter_cons_of_pos (by exact m2), List.filter_cons_of_pos (by exact h11)] at h10
      exact h10.length_le
