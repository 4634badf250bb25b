/-! PURE READING, 1: loops in closed form, reads and writes, the class's Rope -/
theorem lpn_run {σ ρ : Type} {b : σ → Option (σ ⊕ ρ)} (f : Nat → σ) (z : ρ) : ∀ (n i k : Nat), (∀ j, i ≤ j → j < i + n → b (f j) = some (.inl (f (j + 1)))) → b (f (i + n)) = some (.inr z) → n < k → lpn b k (f i) = some z := by
  intro n
  induction n with
  | zero =>
    intro i k hs he hk
    obtain ⟨q, rfl⟩ : ∃ q, k = q + 1 := ⟨k - 1, by omega⟩
    show (b (f i)).bind _ = _
    rw [Nat.add_zero] at he
    rw [he]
    rfl
  | succ n ih =>
    intro i k hs he hk
    obtain ⟨q, rfl⟩ : ∃ q, k = q + 1 := ⟨k - 1, by omega⟩
    show (b (f i)).bind _ = _
    rw [hs i (Nat.le_refl _) (by omega)]
    show lpn b q (f (i + 1)) = some z
    exact ih (i + 1) q (fun j h1 h2 => hs j (by omega) (by omega)) (by rw [show i + 1 + n = i + (n + 1) by omega]; exact he) (by omega)
/-- the first place from a on, among n, where P holds -/
def fst9 (P : Nat → Bool) : Nat → Nat → Option Nat
  | _, 0 => none
  | a, n + 1 => if P a = true then some a else fst9 P (a + 1) n
def lst9 (P : Nat → Bool) : Nat → Option Nat
  | 0 => none
  | n + 1 => if P n = true then some n else lst9 P n
def cnt9 (P : Nat → Bool) : Nat → Nat
  | 0 => 0
  | n + 1 => cnt9 P n + (if P n = true then 1 else 0)
theorem lpn_find {σ ρ : Type} {b : σ → Option (σ ⊕ ρ)} (f : Nat → σ) (P : Nat → Bool) (zf : Nat → ρ) (z0 : ρ) : ∀ (n i k : Nat), (∀ j, i ≤ j → j < i + n → b (f j) = some (if P j = true then .inr (zf j) else .inl (f (j + 1)))) → b (f (i + n)) = some (.inr z0) → n < k →
    lpn b k (f i) = some (match fst9 P i n with | some j => zf j | none => z0) := by
  intro n
  induction n with
  | zero =>
    intro i k hs he hk
    obtain ⟨q, rfl⟩ : ∃ q, k = q + 1 := ⟨k - 1, by omega⟩
    show (b (f i)).bind _ = _
    rw [Nat.add_zero] at he
    rw [he]
    rfl
  | succ n ih =>
    intro i k hs he hk
    obtain ⟨q, rfl⟩ : ∃ q, k = q + 1 := ⟨k - 1, by omega⟩
    show (b (f i)).bind _ = _
    rw [hs i (Nat.le_refl _) (by omega)]
    by_cases hP : P i = true
    · rw [if_pos hP]
      simp only [fst9, hP, if_true]
      rfl
    · rw [if_neg hP]
      simp only [fst9, hP, if_false]
      show lpn b q (f (i + 1)) = _
      exact ih (i + 1) q (fun j h1 h2 => hs j (by omega) (by omega)) (by rw [show i + 1 + n = i + (n + 1) by omega]; exact he) (by omega)
theorem fst9_some {P : Nat → Bool} : ∀ {n a j : Nat}, fst9 P a n = some j → a ≤ j ∧ j < a + n ∧ P j = true ∧ ∀ i, a ≤ i → i < j → P i = false := by
  intro n
  induction n with
  | zero => intro a j h; cases h
  | succ n ih =>
    intro a j h
    by_cases hP : P a = true
    · simp only [fst9, hP, if_true] at h
      cases h
      exact ⟨Nat.le_refl _, by omega, hP, fun i h1 h2 => by omega⟩
    · simp only [fst9, hP, if_false] at h
      obtain ⟨h1, h2, h3, h4⟩ := ih h
      refine ⟨by omega, by omega, h3, fun i h5 h6 => ?_⟩
      rcases Nat.lt_or_ge a i with h7 | h7
      · exact h4 i h7 h6
      · rw [show i = a by omega]
        exact Bool.eq_false_iff.mpr hP
theorem fst9_none {P : Nat → Bool} : ∀ {n a : Nat}, fst9 P a n = none → ∀ i, a ≤ i → i < a + n → P i = false := by
  intro n
  induction n with
  | zero => intro a h i h1 h2; omega
  | succ n ih =>
    intro a h i h1 h2
    by_cases hP : P a = true
    · simp only [fst9, hP, if_true] at h
      cases h
    · simp only [fst9, hP, if_false] at h
      rcases Nat.lt_or_ge a i with h7 | h7
      · exact ih h i h7 (by omega)
      · rw [show i = a by omega]
        exact Bool.eq_false_iff.mpr hP
theorem fst9_of {P : Nat → Bool} : ∀ {n a j : Nat}, a ≤ j → j < a + n → P j = true → (∀ i, a ≤ i → i < j → P i = false) → fst9 P a n = some j := by
  intro n a j h1 h2 h3 h4
  cases h : fst9 P a n with
  | none => rw [fst9_none h j h1 h2] at h3; cases h3
  | some k =>
    obtain ⟨k1, k2, k3, k4⟩ := fst9_some h
    rcases Nat.lt_trichotomy k j with h5 | h5 | h5
    · rw [h4 k k1 h5] at k3; cases k3
    · rw [h5]
    · rw [k4 j h1 h5] at h3; cases h3
theorem fst9_of_none {P : Nat → Bool} {n a : Nat} (h : ∀ i, a ≤ i → i < a + n → P i = false) : fst9 P a n = none := by
  cases h9 : fst9 P a n with
  | none => rfl
  | some k =>
    obtain ⟨k1, k2, k3, k4⟩ := fst9_some h9
    rw [h k k1 k2] at k3; cases k3
theorem lst9_some {P : Nat → Bool} : ∀ {n j : Nat}, lst9 P n = some j → j < n ∧ P j = true ∧ ∀ i, j < i → i < n → P i = false := by
  intro n
  induction n with
  | zero => intro j h; cases h
  | succ n ih =>
    intro j h
    by_cases hP : P n = true
    · simp only [lst9, hP, if_true] at h
      cases h
      exact ⟨by omega, hP, fun i h1 h2 => by omega⟩
    · simp only [lst9, hP, if_false] at h
      obtain ⟨h1, h2, h3⟩ := ih h
      refine ⟨by omega, h2, fun i h5 h6 => ?_⟩
      rcases Nat.lt_or_ge i n with h7 | h7
      · exact h3 i h5 h7
      · rw [show i = n by omega]
        exact Bool.eq_false_iff.mpr hP
theorem lst9_none {P : Nat → Bool} : ∀ {n : Nat}, lst9 P n = none → ∀ i, i < n → P i = false := by
  intro n
  induction n with
  | zero => intro h i h1; omega
  | succ n ih =>
    intro h i h1
    by_cases hP : P n = true
    · simp only [lst9, hP, if_true] at h
      cases h
    · simp only [lst9, hP, if_false] at h
      rcases Nat.lt_or_ge i n with h7 | h7
      · exact ih h i h7
      · rw [show i = n by omega]
        exact Bool.eq_false_iff.mpr hP
theorem cnt9_congr {P Q : Nat → Bool} : ∀ {n : Nat}, (∀ i, i < n → P i = Q i) → cnt9 P n = cnt9 Q n := by
  intro n
  induction n with
  | zero => intro _; rfl
  | succ n ih => intro h; simp only [cnt9]; rw [ih (fun i hi => h i (by omega)), h n (by omega)]
theorem cnt9_le {P : Nat → Bool} : ∀ {n : Nat}, cnt9 P n ≤ n := by
  intro n
  induction n with
  | zero => exact Nat.le_refl _
  | succ n ih => simp only [cnt9]; split <;> omega
theorem lst9_congr {P Q : Nat → Bool} : ∀ {n : Nat}, (∀ i, i < n → P i = Q i) → lst9 P n = lst9 Q n := by
  intro n
  induction n with
  | zero => intro _; rfl
  | succ n ih => intro h; simp only [lst9]; rw [ih (fun i hi => h i (by omega)), h n (by omega)]
theorem fst9_congr {P Q : Nat → Bool} : ∀ {n a : Nat}, (∀ i, a ≤ i → i < a + n → P i = Q i) → fst9 P a n = fst9 Q a n := by
  intro n
  induction n with
  | zero => intro a _; rfl
  | succ n ih => intro a h; simp only [fst9]; rw [ih (fun i h1 h2 => h i (by omega) (by omega)), h a (by omega) (by omega)]
/-- an answer: a place or a hue, or NONE -/
def oI (x : Option Nat) : Int32 := match x with
  | some n => nI n
  | none => -1
theorem nI_ne_m1 {n : Nat} (h : n < 2 ^ 31) : ¬ nI n = -1 := fun q => nI_pos h (by rw [q]; decide)
theorem oI_m1 {x : Option Nat} (h : ∀ n, x = some n → n < 2 ^ 31) : oI x = -1 ↔ x = none := by
  cases x with
  | none => exact ⟨fun _ => rfl, fun _ => rfl⟩
  | some n => exact ⟨fun q => absurd q (nI_ne_m1 (h n rfl)), fun q => by cases q⟩
-- reads and writes
theorem okO_of {h : PH} {a ci : Nat} {fs : List Value} (h1 : h a = some (.inr (.inr (ci, fs)))) : okO h a ci = true := by simp [okO, h1]
theorem rdI_of {h : PH} {a ci k : Nat} {fs : List Value} {v : Int32} (h1 : h a = some (.inr (.inr (ci, fs)))) (h2 : fs[k]? = some (.int v)) : rdI h a ci k = some v := by simp [rdI, h1, h2]
theorem rdJ_of {h : PH} {a ci k : Nat} {fs : List Value} {v : Int64} (h1 : h a = some (.inr (.inr (ci, fs)))) (h2 : fs[k]? = some (.long v)) : rdJ h a ci k = some v := by simp [rdJ, h1, h2]
theorem rdR_of {h : PH} {a ci k : Nat} {fs : List Value} {v : Nat} (h1 : h a = some (.inr (.inr (ci, fs)))) (h2 : fs[k]? = some (.ref v)) : rdR h a ci k = some v := by simp [rdR, h1, h2]
theorem wrF_of {h : PH} {a ci k : Nat} {fs : List Value} (v : Value) (h1 : h a = some (.inr (.inr (ci, fs)))) (h2 : k < fs.length) : wrF h a ci k v = some (pu h a (.inr (.inr (ci, fs.set k v)))) := by simp [wrF, h1, h2]
theorem ldI_of {h : PH} {a i n : Nat} {f : Nat → Int32} (h1 : h a = some (.inl (n, f))) (hi : i < n) (hn : n < 2 ^ 31) : ldI h a (nI i) = some (f i) := by
  have c1 := nI_in hi hn
  have c2 : (nI i).toNatClampNeg = i := nI_clamp (by omega)
  unfold ldI
  rw [h1]
  dsimp only
  rw [if_neg c1, c2]
theorem stI_of {h : PH} {a i n : Nat} {f : Nat → Int32} (x : Int32) (h1 : h a = some (.inl (n, f))) (hi : i < n) (hn : n < 2 ^ 31) : stI h a (nI i) x = some (pu h a (.inl (n, upd f i x))) := by
  have c1 := nI_in hi hn
  have c2 : (nI i).toNatClampNeg = i := nI_clamp (by omega)
  unfold stI
  rw [h1]
  dsimp only
  rw [if_neg c1, c2]
theorem ldQ_of {h : PH} {a i n k : Nat} {f : Nat → Option Nat} (h1 : h a = some (.inr (.inl (k, n, f)))) (hi : i < n) (hn : n < 2 ^ 31) : ldQ h a (nI i) = some (f i) := by
  have c1 := nI_in hi hn
  have c2 : (nI i).toNatClampNeg = i := nI_clamp (by omega)
  unfold ldQ
  rw [h1]
  dsimp only
  rw [if_neg c1, c2]
theorem stQ_of {h : PH} {a i n k v : Nat} {f : Nat → Option Nat} (h1 : h a = some (.inr (.inl (k, n, f)))) (hi : i < n) (hn : n < 2 ^ 31) (hv : (k = 0 ∧ okO h v 1 = true) ∨ (k = 1 ∧ okO h v 2 = true)) : stQ h a (nI i) v = some (pu h a (.inr (.inl (k, n, va_up f i (some v))))) := by
  have c1 := nI_in hi hn
  have c2 : (nI i).toNatClampNeg = i := nI_clamp (by omega)
  unfold stQ
  rw [h1]
  dsimp only
  rw [if_neg c1, c2, if_pos hv]
theorem lnA_I {h : PH} {a n : Nat} {f : Nat → Int32} (h1 : h a = some (.inl (n, f))) : lnA h a = some (nI n) := by simp [lnA, h1, nI]
theorem lnA_Q {h : PH} {a k n : Nat} {f : Nat → Option Nat} (h1 : h a = some (.inr (.inl (k, n, f)))) : lnA h a = some (nI n) := by simp [lnA, h1, nI]
theorem pu_s {h : PH} {a : Nat} {e : PC} : pu h a e a = some e := if_pos rfl
theorem pu_n {h : PH} {a b : Nat} {e : PC} (hn : b ≠ a) : pu h a e b = h b := if_neg hn
/-- the cells of a Rope: its length, how many hues, the hue of each place, the order -/
def cR (h : PH) (r len cnt : Nat) (cf off : Nat → Int32) : Prop := h r = some (.inr (.inr (1, [.ref (r + 1), .ref (r + 2), .int (nI len), .int (nI cnt)]))) ∧ h (r + 1) = some (.inl (60, cf)) ∧ h (r + 2) = some (.inl (8, off))
section RopeReads
variable {h : PH} {r len cnt : Nat} {cf off : Nat → Int32}
theorem cR.ok (H : cR h r len cnt cf off) : okO h r 1 = true := okO_of H.1
theorem cR.r0 (H : cR h r len cnt cf off) : rdR h r 1 0 = some (r + 1) := rdR_of H.1 rfl
theorem cR.r1 (H : cR h r len cnt cf off) : rdR h r 1 1 = some (r + 2) := rdR_of H.1 rfl
theorem cR.r2 (H : cR h r len cnt cf off) : rdI h r 1 2 = some (nI len) := rdI_of H.1 rfl
theorem cR.r3 (H : cR h r len cnt cf off) : rdI h r 1 3 = some (nI cnt) := rdI_of H.1 rfl
theorem cR.n0 (H : cR h r len cnt cf off) : lnA h (r + 1) = some (nI 60) := lnA_I H.2.1
theorem cR.n1 (H : cR h r len cnt cf off) : lnA h (r + 2) = some (nI 8) := lnA_I H.2.2
theorem X2_length (H : cR h r len cnt cf off) : f_X2_length h r = some (nI len) := by
  simp only [f_X2_length, H.ok, H.r2, if_true, Option.bind_some]
theorem X2_hueCount (H : cR h r len cnt cf off) : f_X2_hueCount h r = some (nI cnt) := by
  simp only [f_X2_hueCount, H.ok, H.r3, if_true, Option.bind_some]
theorem X2_colourAt (H : cR h r len cnt cf off) (hl : len ≤ 60) {p : Nat} (hp : p < len) : f_X2_colourAt h r (nI p) = some (cf p) := by
  have c1 : ¬ nI p < 0 := nI_pos (by omega)
  have c2 : ¬ nI len ≤ nI p := nI_ge hp (by omega)
  have c3 : ¬ nI 60 ≤ nI p := nI_ge (by omega) (by omega)
  simp only [f_X2_colourAt, f_X2_colourAt_J31, H.ok, H.r0, H.r2, H.n0, if_true, Option.bind_some, if_neg c1, if_neg c2, if_neg c3, ldI_of H.2.1 (show p < 60 by omega) (by omega)]
theorem X2_hueAt (H : cR h r len cnt cf off) (hl : cnt ≤ 8) {k : Nat} (hp : k < cnt) : f_X2_hueAt h r (nI k) = some (off k) := by
  have c1 : ¬ nI k < 0 := nI_pos (by omega)
  have c2 : ¬ nI cnt ≤ nI k := nI_ge hp (by omega)
  have c3 : ¬ nI 8 ≤ nI k := nI_ge (by omega) (by omega)
  simp only [f_X2_hueAt, f_X2_hueAt_J31, H.ok, H.r1, H.r3, H.n1, if_true, Option.bind_some, if_neg c1, if_neg c2, if_neg c3, ldI_of H.2.2 (show k < 8 by omega) (by omega)]
theorem X2_orderOf (H : cR h r len cnt cf off) (hl : cnt ≤ 8) (u : Int32) : f_X2_orderOf h r u = some (oI (fst9 (fun k => decide (off k = u)) 0 cnt)) := by
  have hb : ∀ j, 0 ≤ j → j < 0 + cnt → f_X2_orderOf_L2 h r u (nI j) = some (if (fun k => decide (off k = u)) j = true then .inr (.inr (nI j)) else .inl (nI (j + 1))) := by
    intro j _ hj
    have c2 : ¬ nI cnt ≤ nI j := nI_ge (by omega) (by omega)
    have c3 : ¬ nI 8 ≤ nI j := nI_ge (by omega) (by omega)
    simp only [f_X2_orderOf_L2, H.r1, H.r3, H.n1, Option.bind_some, if_neg c2, if_neg c3, ldI_of H.2.2 (show j < 8 by omega) (by omega)]
    by_cases hu : off j = u
    · simp [hu]
    · simp [hu, nI_1]
  have he : f_X2_orderOf_L2 h r u (nI (0 + cnt)) = some (.inr (.inl ())) := by
    rw [Nat.zero_add]
    have c2 : nI cnt ≤ nI cnt := nI_le (Nat.le_refl _) (by omega)
    simp only [f_X2_orderOf_L2, H.r3, Option.bind_some, if_pos c2]
  have hw := lpn_find (fun j => nI j) (fun k => decide (off k = u)) (fun j => (.inr (nI j) : Unit ⊕ Int32)) (.inl ()) cnt 0 LF hb he (by unfold LF; omega)
  have hw0 : lpn (f_X2_orderOf_L2 h r u) LF 0 = _ := hw
  simp only [f_X2_orderOf, H.ok, if_true, hw0, Option.bind_some]
  cases fst9 (fun k => decide (off k = u)) 0 cnt with
  | none => rfl
  | some j => rfl
theorem X2_firstFrom (H : cR h r len cnt cf off) (hl : len ≤ 60) (u : Int32) {a : Nat} (ha : a ≤ len) : f_X2_firstFrom h r u (nI a) = some (oI (fst9 (fun p => decide (cf p = u)) a (len - a))) := by
  have hb : ∀ j, a ≤ j → j < a + (len - a) → f_X2_firstFrom_L2 h r u (nI j) = some (if (fun p => decide (cf p = u)) j = true then .inr (.inr (nI j)) else .inl (nI (j + 1))) := by
    intro j h1 hj
    have c2 : ¬ nI len ≤ nI j := nI_ge (by omega) (by omega)
    simp only [f_X2_firstFrom_L2, H.r2, Option.bind_some, if_neg c2, X2_colourAt H hl (show j < len by omega)]
    by_cases hu : cf j = u
    · simp [hu]
    · simp [hu, nI_1]
  have he : f_X2_firstFrom_L2 h r u (nI (a + (len - a))) = some (.inr (.inl ())) := by
    have c2 : nI len ≤ nI (a + (len - a)) := nI_le (by omega) (by omega)
    simp only [f_X2_firstFrom_L2, H.r2, Option.bind_some, if_pos c2]
  have hw := lpn_find (fun j => nI j) (fun p => decide (cf p = u)) (fun j => (.inr (nI j) : Unit ⊕ Int32)) (.inl ()) (len - a) a LF hb he (by unfold LF; omega)
  simp only [f_X2_firstFrom, H.ok, if_true, hw, Option.bind_some]
  cases fst9 (fun p => decide (cf p = u)) a (len - a) with
  | none => rfl
  | some j => rfl
theorem X2_lastOf (H : cR h r len cnt cf off) (hl : len ≤ 60) (u : Int32) : f_X2_lastOf h r u = some (oI (lst9 (fun p => decide (cf p = u)) len)) := by
  have key : ∀ n, n ≤ len → ∀ k, n < k → lpn (f_X2_lastOf_L7 h r u) k (nI n - 1) = some (match lst9 (fun p => decide (cf p = u)) n with | some j => (.inr (nI j) : Unit ⊕ Int32) | none => .inl ()) := by
    intro n
    induction n with
    | zero =>
      intro _ k hk
      obtain ⟨q, rfl⟩ : ∃ q, k = q + 1 := ⟨k - 1, by omega⟩
      show (f_X2_lastOf_L7 h r u (nI 0 - 1)).bind _ = _
      have c1 : nI 0 - 1 < 0 := by decide
      simp only [f_X2_lastOf_L7, if_pos c1]
      rfl
    | succ n ih =>
      intro hn k hk
      obtain ⟨q, rfl⟩ : ∃ q, k = q + 1 := ⟨k - 1, by omega⟩
      show (f_X2_lastOf_L7 h r u (nI (n + 1) - 1)).bind _ = _
      rw [nI_pred]
      have c1 : ¬ nI n < 0 := nI_pos (by omega)
      simp only [f_X2_lastOf_L7, if_neg c1, X2_colourAt H hl (show n < len by omega), Option.bind_some]
      by_cases hu : cf n = u
      · simp [hu, lst9]
      · simp only [hu, not_false_eq_true, if_true, Option.bind_some, lst9, decide_false, Bool.false_eq_true, if_false]
        rw [show nI n + (-1) = nI n - 1 by rw [Int32.sub_eq_add_neg]]
        exact ih (by omega) q (by omega)
  have hw := key len (Nat.le_refl _) LF (by unfold LF; omega)
  simp only [f_X2_lastOf, H.ok, H.r2, if_true, Option.bind_some, hw]
  cases lst9 (fun p => decide (cf p = u)) len with
  | none => rfl
  | some j => rfl
theorem X2_placesOf (H : cR h r len cnt cf off) (hl : len ≤ 60) (u : Int32) : f_X2_placesOf h r u = some (nI (cnt9 (fun p => decide (cf p = u)) len)) := by
  have hb : ∀ j, 0 ≤ j → j < 0 + len → f_X2_placesOf_L4 h r u ((fun j => (nI (cnt9 (fun p => decide (cf p = u)) j), nI j)) j) = some (.inl ((fun j => (nI (cnt9 (fun p => decide (cf p = u)) j), nI j)) (j + 1))) := by
    intro j _ hj
    have c2 : ¬ nI len ≤ nI j := nI_ge (by omega) (by omega)
    simp only [f_X2_placesOf_L4, f_X2_placesOf_J24, H.r2, Option.bind_some, if_neg c2, X2_colourAt H hl (show j < len by omega), cnt9]
    by_cases hu : cf j = u
    · simp [hu, nI_1]
    · simp [hu, nI_1]
  have he : f_X2_placesOf_L4 h r u ((fun j => (nI (cnt9 (fun p => decide (cf p = u)) j), nI j)) (0 + len)) = some (.inr (nI (cnt9 (fun p => decide (cf p = u)) len))) := by
    have c2 : nI len ≤ nI len := nI_le (Nat.le_refl _) (by omega)
    simp only [Nat.zero_add, f_X2_placesOf_L4, H.r2, Option.bind_some, if_pos c2]
  have hw := lpn_run (fun j => (nI (cnt9 (fun p => decide (cf p = u)) j), nI j)) _ len 0 LF hb he (by unfold LF; omega)
  have hw0 : lpn (f_X2_placesOf_L4 h r u) LF (0, 0) = _ := hw
  simp only [f_X2_placesOf, f_X2_placesOf_J30, H.ok, if_true, hw0, Option.bind_some]
end RopeReads
-- sums of steps: places phase, phase + gap, ..
/-- how many places from p on, by steps of s, are below n -/
def stp9 (n p s : Nat) : Nat := (n - p + s - 1) / s
theorem stp9_lt {n p s i : Nat} (hs : 0 < s) : i < stp9 n p s ↔ p + i * s < n := by
  unfold stp9
  rw [Nat.lt_div_iff_mul_lt hs]
  constructor
  · intro h; omega
  · intro h
    have : i * s < n - p := by omega
    omega
section RopeReads2
variable {h : PH} {r len cnt : Nat} {cf off : Nat → Int32}
theorem max1 {g : Nat} (h1 : 1 ≤ g) (h2 : g ≤ 100) : (if (1 : Int32) < nI g then nI g else (1 : Int32)) = nI g := by
  by_cases hg : g = 1
  · subst hg; decide
  · have : (1 : Int32) < nI g := by
      have := nI_lt (show 1 < g by omega) (by omega)
      exact this
    rw [if_pos this]
theorem nI_step {p g : Nat} (j : Nat) : nI (p + j * g) + nI g = nI (p + (j + 1) * g) := by
  rw [nI_add]
  congr 1
  rw [Nat.add_mul]
  omega
theorem X2_placesFrom (H : cR h r len cnt cf off) (hl : len ≤ 60) {p g : Nat} (hp : p ≤ 100) (hg1 : 1 ≤ g) (hg : g ≤ 100) : f_X2_placesFrom h r (nI p) (nI g) = some (nI (stp9 len p g)) := by
  have hlt : ∀ i, i < stp9 len p g ↔ p + i * g < len := fun i => stp9_lt (by omega)
  have hsm : stp9 len p g ≤ 60 := by
    rcases Nat.lt_or_ge 60 (stp9 len p g) with q | q
    · have h1 := (hlt 60).mp q
      have h2 : 60 * 1 ≤ 60 * g := Nat.mul_le_mul_left 60 hg1
      omega
    · exact q
  have hb : ∀ j, 0 ≤ j → j < 0 + stp9 len p g → f_X2_placesFrom_L12 h r (nI g) ((fun j => (nI j, nI (p + j * g))) j) = some (.inl ((fun j => (nI j, nI (p + j * g))) (j + 1))) := by
    intro j _ hj
    have h1 := (hlt j).mp (by omega)
    have c2 : ¬ nI len ≤ nI (p + j * g) := nI_ge h1 (by omega)
    simp only [f_X2_placesFrom_L12, H.r2, Option.bind_some, if_neg c2, nI_1, nI_step]
  have he : f_X2_placesFrom_L12 h r (nI g) ((fun j => (nI j, nI (p + j * g))) (0 + stp9 len p g)) = some (.inr (nI (stp9 len p g))) := by
    rw [Nat.zero_add]
    have h1 : ¬ p + stp9 len p g * g < len := fun q => Nat.lt_irrefl _ ((hlt _).mpr q)
    have h2 : stp9 len p g * g ≤ 60 * 100 := Nat.mul_le_mul hsm hg
    have c2 : nI len ≤ nI (p + stp9 len p g * g) := nI_le (by omega) (by omega)
    simp only [f_X2_placesFrom_L12, H.r2, Option.bind_some, if_pos c2]
  have hw := lpn_run (fun j => (nI j, nI (p + j * g))) _ (stp9 len p g) 0 LF hb he (by unfold LF; omega)
  have hw0 : lpn (f_X2_placesFrom_L12 h r (nI g)) LF (0, nI p) = some (nI (stp9 len p g)) := by
    rw [← hw]
    simp only [Nat.zero_mul, Nat.add_zero, nI_0]
  simp only [f_X2_placesFrom, f_X2_placesFrom_J34, H.ok, if_true, max1 hg1 hg, hw0, Option.bind_some]
/-- why a hue can't be laid: by the cells -/
def whyC (len cnt : Nat) (cf off : Nat → Int32) (u : Int32) (p g : Nat) : Nat := if (fst9 (fun k => decide (off k = u)) 0 cnt).isSome = true then 1 else if len ≤ p then 2 else if (fst9 (fun i => decide (¬ cf (p + i * g) = -1)) 0 (stp9 len p g)).isSome = true then 3 else 0
theorem X2_reasonAgainst (H : cR h r len cnt cf off) (hl : len ≤ 60) (hc : cnt ≤ 8) (u : Int32) {p g : Nat} (hp : p ≤ 100) (hg1 : 1 ≤ g) (hg : g ≤ 100) : f_X2_reasonAgainst h r u (nI p) (nI g) = some (nI (whyC len cnt cf off u p g)) := by
  have hlt : ∀ i, i < stp9 len p g ↔ p + i * g < len := fun i => stp9_lt (by omega)
  have hsm : stp9 len p g ≤ 60 := by
    rcases Nat.lt_or_ge 60 (stp9 len p g) with q | q
    · have h1 := (hlt 60).mp q
      have h2 : 60 * 1 ≤ 60 * g := Nat.mul_le_mul_left 60 hg1
      omega
    · exact q
  have hb : ∀ j, 0 ≤ j → j < 0 + stp9 len p g → f_X2_reasonAgainst_L31 h r (nI g) ((fun j => nI (p + j * g)) j) = some (if (fun i => decide (¬ cf (p + i * g) = -1)) j = true then .inr ((fun _ => (.inr () : Unit ⊕ Unit)) j) else .inl ((fun j => nI (p + j * g)) (j + 1))) := by
    intro j _ hj
    have h1 := (hlt j).mp (by omega)
    have c2 : ¬ nI len ≤ nI (p + j * g) := nI_ge h1 (by omega)
    simp only [f_X2_reasonAgainst_L31, H.r2, Option.bind_some, if_neg c2, X2_colourAt H hl h1]
    by_cases hu : cf (p + j * g) = -1
    · simp [hu, nI_step]
    · simp [hu]
  have he : f_X2_reasonAgainst_L31 h r (nI g) ((fun j => nI (p + j * g)) (0 + stp9 len p g)) = some (.inr (.inl ())) := by
    rw [Nat.zero_add]
    have h1 : ¬ p + stp9 len p g * g < len := fun q => Nat.lt_irrefl _ ((hlt _).mpr q)
    have h2 : stp9 len p g * g ≤ 60 * 100 := Nat.mul_le_mul hsm hg
    have c2 : nI len ≤ nI (p + stp9 len p g * g) := nI_le (by omega) (by omega)
    simp only [f_X2_reasonAgainst_L31, H.r2, Option.bind_some, if_pos c2]
  have hw := lpn_find (fun j => nI (p + j * g)) (fun i => decide (¬ cf (p + i * g) = -1)) (fun _ => (.inr () : Unit ⊕ Unit)) (.inl ()) (stp9 len p g) 0 LF hb he (by unfold LF; omega)
  have hw0 := hw
  simp only [Nat.zero_mul, Nat.add_zero] at hw0
  simp only [f_X2_reasonAgainst, H.ok, if_true, X2_orderOf H hc, Option.bind_some, whyC]
  cases h1 : fst9 (fun k => decide (off k = u)) 0 cnt with
  | some k =>
    have hk := (fst9_some h1).2.1
    have c1 : ¬ oI (some k) = -1 := nI_ne_m1 (by omega)
    simp only [if_neg c1, Option.isSome_some, if_true]
    rfl
  | none =>
    simp only [oI, if_true, H.r2, Option.bind_some, Option.isSome_none, Bool.false_eq_true, if_false]
    by_cases h2 : p < len
    · have c2 : nI p < nI len := nI_lt h2 (by omega)
      have c3 : ¬ len ≤ p := by omega
      simp only [if_pos c2, if_neg c3, max1 hg1 hg, hw0, Option.bind_some]
      cases fst9 (fun i => decide (¬ cf (p + i * g) = -1)) 0 (stp9 len p g) with
      | none => rfl
      | some j => rfl
    · have c2 : ¬ nI p < nI len := nI_nlt (by omega) (by omega)
      have c3 : len ≤ p := by omega
      simp only [if_neg c2, if_pos c3]
      rfl
theorem X2_differences {r2 cnt2 : Nat} {cf2 off2 : Nat → Int32} (H : cR h r len cnt cf off) (H2 : cR h r2 len cnt2 cf2 off2) (hl : len ≤ 60) : f_X2_differences h r r2 = some (nI (cnt9 (fun p => decide (¬ cf p = cf2 p)) len)) := by
  have hb : ∀ j, 0 ≤ j → j < 0 + len → f_X2_differences_L4 h r r2 ((fun j => (nI (cnt9 (fun p => decide (¬ cf p = cf2 p)) j), nI j)) j) = some (.inl ((fun j => (nI (cnt9 (fun p => decide (¬ cf p = cf2 p)) j), nI j)) (j + 1))) := by
    intro j _ hj
    have c2 : ¬ nI len ≤ nI j := nI_ge (by omega) (by omega)
    simp only [f_X2_differences_L4, f_X2_differences_J28, H.r2, Option.bind_some, if_neg c2, X2_colourAt H hl (show j < len by omega), X2_colourAt H2 hl (show j < len by omega), cnt9]
    by_cases hu : cf j = cf2 j
    · simp [hu, nI_1]
    · simp [hu, nI_1]
  have he : f_X2_differences_L4 h r r2 ((fun j => (nI (cnt9 (fun p => decide (¬ cf p = cf2 p)) j), nI j)) (0 + len)) = some (.inr (nI (cnt9 (fun p => decide (¬ cf p = cf2 p)) len))) := by
    have c2 : nI len ≤ nI len := nI_le (Nat.le_refl _) (by omega)
    simp only [Nat.zero_add, f_X2_differences_L4, H.r2, Option.bind_some, if_pos c2]
  have hw := lpn_run (fun j => (nI (cnt9 (fun p => decide (¬ cf p = cf2 p)) j), nI j)) _ len 0 LF hb he (by unfold LF; omega)
  have hw0 : lpn (f_X2_differences_L4 h r r2) LF (0, 0) = _ := hw
  simp only [f_X2_differences, f_X2_differences_J34, H.ok, if_true, hw0, Option.bind_some]
/-- the run of holes that ends at n, the longest run below n -/
def hol9 (P : Nat → Bool) : Nat → Nat
  | 0 => 0
  | n + 1 => if P n = true then hol9 P n + 1 else 0
def mho9 (P : Nat → Bool) : Nat → Nat
  | 0 => 0
  | n + 1 => max (mho9 P n) (hol9 P (n + 1))
theorem hol9_le {P : Nat → Bool} : ∀ n, hol9 P n ≤ n := by
  intro n
  induction n with
  | zero => exact Nat.le_refl _
  | succ n ih => simp only [hol9]; split <;> omega
theorem mho9_le {P : Nat → Bool} : ∀ n, mho9 P n ≤ n := by
  intro n
  induction n with
  | zero => exact Nat.le_refl _
  | succ n ih => have := hol9_le (P := P) (n + 1); simp only [mho9]; omega
theorem nI_max {a b : Nat} (ha : a < 2 ^ 31) (hb : b < 2 ^ 31) : (if nI a < nI b then nI b else nI a) = nI (max a b) := by
  by_cases h : a < b
  · rw [if_pos (nI_lt h hb), Nat.max_eq_right (by omega)]
  · rw [if_neg (nI_nlt (by omega) ha), Nat.max_eq_left (by omega)]
theorem X2_mostHoles (H : cR h r len cnt cf off) (hl : len ≤ 60) : f_X2_mostHolesSideBySide h r = some (nI (mho9 (fun p => decide (cf p = -1)) len)) := by
  have hb : ∀ j, 0 ≤ j → j < 0 + len → f_X2_mostHolesSideBySide_L6 h r ((fun j => (nI (mho9 (fun p => decide (cf p = -1)) j), nI (hol9 (fun p => decide (cf p = -1)) j), nI j)) j) = some (.inl ((fun j => (nI (mho9 (fun p => decide (cf p = -1)) j), nI (hol9 (fun p => decide (cf p = -1)) j), nI j)) (j + 1))) := by
    intro j _ hj
    have c2 : ¬ nI len ≤ nI j := nI_ge (by omega) (by omega)
    have h1 := mho9_le (P := fun p => decide (cf p = -1)) j
    have h2 := hol9_le (P := fun p => decide (cf p = -1)) j
    simp only [f_X2_mostHolesSideBySide_L6, f_X2_mostHolesSideBySide_J30, H.r2, Option.bind_some, if_neg c2, X2_colourAt H hl (show j < len by omega), mho9, hol9]
    by_cases hu : cf j = -1
    · simp only [hu, not_true_eq_false, if_false, decide_true, if_true, nI_1]
      rw [nI_max (by omega) (by omega)]
    · simp only [hu, not_false_eq_true, if_true, decide_false, Bool.false_eq_true, if_false, nI_1]
      rw [show (0 : Int32) = nI 0 from nI_0.symm, nI_max (by omega) (by omega)]
  have he : f_X2_mostHolesSideBySide_L6 h r ((fun j => (nI (mho9 (fun p => decide (cf p = -1)) j), nI (hol9 (fun p => decide (cf p = -1)) j), nI j)) (0 + len)) = some (.inr (nI (mho9 (fun p => decide (cf p = -1)) len))) := by
    have c2 : nI len ≤ nI len := nI_le (Nat.le_refl _) (by omega)
    simp only [Nat.zero_add, f_X2_mostHolesSideBySide_L6, H.r2, Option.bind_some, if_pos c2]
  have hw := lpn_run (fun j => (nI (mho9 (fun p => decide (cf p = -1)) j), nI (hol9 (fun p => decide (cf p = -1)) j), nI j)) _ len 0 LF hb he (by unfold LF; omega)
  have hw0 : lpn (f_X2_mostHolesSideBySide_L6 h r) LF (0, 0, 0) = _ := hw
  simp only [f_X2_mostHolesSideBySide, f_X2_mostHolesSideBySide_J43, H.ok, if_true, hw0, Option.bind_some]
end RopeReads2
