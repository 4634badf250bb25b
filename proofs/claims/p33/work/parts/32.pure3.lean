/-! PURE READING, 3: the class's Rope: copies, what is taken off, numbers of a hue -/
def shlC (f : Nat → Int32) (a b : Nat) : Nat → Int32 := fun i => if a ≤ i ∧ i < b then f (i + 1) else f i
def clrC (f : Nat → Int32) (u : Int32) (b : Nat) : Nat → Int32 := fun i => if i < b ∧ f i = u then -1 else f i
theorem shlC_0 (f : Nat → Int32) (a : Nat) : shlC f a a = f := by
  funext i
  show (if _ then _ else _) = _
  rw [if_neg (by omega)]
theorem shlC_s (f : Nat → Int32) (a t : Nat) : upd (shlC f a (a + t)) (a + t) (f (a + t + 1)) = shlC f a (a + (t + 1)) := by
  funext i
  show (if i = a + t then _ else (if _ then _ else _)) = (if _ then _ else _)
  by_cases h0 : i = a + t
  · subst h0
    rw [if_pos rfl, if_pos (by omega)]
  · rw [if_neg h0]
    by_cases h1 : a ≤ i ∧ i < a + t
    · rw [if_pos h1, if_pos (by omega)]
    · rw [if_neg h1, if_neg (by omega)]
theorem shlC_hi (f : Nat → Int32) {a b i : Nat} (h : b ≤ i) : shlC f a b i = f i := if_neg (by omega)
theorem clrC_0 (f : Nat → Int32) (u : Int32) : clrC f u 0 = f := by
  funext i
  show (if _ then _ else _) = _
  rw [if_neg (by omega)]
theorem clrC_hi (f : Nat → Int32) (u : Int32) {b i : Nat} (h : b ≤ i) : clrC f u b i = f i := if_neg (by omega)
theorem clrC_y (f : Nat → Int32) {u : Int32} {j : Nat} (h : f j = u) : upd (clrC f u j) j (-1) = clrC f u (j + 1) := by
  funext i
  show (if i = j then _ else (if _ then _ else _)) = (if _ then _ else _)
  by_cases h0 : i = j
  · subst h0
    rw [if_pos rfl, if_pos ⟨by omega, h⟩]
  · rw [if_neg h0]
    by_cases h1 : i < j ∧ f i = u
    · rw [if_pos h1, if_pos ⟨by omega, h1.2⟩]
    · rw [if_neg h1, if_neg (fun q => h1 ⟨by omega, q.2⟩)]
theorem clrC_n (f : Nat → Int32) {u : Int32} {j : Nat} (h : ¬ f j = u) : clrC f u (j + 1) = clrC f u j := by
  funext i
  show (if _ then _ else _) = (if _ then _ else _)
  by_cases h1 : i < j ∧ f i = u
  · rw [if_pos h1, if_pos ⟨by omega, h1.2⟩]
  · rw [if_neg h1, if_neg (fun q => ?_)]
    by_cases h0 : i = j
    · subst h0; exact h q.2
    · exact h1 ⟨by omega, q.2⟩
section RopeWrites2
variable {h : PH} {r len cnt : Nat} {cf off : Nat → Int32}
theorem cR.set {r2 l2 c2 l3 c3 : Nat} {cf2 off2 cf3 off3 : Nat → Int32} (H2 : cR h r2 l2 c2 cf2 off2) (hd : r2 + 3 ≤ r ∨ r + 3 ≤ r2) : cR (setR h r l3 c3 cf3 off3) r2 l2 c2 cf2 off2 :=
  ⟨(setR_n (by omega)).trans H2.1, (setR_n (by omega)).trans H2.2.1, (setR_n (by omega)).trans H2.2.2⟩
theorem X2_copyFrom {r2 l2 c2 : Nat} {cf2 off2 : Nat → Int32} (H2 : cR h r2 l2 c2 cf2 off2) (hd : r2 + 3 ≤ r ∨ r + 3 ≤ r2) : f_X2_copyFrom (setR h r len cnt cf off) r r2 = some (setR h r l2 c2 (fill9 cf cf2 60) (fill9 off off2 8)) := by
  have H : ∀ {l c : Nat} {f o : Nat → Int32}, cR (setR h r l c f o) r l c f o := setR_cR
  have K : ∀ {l c : Nat} {f o : Nat → Int32}, cR (setR h r l c f o) r2 l2 c2 cf2 off2 := H2.set hd
  have hb : ∀ j, 0 ≤ j → j < 0 + 60 → f_X2_copyFrom_L18 r r2 ((fun j => (nI j, setR h r l2 c2 (fill9 cf cf2 j) off)) j) = some (.inl ((fun j => (nI j, setR h r l2 c2 (fill9 cf cf2 j) off)) (j + 1))) := by
    intro j _ hj
    have c2 : ¬ nI 60 ≤ nI j := nI_ge (by omega) (by omega)
    simp only [f_X2_copyFrom_L18, H.r0, H.n0, K.r0, K.n0, Option.bind_some, if_neg c2, ldI_of K.2.1 (show j < 60 by omega) (by omega), st_R1 (show j < 60 by omega), nI_1, fill9]
  have he : f_X2_copyFrom_L18 r r2 ((fun j => (nI j, setR h r l2 c2 (fill9 cf cf2 j) off)) (0 + 60)) = some (.inr (setR h r l2 c2 (fill9 cf cf2 60) off)) := by
    have c2 : nI 60 ≤ nI 60 := nI_le (Nat.le_refl _) (by omega)
    simp only [Nat.zero_add, f_X2_copyFrom_L18, H.r0, H.n0, Option.bind_some, if_pos c2]
  have hw := lpn_run (fun j => (nI j, setR h r l2 c2 (fill9 cf cf2 j) off)) _ 60 0 LF hb he (by unfold LF; omega)
  have hw0 : lpn (f_X2_copyFrom_L18 r r2) LF (0, setR h r l2 c2 cf off) = _ := hw
  have gb : ∀ j, 0 ≤ j → j < 0 + 8 → f_X2_copyFrom_L56 r r2 ((fun j => (nI j, setR h r l2 c2 (fill9 cf cf2 60) (fill9 off off2 j))) j) = some (.inl ((fun j => (nI j, setR h r l2 c2 (fill9 cf cf2 60) (fill9 off off2 j))) (j + 1))) := by
    intro j _ hj
    have c2 : ¬ nI 8 ≤ nI j := nI_ge (by omega) (by omega)
    simp only [f_X2_copyFrom_L56, H.r1, H.n1, K.r1, K.n1, Option.bind_some, if_neg c2, ldI_of K.2.2 (show j < 8 by omega) (by omega), st_R2 (show j < 8 by omega), nI_1, fill9]
  have ge : f_X2_copyFrom_L56 r r2 ((fun j => (nI j, setR h r l2 c2 (fill9 cf cf2 60) (fill9 off off2 j))) (0 + 8)) = some (.inr (setR h r l2 c2 (fill9 cf cf2 60) (fill9 off off2 8))) := by
    have c2 : nI 8 ≤ nI 8 := nI_le (Nat.le_refl _) (by omega)
    simp only [Nat.zero_add, f_X2_copyFrom_L56, H.r1, H.n1, Option.bind_some, if_pos c2]
  have gw := lpn_run (fun j => (nI j, setR h r l2 c2 (fill9 cf cf2 60) (fill9 off off2 j))) _ 8 0 LF gb ge (by unfold LF; omega)
  have gw0 : lpn (f_X2_copyFrom_L56 r r2) LF (0, setR h r l2 c2 (fill9 cf cf2 60) off) = _ := gw
  simp only [f_X2_copyFrom, f_X2_copyFrom_J54, f_X2_copyFrom_J92, H.ok, K.r2, K.r3, if_true, Option.bind_some, wr_R2, wr_R3, hw0, gw0]
theorem X2_remove_n (hc : cnt ≤ 8) {u : Int32} (hu : fst9 (fun k => decide (off k = u)) 0 cnt = none) : f_X2_remove (setR h r len cnt cf off) r u = some (0, setR h r len cnt cf off) := by
  have H : cR (setR h r len cnt cf off) r len cnt cf off := setR_cR
  have c0 : ¬ (0 : Int32) ≤ oI none := by decide
  simp only [f_X2_remove, H.ok, if_true, X2_orderOf H hc, hu, Option.bind_some, if_neg c0]
theorem X2_remove (hl : len ≤ 60) (hc : cnt ≤ 8) {u : Int32} {k : Nat} (hu : fst9 (fun k => decide (off k = u)) 0 cnt = some k) : f_X2_remove (setR h r len cnt cf off) r u = some (nI (cnt9 (fun p => decide (cf p = u)) len), setR h r len (cnt - 1) (clrC cf u len) (shlC off k (cnt - 1))) := by
  have H : ∀ {l c : Nat} {f o : Nat → Int32}, cR (setR h r l c f o) r l c f o := setR_cR
  have hk := (fst9_some hu).2.1
  rw [Nat.zero_add] at hk
  have hb : ∀ j, 0 ≤ j → j < 0 + (cnt - 1 - k) → f_X2_remove_L16 r u ((fun t => (nI (k + t + 1), setR h r len cnt cf (shlC off k (k + t)))) j) = some (.inl ((fun t => (nI (k + t + 1), setR h r len cnt cf (shlC off k (k + t)))) (j + 1))) := by
    intro j _ hj
    have c1 : ¬ nI cnt ≤ nI (k + j + 1) := nI_ge (by omega) (by omega)
    have c2 : ¬ nI 8 ≤ nI (k + j + 1) := nI_ge (by omega) (by omega)
    simp only [f_X2_remove_L16, H.r1, H.r3, H.n1, Option.bind_some, if_neg c1, if_neg c2, ldI_of H.2.2 (show k + j + 1 < 8 by omega) (by omega), nI_pred, st_R2 (show k + j < 8 by omega), nI_1, shlC_hi off (show k + j ≤ k + j + 1 by omega), shlC_s]
    rfl
  have he : f_X2_remove_L16 r u ((fun t => (nI (k + t + 1), setR h r len cnt cf (shlC off k (k + t)))) (0 + (cnt - 1 - k))) = some (.inr (setR h r len cnt cf (shlC off k (cnt - 1)))) := by
    have c1 : nI cnt ≤ nI (k + (0 + (cnt - 1 - k)) + 1) := nI_le (by omega) (by omega)
    simp only [f_X2_remove_L16, H.r3, Option.bind_some, if_pos c1]
    rw [show k + (0 + (cnt - 1 - k)) = cnt - 1 by omega]
  have hw := lpn_run (fun t => (nI (k + t + 1), setR h r len cnt cf (shlC off k (k + t)))) _ (cnt - 1 - k) 0 LF hb he (by unfold LF; omega)
  have hw0 : lpn (f_X2_remove_L16 r u) LF (nI (k + 1), setR h r len cnt cf off) = some (setR h r len cnt cf (shlC off k (cnt - 1))) := by
    rw [← hw]
    show _ = lpn _ LF (nI (k + 0 + 1), setR h r len cnt cf (shlC off k (k + 0)))
    have e9 : shlC off k (k + 0) = off := shlC_0 off k
    rw [e9, Nat.add_zero]
  have gb : ∀ o v j, 0 ≤ j → j < 0 + len → f_X2_remove_L72 r u v ((fun j => (nI j, setR h r len (cnt - 1) (clrC cf u j) o)) j) = some (.inl ((fun j => (nI j, setR h r len (cnt - 1) (clrC cf u j) o)) (j + 1))) := by
    intro o v j _ hj
    have c2 : ¬ nI len ≤ nI j := nI_ge (by omega) (by omega)
    simp only [f_X2_remove_L72, f_X2_remove_J98, H.r2, Option.bind_some, if_neg c2, X2_colourAt H hl (show j < len by omega), clrC_hi cf u (Nat.le_refl j)]
    by_cases hj2 : cf j = u
    · simp only [hj2, not_true_eq_false, if_false, X2_setColour (show j < 60 by omega), Option.bind_some, nI_1, clrC_y cf hj2]
    · simp only [hj2, not_false_eq_true, if_true, nI_1, clrC_n cf hj2]
  have ge : ∀ o v, f_X2_remove_L72 r u v ((fun j => (nI j, setR h r len (cnt - 1) (clrC cf u j) o)) (0 + len)) = some (.inr (setR h r len (cnt - 1) (clrC cf u len) o)) := by
    intro o v
    have c2 : nI len ≤ nI len := nI_le (Nat.le_refl _) (by omega)
    simp only [Nat.zero_add, f_X2_remove_L72, H.r2, Option.bind_some, if_pos c2]
  have gw0 : ∀ o v, lpn (f_X2_remove_L72 r u v) LF (0, setR h r len (cnt - 1) cf o) = some (setR h r len (cnt - 1) (clrC cf u len) o) := by
    intro o v
    have gw := lpn_run (fun j => (nI j, setR h r len (cnt - 1) (clrC cf u j) o)) _ len 0 LF (gb o v) (ge o v) (by unfold LF; omega)
    rw [← gw]
    show _ = lpn _ LF (nI 0, setR h r len (cnt - 1) (clrC cf u 0) o)
    rw [clrC_0]
    rfl
  have c0 : (0 : Int32) ≤ oI (some k) := by
    have := nI_le (a := 0) (b := k) (by omega) (by omega)
    exact this
  have e1 : nI cnt - 1 = nI (cnt - 1) := by
    obtain ⟨c9, rfl⟩ : ∃ c9, cnt = c9 + 1 := ⟨cnt - 1, by omega⟩
    rw [nI_pred]
    rfl
  have e2 : oI (some k) + 1 = nI (k + 1) := nI_1 k
  simp only [f_X2_remove, f_X2_remove_J53, f_X2_remove_J104, H.ok, if_true, X2_orderOf H hc, hu, Option.bind_some, if_pos c0, e2, hw0, H.r3, e1, wr_R3, X2_placesOf H hl, gw0]
end RopeWrites2
section RopeReads4
variable {h : PH} {r len cnt : Nat} {cf off : Nat → Int32}
/-- the numbers of a hue, by the cells -/
def hnC (len cnt : Nat) (cf off : Nat → Int32) (u : Int32) (w : Nat) : Int32 := match fst9 (fun k => decide (off k = u)) 0 cnt with
  | none => -1
  | some k => if w = 0 then oI (fst9 (fun p => decide (cf p = u)) 0 len) else if w = 1 then nI (cnt9 (fun p => decide (cf p = u)) len) else if w = 2 then oI (lst9 (fun p => decide (cf p = u)) len) else nI k
theorem X2_hueNumber (H : cR h r len cnt cf off) (hl : len ≤ 60) (hc : cnt ≤ 8) (u : Int32) {w : Nat} (hw : w < 4) : f_X2_hueNumber h r u (nI w) = some (hnC len cnt cf off u w) := by
  have hf := X2_firstFrom H hl u (a := 0) (Nat.zero_le _)
  have hf0 : f_X2_firstFrom h r u 0 = _ := hf
  rw [Nat.sub_zero] at hf0
  simp only [f_X2_hueNumber, H.ok, if_true, X2_orderOf H hc, Option.bind_some, hnC]
  cases hk : fst9 (fun k => decide (off k = u)) 0 cnt with
  | none => simp only [oI, not_true_eq_false, if_false]
  | some k =>
    have hk2 := (fst9_some hk).2.1
    have c1 : ¬ oI (some k) = -1 := nI_ne_m1 (by omega)
    simp only [if_pos c1, hf0, X2_placesOf H hl, X2_lastOf H hl, Option.bind_some]
    match w, hw with
    | 0, _ => rfl
    | 1, _ => rfl
    | 2, _ => rfl
    | 3, _ => rfl
def pnC (len cnt : Nat) (cf off : Nat → Int32) (u : Int32) (g w : Nat) : Int32 := if w = 0 then nI (cnt9 (fun p => decide (whyC len cnt cf off u p g = 0)) g) else if w = 1 then oI (fst9 (fun p => decide (whyC len cnt cf off u p g = 0)) 0 g) else oI (fil9 (fun p => decide (whyC len cnt cf off u p g = 0)) (fun p => stp9 len p g) g).1
theorem X2_phaseNumber (H : cR h r len cnt cf off) (hl : len ≤ 60) (hc : cnt ≤ 8) (u : Int32) {g : Nat} (hg1 : 1 ≤ g) (hg : g ≤ 100) {w : Nat} (hw : w < 3) : f_X2_phaseNumber h r u (nI g) (nI w) = some (pnC len cnt cf off u g w) := by
  simp only [f_X2_phaseNumber, H.ok, if_true, X2_fittingPhases H hl hc u hg1 hg, X2_lowestPhase H hl hc u hg1 hg, X2_fillingPhase H hl hc u hg1 hg, Option.bind_some, pnC]
  match w, hw with
  | 0, _ => rfl
  | 1, _ => rfl
  | 2, _ => rfl
end RopeReads4
