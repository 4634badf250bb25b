/-! THE LAW, 4: a rope that is turned round -/
def wasF (c : Nat → Int32) : Nat → Nat → Int32
  | 0 => fun _ => 0
  | k + 1 => upd (wasF c k) k (c k)
theorem wasF_at {c : Nat → Int32} {j : Nat} : ∀ {n : Nat}, j < n → wasF c n j = c j := by
  intro n
  induction n with
  | zero => intro h; omega
  | succ n ih =>
    intro h
    show upd (wasF c n) n (c n) j = c j
    by_cases e : j = n
    · rw [e]; exact upd_s _ _ _
    · rw [upd_n _ _ e]; exact ih (by omega)
section Law4
variable {h : PH} {x : Nat} {A : AAt}
set_option maxHeartbeats 2000000 in
theorem L_turns (W : wfA A) (H : repC h x A) {i : Nat} (hi : i < A.1.2.1.length) : Gd (f_L_turns h x (nI i)) x A := by
  have hR := W.1.2.1
  have hg := W.1.1
  have WR := W.1.2.2 _ (atR_mem hi)
  have h60 := WR.1.2
  have e0 := V_rope0 W H hi
  obtain ⟨h', k1, k2, k3⟩ := K_turn W H hi
  have hi2 : i < (A.1.2.1.set i (trnA A.1.1 (atR A.1.2.1 i))).length := by rw [List.length_set]; exact hi
  have at2 := atR_set hi (trnA A.1.1 (atR A.1.2.1 i))
  obtain ⟨len, hlen⟩ : ∃ n, n = (atR A.1.2.1 i).1 := ⟨_, rfl⟩
  obtain ⟨L, hL⟩ : ∃ n, n = (atR A.1.2.1 i).2 := ⟨_, rfl⟩
  obtain ⟨c, hc⟩ : ∃ c : Nat → Int32, c = fun j => oI (col A.1.1 L j) := ⟨_, rfl⟩
  have WL : wfR A.1.1 len L := by rw [hlen, hL]; exact WR
  rw [← hlen] at e0 h60
  have hun : unlA A.1.1 (atR A.1.2.1 i) = cnt9 (fun k => decide (¬ col A.1.1 L k = col A.1.1 L (len - 1 - k))) len := by rw [hlen, hL]; rfl
  rw [hun] at k1
  have pl : ∀ k, k < len → okL9 (f_X5_place h x (nI i) (nI k)) = some (c k) := fun k hk => by
    have e := V_place W H hi (p := k) (by omega)
    rw [← hL] at e
    rw [hc]
    exact e
  have pl2 : ∀ k, k < len → okL9 (f_X5_place h' x (nI i) (nI k)) = some (c (len - 1 - k)) := fun k hk => by
    have e := V_place k3 k2 hi2 (p := k) (by dsimp only; rw [at2]; show k < (atR A.1.2.1 i).1; omega)
    dsimp only at e
    rw [at2] at e
    have e : okL9 (f_X5_place h' x (nI i) (nI k)) = some (oI (col A.1.1 ((atR A.1.2.1 i).2.map (tnA A.1.1 (atR A.1.2.1 i).1)) k)) := e
    rw [← hlen, ← hL, col_turn hg WL hk] at e
    rw [hc]
    exact e
  have back : ∀ k, k < len → nI len - (1 : Int32) - nI k = nI (len - 1 - k) := fun k hk => by
    rw [← n1_e, nI_sub (show 1 ≤ len by omega), nI_sub (by omega)]
  have cl : ∀ k, k < len → (nI k).toNatClampNeg = k := fun k hk => nI_clamp (by omega)
  have nin : ∀ k, k < len → ¬ (nI k < 0 ∨ 60 ≤ k) := fun k hk q => q.elim (nI_pos (by omega)) (by omega)
  have cin : ∀ k j, k < len → j < len → (c k = c j ↔ col A.1.1 L k = col A.1.1 L j) := fun k j hk hj => by
    rw [hc]
    exact oI_inj (fun n hn => by have := col_lt WL hn; omega) (fun n hn => by have := col_lt WL hn; omega)
  -- the places are kept
  have hb1 : ∀ j, 0 ≤ j → j < 0 + len → f_L_turns_L18 x (nI i) (nI len) (0 : Int32) ((fun j => (nI j, (h, wasF c j))) j) = some (.inl ((fun j => (nI j, (h, wasF c j))) (j + 1))) := by
    intro j _ hj
    have hj : j < len := by omega
    have b1 : ¬ nI len ≤ nI j := nI_ge hj (by omega)
    simp only [f_L_turns_L18, if_neg b1, pl j hj, bs9, cl j hj, if_pos (nin j hj), nI_1, wasF]
  have he1 : f_L_turns_L18 x (nI i) (nI len) (0 : Int32) ((fun j => (nI j, (h, wasF c j))) (0 + len)) = some (.inr (h, wasF c len)) := by
    have b1 : nI len ≤ nI len := nI_le (Nat.le_refl _) (by omega)
    simp only [Nat.zero_add, f_L_turns_L18, if_pos b1]
  have hw1 := lpn_run (fun j => (nI j, (h, wasF c j))) _ len 0 LF hb1 he1 (by unfold LF; omega)
  have hw1 : lpn (f_L_turns_L18 x (nI i) (nI len) (0 : Int32)) LF ((0 : Int32), (h, fun _ => (0 : Int32))) = some (h, wasF c len) := hw1
  -- the unlike ones are counted
  have hb2 : ∀ j, 0 ≤ j → j < 0 + len → f_L_turns_L44 x (nI i) (nI len) ((fun j => (nI (cnt9 (fun k => decide (¬ col A.1.1 L k = col A.1.1 L (len - 1 - k))) j), nI j, (h, wasF c len))) j) = some (.inl ((fun j => (nI (cnt9 (fun k => decide (¬ col A.1.1 L k = col A.1.1 L (len - 1 - k))) j), nI j, (h, wasF c len))) (j + 1))) := by
    intro j _ hj
    have hj : j < len := by omega
    have hj2 : len - 1 - j < len := by omega
    have b1 : ¬ nI len ≤ nI j := nI_ge hj (by omega)
    by_cases hcc : col A.1.1 L j = col A.1.1 L (len - 1 - j)
    · have b2 : ¬ ¬ c j = c (len - 1 - j) := fun q => q ((cin _ _ hj hj2).mpr hcc)
      simp only [f_L_turns_L44, if_neg b1, back j hj, cl j hj, cl _ hj2, if_pos (nin j hj), if_pos (nin _ hj2), wasF_at hj, wasF_at hj2, if_neg b2, f_L_turns_J72, nI_1, cnt9, hcc, not_true_eq_false, decide_false, Bool.false_eq_true, if_false, Nat.add_zero, Int32.add_zero]
    · have b2 : ¬ c j = c (len - 1 - j) := fun q => hcc ((cin _ _ hj hj2).mp q)
      simp only [f_L_turns_L44, if_neg b1, back j hj, cl j hj, cl _ hj2, if_pos (nin j hj), if_pos (nin _ hj2), wasF_at hj, wasF_at hj2, if_pos b2, f_L_turns_J72, nI_1, cnt9, hcc, not_false_eq_true, decide_true, if_true]
  have he2 : f_L_turns_L44 x (nI i) (nI len) ((fun j => (nI (cnt9 (fun k => decide (¬ col A.1.1 L k = col A.1.1 L (len - 1 - k))) j), nI j, (h, wasF c len))) (0 + len)) = some (.inr (nI (cnt9 (fun k => decide (¬ col A.1.1 L k = col A.1.1 L (len - 1 - k))) len), (h, wasF c len))) := by
    have b1 : nI len ≤ nI len := nI_le (Nat.le_refl _) (by omega)
    simp only [Nat.zero_add, f_L_turns_L44, if_pos b1]
  have hw2 := lpn_run (fun j => (nI (cnt9 (fun k => decide (¬ col A.1.1 L k = col A.1.1 L (len - 1 - k))) j), nI j, (h, wasF c len))) _ len 0 LF hb2 he2 (by unfold LF; omega)
  have hw2 : lpn (f_L_turns_L44 x (nI i) (nI len)) LF ((0 : Int32), (0 : Int32), (h, wasF c len)) = some (nI (cnt9 (fun k => decide (¬ col A.1.1 L k = col A.1.1 L (len - 1 - k))) len), (h, wasF c len)) := hw2
  -- the places behind
  have hb3 : ∀ j, 0 ≤ j → j < 0 + len → f_L_turns_L101 x (nI i) (nI len) ((fun j => ((1 : Int32), nI j, (h', wasF c len))) j) = some (.inl ((fun j => ((1 : Int32), nI j, (h', wasF c len))) (j + 1))) := by
    intro j _ hj
    have hj : j < len := by omega
    have hj2 : len - 1 - j < len := by omega
    have b1 : ¬ nI len ≤ nI j := nI_ge hj (by omega)
    have b2 : ¬ (1 : Int32) = 0 := by decide
    simp only [f_L_turns_L101, if_neg b1, if_neg b2, pl2 j hj, bs9, back j hj, cl _ hj2, if_pos (nin _ hj2), wasF_at hj2, not_true_eq_false, if_false, f_L_turns_J135, nI_1]
  have he3 : f_L_turns_L101 x (nI i) (nI len) ((fun j => ((1 : Int32), nI j, (h', wasF c len))) (0 + len)) = some (.inr ((1 : Int32), (h', wasF c len))) := by
    have b1 : nI len ≤ nI len := nI_le (Nat.le_refl _) (by omega)
    simp only [Nat.zero_add, f_L_turns_L101, if_pos b1]
  have hw3 := lpn_run (fun j => ((1 : Int32), nI j, (h', wasF c len))) _ len 0 LF hb3 he3 (by unfold LF; omega)
  have hw3 : lpn (f_L_turns_L101 x (nI i) (nI len)) LF ((1 : Int32), (0 : Int32), (h', wasF c len)) = some ((1 : Int32), (h', wasF c len)) := hw3
  refine ⟨h', _, ?_, k2, k3, rfl⟩
  simp only [f_L_turns, e0, bs9, hw1, f_L_turns_J41, hw2, f_L_turns_J81, k1, not_true_eq_false, if_false, f_L_turns_J96, hw3, f_L_turns_J143, z01_1, if_true]
end Law4
