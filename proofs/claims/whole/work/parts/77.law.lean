/-! PURE READING, 46: the law -/
def lawN (c : Int32) (h : PH) (F : Nat → Int64) (x m : Nat) (a1 a2 a3 a4 nx : Int32) : LS9 :=
  if c = 0 then bK (w_gap (h, F) x a1 a2) (fun hh => f_X6_gap hh m a1 a2) m nx else
  if c = 1 then bK (w_rope (h, F) x a1) (fun hh => f_X6_rope hh m a1) m nx else
  if c = 2 then bK (w_drop (h, F) x a1) (fun hh => f_X6_drop hh m a1) m nx else
  if c = 3 then bK (w_lay (h, F) x a1 a2 a3) (fun hh => f_X6_lay hh m a1 a2 a3) m nx else
  if c = 4 then bK (w_take (h, F) x a1 a2) (fun hh => f_X6_take hh m a1 a2) m nx else
  if c = 5 then bK (w_stretch (h, F) x a1 a2) (fun hh => f_X6_stretch hh m a1 a2) m nx else
  if c = 6 then bK (w_cut (h, F) x a1 a2) (fun hh => f_X6_cut hh m a1 a2) m nx else
  if c = 7 then bK (w_turn (h, F) x a1) (fun hh => f_X6_turn hh m a1) m nx else
  if c = 8 then bK (w_join (h, F) x a1 a2) (fun hh => f_X6_join hh m a1 a2) m nx else
  if c = 9 then bK (w_append (h, F) x a1) (fun hh => f_X6_append hh m a1) m nx else
  if c = 10 then bW (f_X5_clearBuffer h x) (fun hh => f_X6_clearBuffer hh m) F nx else
  if c = 11 then bE (f_X5_firstError h x) (f_X6_firstError h m) F nx else
  if c = 12 then bK (w_play (h, F) x) (fun hh => f_X6_play hh m) m nx else
  if c = 13 then bK (w_undo (h, F) x) (fun hh => f_X6_undo hh m) m nx else
  if c = 14 then bW (f_X5_keep h x) (fun hh => f_X6_keep hh m) F nx else
  if c = 15 then bK (w_restore (h, F) x) (fun hh => f_X6_restore hh m) m nx else
  if c = 16 then bK (w_place (h, F) x a1 a2) (fun hh => f_X6_place hh m a1 a2) m nx else
  if c = 17 then bK (w_ropeOf (h, F) x a1 a2) (fun hh => f_X6_ropeOf hh m a1 a2) m nx else
  if c = 18 then bK (w_hueOf (h, F) x a1 a2 a3) (fun hh => f_X6_hueOf hh m a1 a2 a3) m nx else
  if c = 19 then bK (w_gapOf (h, F) x a1) (fun hh => f_X6_gapOf hh m a1) m nx else
  if c = 20 then bK (w_count (h, F) x a1) (fun hh => f_X6_count hh m a1) m nx else
  if c = 21 then bK (w_refusal (h, F) x a1 a2 a3) (fun hh => f_X6_refusal hh m a1 a2 a3) m nx else
  if c = 22 then bK (w_meeting (h, F) x a1 a2 a3 a4) (fun hh => f_X6_meeting hh m a1 a2 a3 a4) m nx else
  if c = 23 then bK (w_walked (h, F) x a1 a2 a3 a4) (fun hh => f_X6_walked hh m a1 a2 a3 a4) m nx else
  if c = 24 then bK (w_phases (h, F) x a1 a2 a3) (fun hh => f_X6_phases hh m a1 a2 a3) m nx else
  if c = 25 then bK (w_bestHue (h, F) x a1) (fun hh => f_X6_bestHue hh m a1) m nx else
  if c = 26 then bK (w_joining (h, F) x a1 a2) (fun hh => f_X6_joining hh m a1 a2) m nx else
  if c = 27 then bK (w_greatest (h, F) x a1) (fun hh => f_X6_greatest hh m a1) m nx else
  if c = 28 then bF (f_X5_fullness h x) (f_X6_fullness h m) F nx else
  if c = 29 then bD (f_X5_digest h x) (fun hh => f_X6_digest hh m) F nx else
  some (.inl (nx, (h, F)))
theorem law_end {xs : Nat → Int32} {L x m : Nat} {i : Int32} {hh : PH × (Nat → Int64)} (hi : Int32.ofNat L - (5 : Int32) < i) : f_L_law xs L x m (i, hh) = some (.inr ()) := if_pos hi
set_option maxRecDepth 20000 in
set_option maxHeartbeats 4000000 in
theorem law_go {xs : Nat → Int32} {L x m i : Nat} {h : PH} {F : Nat → Int64} (hL : L ≤ 2560) (hi : i + 5 ≤ L) : f_L_law xs L x m (nI i, (h, F)) = lawN (xs i &&& 31) h F x m (xs (i + 1)) (xs (i + 2)) (xs (i + 3)) (xs (i + 4)) (nI (i + 5)) := by
  have e5 : Int32.ofNat L - (5 : Int32) = nI (L - 5) := nI_sub (a := L) (b := 5) (by omega)
  have c5 : ¬ nI (L - 5) < nI i := nI_nlt (by omega) (by omega)
  have t1 : nI i + (1 : Int32) = nI (i + 1) := nI_add i 1
  have t2 : nI i + (2 : Int32) = nI (i + 2) := nI_add i 2
  have t3 : nI i + (3 : Int32) = nI (i + 3) := nI_add i 3
  have t4 : nI i + (4 : Int32) = nI (i + 4) := nI_add i 4
  have t5 : nI i + (5 : Int32) = nI (i + 5) := nI_add i 5
  have k0 : (nI i).toNatClampNeg = i := nI_clamp (by omega)
  have k1 : (nI (i + 1)).toNatClampNeg = i + 1 := nI_clamp (by omega)
  have k2 : (nI (i + 2)).toNatClampNeg = i + 2 := nI_clamp (by omega)
  have k3 : (nI (i + 3)).toNatClampNeg = i + 3 := nI_clamp (by omega)
  have k4 : (nI (i + 4)).toNatClampNeg = i + 4 := nI_clamp (by omega)
  have p0 : ¬ (nI i < 0 ∨ L ≤ i) := fun q => q.elim (nI_pos (by omega)) (by omega)
  have p1 : ¬ (nI (i + 1) < 0 ∨ L ≤ i + 1) := fun q => q.elim (nI_pos (by omega)) (by omega)
  have p2 : ¬ (nI (i + 2) < 0 ∨ L ≤ i + 2) := fun q => q.elim (nI_pos (by omega)) (by omega)
  have p3 : ¬ (nI (i + 3) < 0 ∨ L ≤ i + 3) := fun q => q.elim (nI_pos (by omega)) (by omega)
  have p4 : ¬ (nI (i + 4) < 0 ∨ L ≤ i + 4) := fun q => q.elim (nI_pos (by omega)) (by omega)
  simp only [f_L_law, f_L_law_J1894, f_L_law_J237, f_L_law_J293, f_L_law_J349, f_L_law_J429, f_L_law_J497, f_L_law_J565, f_L_law_J633, f_L_law_J689, f_L_law_J757, f_L_law_J813, f_L_law_J883, f_L_law_J927, f_L_law_J984, f_L_law_J1052, f_L_law_J1120, f_L_law_J1200, f_L_law_J1256, f_L_law_J1312, f_L_law_J1392, f_L_law_J1484, f_L_law_J1576, f_L_law_J1656, f_L_law_J1712, f_L_law_J1780, f_L_law_J1836, f_L_law_J1877, lawN, bK, bW, bE, bF, bD, e5, if_neg c5, t1, t2, t3, t4, t5, k0, k1, k2, k3, k4, if_pos p0, if_pos p1, if_pos p2, if_pos p3, if_pos p4]
theorem law_step {h : PH} {F : Nat → Int64} {x : Nat} {A : AAt} (B : Both h x A) (c a1 a2 a3 a4 nx : Int32) : ∃ h' F' A', lawN c h F x (x + 128) a1 a2 a3 a4 nx = some (.inl (nx, (h', F'))) ∧ Both h' x A' := by
  unfold lawN
  by_cases c0 : c = 0
  · rw [if_pos c0]; exact b_gap B F nx a1 a2
  rw [if_neg c0]
  by_cases c1 : c = 1
  · rw [if_pos c1]; exact b_rope B F nx a1
  rw [if_neg c1]
  by_cases c2 : c = 2
  · rw [if_pos c2]; exact b_drop B F nx a1
  rw [if_neg c2]
  by_cases c3 : c = 3
  · rw [if_pos c3]; exact b_lay B F nx a1 a2 a3
  rw [if_neg c3]
  by_cases c4 : c = 4
  · rw [if_pos c4]; exact b_take B F nx a1 a2
  rw [if_neg c4]
  by_cases c5 : c = 5
  · rw [if_pos c5]; exact b_stretch B F nx a1 a2
  rw [if_neg c5]
  by_cases c6 : c = 6
  · rw [if_pos c6]; exact b_cut B F nx a1 a2
  rw [if_neg c6]
  by_cases c7 : c = 7
  · rw [if_pos c7]; exact b_turn B F nx a1
  rw [if_neg c7]
  by_cases c8 : c = 8
  · rw [if_pos c8]; exact b_join B F nx a1 a2
  rw [if_neg c8]
  by_cases c9 : c = 9
  · rw [if_pos c9]; exact b_append B F nx a1
  rw [if_neg c9]
  by_cases c10 : c = 10
  · rw [if_pos c10]; exact b_clearBuffer B F nx
  rw [if_neg c10]
  by_cases c11 : c = 11
  · rw [if_pos c11]; exact b_firstError B F nx
  rw [if_neg c11]
  by_cases c12 : c = 12
  · rw [if_pos c12]; exact b_play B F nx
  rw [if_neg c12]
  by_cases c13 : c = 13
  · rw [if_pos c13]; exact b_undo B F nx
  rw [if_neg c13]
  by_cases c14 : c = 14
  · rw [if_pos c14]; exact b_keep B F nx
  rw [if_neg c14]
  by_cases c15 : c = 15
  · rw [if_pos c15]; exact b_restore B F nx
  rw [if_neg c15]
  by_cases c16 : c = 16
  · rw [if_pos c16]; exact b_place B F nx a1 a2
  rw [if_neg c16]
  by_cases c17 : c = 17
  · rw [if_pos c17]; exact b_ropeOf B F nx a1 a2
  rw [if_neg c17]
  by_cases c18 : c = 18
  · rw [if_pos c18]; exact b_hueOf B F nx a1 a2 a3
  rw [if_neg c18]
  by_cases c19 : c = 19
  · rw [if_pos c19]; exact b_gapOf B F nx a1
  rw [if_neg c19]
  by_cases c20 : c = 20
  · rw [if_pos c20]; exact b_count B F nx a1
  rw [if_neg c20]
  by_cases c21 : c = 21
  · rw [if_pos c21]; exact b_refusal B F nx a1 a2 a3
  rw [if_neg c21]
  by_cases c22 : c = 22
  · rw [if_pos c22]; exact b_meeting B F nx a1 a2 a3 a4
  rw [if_neg c22]
  by_cases c23 : c = 23
  · rw [if_pos c23]; exact b_walked B F nx a1 a2 a3 a4
  rw [if_neg c23]
  by_cases c24 : c = 24
  · rw [if_pos c24]; exact b_phases B F nx a1 a2 a3
  rw [if_neg c24]
  by_cases c25 : c = 25
  · rw [if_pos c25]; exact b_bestHue B F nx a1
  rw [if_neg c25]
  by_cases c26 : c = 26
  · rw [if_pos c26]; exact b_joining B F nx a1 a2
  rw [if_neg c26]
  by_cases c27 : c = 27
  · rw [if_pos c27]; exact b_greatest B F nx a1
  rw [if_neg c27]
  by_cases c28 : c = 28
  · rw [if_pos c28]; exact b_fullness B F nx
  rw [if_neg c28]
  by_cases c29 : c = 29
  · rw [if_pos c29]; exact b_digest B F nx
  rw [if_neg c29]
  exact ⟨h, F, A, rfl, B⟩
theorem law_run {xs : Nat → Int32} {L x : Nat} (hL : L ≤ 2560) : ∀ (k i fuel : Nat) (h : PH) (F : Nat → Int64) (A : AAt), L < i + 5 * k → i ≤ L → k < fuel → Both h x A → lpn (f_L_law xs L x (x + 128)) fuel (nI i, (h, F)) = some () := by
  intro k
  induction k with
  | zero => intro i fuel h F A h1 h2; omega
  | succ k ih =>
    intro i fuel h F A h1 h2 h3 B
    obtain ⟨fuel, rfl⟩ : ∃ q, fuel = q + 1 := ⟨fuel - 1, by omega⟩
    by_cases hi : i + 5 ≤ L
    · obtain ⟨h', F', A', e1, B'⟩ := law_step (F := F) B (xs i &&& 31) (xs (i + 1)) (xs (i + 2)) (xs (i + 3)) (xs (i + 4)) (nI (i + 5))
      exact (lpn_l ((law_go hL hi).trans e1)).trans (ih (i + 5) fuel h' F' A' (by omega) hi (by omega) B')
    · refine lpn_r (law_end ?_)
      by_cases h5 : 5 ≤ L
      · have e5 : Int32.ofNat L - (5 : Int32) = nI (L - 5) := nI_sub (a := L) (b := 5) h5
        rw [e5]
        exact nI_lt (by omega) (by omega)
      · have e6 : ∀ d : Fin 5, Int32.ofNat d - (5 : Int32) < 0 := by decide
        exact Int32.lt_of_lt_of_le (e6 ⟨L, by omega⟩) (Int32.not_lt.mp (nI_pos (by omega)))
theorem pure_claim {xs : Nat → Int32} {L : Nat} (hL : L ≤ 2560) : PureClaim xs L := by
  intro z
  obtain ⟨h2, c1, c2, c3⟩ := I_class (h := pu (fun _ => none) z (.inr (.inr (4, [.null, .null, .null, .null, .null, .int 0])))) (x := z) pu_s
  obtain ⟨h4, d1, d2, d3⟩ := I_model (h := pu h2 (z + 1 + 127) (.inr (.inr (5, [.int 0, .null, .null, .null, .int 0, .null, .int 0, .null, .int 0, .null, .int 0, .int 0, .int 0, .int 0, .int 0, .long 0])))) (m := z + 1 + 127) pu_s
  have em : z + 1 + 127 = z + 128 := by omega
  refine ⟨h2, h4, c1, d1, ?_⟩
  rw [em] at d2 d3 ⊢
  exact law_run hL 513 0 700 h4 _ A09 (by omega) (by omega) (by omega) ⟨wf_A09, c2.out wf_A09 (fun b b1 b2 => (d3 b (by omega)).trans (pu_n (by omega))), _, d2⟩
