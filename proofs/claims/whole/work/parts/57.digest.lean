/-! PURE READING, 26: the class: the digest -/
def mix9 (s v : Int64) : Int64 := (31 : Int64) * s + v
def dgN (f : Nat → Int64 → Int64) : Nat → Int64 → Int64
  | 0, s => s
  | n + 1, s => f n (dgN f n s)
def dgL (f : Nat → Int32) (n : Nat) (s : Int64) : Int64 := dgN (fun i t => mix9 t (f i).toInt64) n s
def hueD (g : Nat → Nat) (X : Nat × List (Nat × Nat)) (u : Nat) (s : Int64) : Int64 := dgL (pnA g X.1 X.2 u) 3 (dgL (hnA g X.1 X.2 u) 4 s)
def ropeD (g : Nat → Nat) (R : RRt) (i : Nat) (s : Int64) : Int64 := mix9 (mix9 (mix9 (dgN (hueD g (atR R i)) 8 (dgL (fun p => oI (col g (atR R i).2 p)) (atR R i).1 (dgL (rnA g (atR R i)) 6 s))) (oI (bstA g (atR R i).1 (atR R i).2 8).1).toInt64) (nI (clashA g (atR R i).2)).toInt64) (nI (rjR g R i 0)).toInt64
def bitA (v : UInt64) : Int64 := (f_X1_bitsOfShare (fun _ => none) v).getD 0
def digA (A : AAt) : Int64 := dgL (fun k => nI (A.2.2.2.getD k 0)) A.2.2.2.length (mix9 (mix9 (dgL (fun u => oI (meetA (A.1.1 0) 1 (A.1.1 u) 0)) 8 (dgN (ropeD A.1.1 A.1.2.1) A.1.2.1.length (dgL (fun u => nI (A.1.1 u)) 8 (dgL (cntA A) 8 3643)))) (bitA (shrA A))) (nI A.2.2.2.length).toInt64)
theorem bitA_ok {A : AAt} (W : wfA A) (h h2 : PH) : f_X1_bitsOfShare h (shrA A) = some (bitA (shrA A)) ∧ f_X6_bitsOf h2 (shrA A) = some (bitA (shrA A)) := by
  obtain ⟨-, b, hb⟩ := shrA_ok W
  have e1 : bitA (shrA A) = b := by
    unfold bitA
    rw [(hb (fun _ => none) (fun _ => none)).1]
    rfl
  rw [e1]
  exact hb h h2
section MainDigest
variable {h : PH} {x : Nat} {k : Int32} {g : Nat → Nat} {R : RRt} {c1 c2 c3 : Int32} {r len : Nat} {L : List (Nat × Nat)}
theorem C_mixed (s v : Int64) : f_X5_mixed h s v = some (mix9 s v) := rfl
theorem C_hueMixed (hg : wfg g) (Hx : cX h x k) (HS : repS h (x + 1) g R c1 c2 c3) (W : wfR g len L) (H : repR g h r len L) {u : Nat} (hu : u < 8) (s : Int64) : f_X5_hueMixed h x s r (nI u) = some (hueD g (len, L) u s) := by
  have hb : ∀ j, 0 ≤ j → j < 0 + 4 → f_X5_hueMixed_L6 h x r (nI u) ((fun j => (dgL (hnA g len L u) j s, nI j)) j) = some (.inl ((fun j => (dgL (hnA g len L u) j s, nI j)) (j + 1))) := by
    intro j _ hj
    have b1 : ¬ (4 : Int32) ≤ nI j := nI_ge (b := 4) (by omega) (by omega)
    simp only [f_X5_hueMixed_L6, if_neg b1, R_hueNumber hg W H (show u < 2 ^ 31 by omega) (show j < 4 by omega), Option.bind_some, C_mixed, nI_1]
    rfl
  have he : f_X5_hueMixed_L6 h x r (nI u) ((fun j => (dgL (hnA g len L u) j s, nI j)) (0 + 4)) = some (.inr (dgL (hnA g len L u) 4 s)) := by
    have b1 : (4 : Int32) ≤ nI 4 := nI_le (a := 4) (Nat.le_refl _) (by omega)
    simp only [Nat.zero_add, f_X5_hueMixed_L6, if_pos b1]
  have hw := lpn_run (fun j => (dgL (hnA g len L u) j s, nI j)) _ 4 0 LF hb he (by unfold LF; omega)
  have hw0 : lpn (f_X5_hueMixed_L6 h x r (nI u)) LF (s, 0) = some (dgL (hnA g len L u) 4 s) := hw
  have gb : ∀ s, ∀ j, 0 ≤ j → j < 0 + 3 → f_X5_hueMixed_L37 h x r (nI u) ((fun j => (dgL (pnA g len L u) j s, nI j)) j) = some (.inl ((fun j => (dgL (pnA g len L u) j s, nI j)) (j + 1))) := by
    intro s j _ hj
    have b1 : ¬ (3 : Int32) ≤ nI j := nI_ge (b := 3) (by omega) (by omega)
    simp only [f_X5_hueMixed_L37, if_neg b1, Hx.r0, S_gapAt HS hu, R_phaseNumber hg W H (show u < 2 ^ 31 by omega) (show j < 3 by omega), Option.bind_some, C_mixed, nI_1]
    rfl
  have ge : ∀ s, f_X5_hueMixed_L37 h x r (nI u) ((fun j => (dgL (pnA g len L u) j s, nI j)) (0 + 3)) = some (.inr (dgL (pnA g len L u) 3 s)) := by
    intro s
    have b1 : (3 : Int32) ≤ nI 3 := nI_le (a := 3) (Nat.le_refl _) (by omega)
    simp only [Nat.zero_add, f_X5_hueMixed_L37, if_pos b1]
  have gw0 : ∀ s, lpn (f_X5_hueMixed_L37 h x r (nI u)) LF (s, 0) = some (dgL (pnA g len L u) 3 s) := fun s => lpn_run (fun j => (dgL (pnA g len L u) j s, nI j)) _ 3 0 LF (gb s) (ge s) (by unfold LF; omega)
  simp only [f_X5_hueMixed, f_X5_hueMixed_J34, f_X5_hueMixed_J74, Hx.ok, if_true, hw0, gw0, Option.bind_some]
  rfl
theorem C_ropeMixed {A : AAt} (W : wfA A) (H : repC h x A) {i : Nat} (hi : i < A.1.2.1.length) (s : Int64) : ∃ h', f_X5_ropeMixed h x s (nI i) = some (ropeD A.1.1 A.1.2.1 i s, h') ∧ repC h' x A ∧ onX x h h' := by
  obtain ⟨H1, H2, -⟩ := id H
  have hR := W.1.2.1
  obtain ⟨r, e1, e3, e4, e5, e6⟩ := C_existing H1 W.1 H2 (atR_get hi)
  have h0 : 0 < A.1.2.1.length := by omega
  obtain ⟨t, f1, f3, f4, f5, f6⟩ := C_existing H1 W.1 H2 (atR_get h0)
  have f3 : f_X3_ropeAt h (x + 1) 0 = some (some t) := f3
  have WR := W.1.2.2 _ (atR_mem hi)
  have WT := W.1.2.2 _ (atR_mem h0)
  have h60 := WR.1.2
  have hb : ∀ s, ∀ j, 0 ≤ j → j < 0 + 6 → f_X5_ropeMixed_L38 h x (nI i) r t ((fun j => (dgL (rnA A.1.1 (atR A.1.2.1 i)) j s, nI j)) j) = some (.inl ((fun j => (dgL (rnA A.1.1 (atR A.1.2.1 i)) j s, nI j)) (j + 1))) := by
    intro s j _ hj
    have b1 : ¬ (6 : Int32) ≤ nI j := nI_ge (b := 6) (by omega) (by omega)
    simp only [f_X5_ropeMixed_L38, if_neg b1, C_ropeNumber W.1.1 H1 H2 WR e4 (show j < 6 by omega), Option.bind_some, C_mixed, nI_1]
    rfl
  have he : ∀ s, f_X5_ropeMixed_L38 h x (nI i) r t ((fun j => (dgL (rnA A.1.1 (atR A.1.2.1 i)) j s, nI j)) (0 + 6)) = some (.inr (dgL (rnA A.1.1 (atR A.1.2.1 i)) 6 s)) := by
    intro s
    have b1 : (6 : Int32) ≤ nI 6 := nI_le (a := 6) (Nat.le_refl _) (by omega)
    simp only [Nat.zero_add, f_X5_ropeMixed_L38, if_pos b1]
  have hw0 : ∀ s, lpn (f_X5_ropeMixed_L38 h x (nI i) r t) LF (s, 0) = some (dgL (rnA A.1.1 (atR A.1.2.1 i)) 6 s) := fun s => lpn_run (fun j => (dgL (rnA A.1.1 (atR A.1.2.1 i)) j s, nI j)) _ 6 0 LF (hb s) (he s) (by unfold LF; omega)
  have gb : ∀ s, ∀ j, 0 ≤ j → j < 0 + (atR A.1.2.1 i).1 → f_X5_ropeMixed_L70 h x (nI i) r t ((fun j => (dgL (fun p => oI (col A.1.1 (atR A.1.2.1 i).2 p)) j s, nI j)) j) = some (.inl ((fun j => (dgL (fun p => oI (col A.1.1 (atR A.1.2.1 i).2 p)) j s, nI j)) (j + 1))) := by
    intro s j _ hj
    have b1 : ¬ nI (atR A.1.2.1 i).1 ≤ nI j := nI_ge (by omega) (by omega)
    simp only [f_X5_ropeMixed_L70, R_length e4, if_neg b1, R_colourAt WR e4 (show j < (atR A.1.2.1 i).1 by omega), Option.bind_some, C_mixed, nI_1]
    rfl
  have ge : ∀ s, f_X5_ropeMixed_L70 h x (nI i) r t ((fun j => (dgL (fun p => oI (col A.1.1 (atR A.1.2.1 i).2 p)) j s, nI j)) (0 + (atR A.1.2.1 i).1)) = some (.inr (dgL (fun p => oI (col A.1.1 (atR A.1.2.1 i).2 p)) (atR A.1.2.1 i).1 s)) := by
    intro s
    have b1 : nI (atR A.1.2.1 i).1 ≤ nI (atR A.1.2.1 i).1 := nI_le (Nat.le_refl _) (by omega)
    simp only [Nat.zero_add, f_X5_ropeMixed_L70, R_length e4, Option.bind_some, if_pos b1]
  have gw0 : ∀ s, lpn (f_X5_ropeMixed_L70 h x (nI i) r t) LF (s, 0) = some (dgL (fun p => oI (col A.1.1 (atR A.1.2.1 i).2 p)) (atR A.1.2.1 i).1 s) := fun s => lpn_run (fun j => (dgL (fun p => oI (col A.1.1 (atR A.1.2.1 i).2 p)) j s, nI j)) _ _ 0 LF (gb s) (ge s) (by unfold LF; omega)
  have kb : ∀ s, ∀ j, 0 ≤ j → j < 0 + 8 → f_X5_ropeMixed_L104 h x (nI i) r t ((fun j => (dgN (hueD A.1.1 (atR A.1.2.1 i)) j s, nI j)) j) = some (.inl ((fun j => (dgN (hueD A.1.1 (atR A.1.2.1 i)) j s, nI j)) (j + 1))) := by
    intro s j _ hj
    have b1 : ¬ (8 : Int32) ≤ nI j := nI_ge (b := 8) (by omega) (by omega)
    simp only [f_X5_ropeMixed_L104, if_neg b1, C_hueMixed W.1.1 H1 H2 WR e4 (show j < 8 by omega), Option.bind_some, nI_1]
    rfl
  have ke : ∀ s, f_X5_ropeMixed_L104 h x (nI i) r t ((fun j => (dgN (hueD A.1.1 (atR A.1.2.1 i)) j s, nI j)) (0 + 8)) = some (.inr (dgN (hueD A.1.1 (atR A.1.2.1 i)) 8 s)) := by
    intro s
    have b1 : (8 : Int32) ≤ nI 8 := nI_le (a := 8) (Nat.le_refl _) (by omega)
    simp only [Nat.zero_add, f_X5_ropeMixed_L104, if_pos b1]
  have kw0 : ∀ s, lpn (f_X5_ropeMixed_L104 h x (nI i) r t) LF (s, 0) = some (dgN (hueD A.1.1 (atR A.1.2.1 i)) 8 s) := fun s => lpn_run (fun j => (dgN (hueD A.1.1 (atR A.1.2.1 i)) j s, nI j)) _ 8 0 LF (kb s) (ke s) (by unfold LF; omega)
  unfold ropeD rjR
  by_cases hi0 : i = 0
  · subst hi0
    have b1 : ¬ ¬ nI 0 = (0 : Int32) := fun q => q rfl
    refine ⟨h, ?_, H, onX.rf⟩
    simp only [f_X5_ropeMixed, f_X5_ropeMixed_J67, f_X5_ropeMixed_J101, f_X5_ropeMixed_J129, f_X5_ropeMixed_J176, H1.ok, H1.r0, if_true, e3, f3, hw0, gw0, kw0, C_fillingHue W.1.1 H1 H2 WR e4, C_greatest W.1.1 H1 H2 WR e4, C_mixed, if_neg b1, Option.bind_some]
    rfl
  · rw [if_neg hi0]
    have b1 : ¬ nI i = 0 := nI_ne0 (by omega) (by omega)
    obtain ⟨h', m1, m2, m3⟩ := C_reasonJoin W.1.1 H1 H2 WR WT e4 f4 ⟨e5, e6⟩ ⟨f5, f6⟩ H.2.2.2.2.2.2
    refine ⟨h', ?_, H.draft W m2 m3, m2.toX⟩
    simp only [f_X5_ropeMixed, f_X5_ropeMixed_J67, f_X5_ropeMixed_J101, f_X5_ropeMixed_J129, f_X5_ropeMixed_J176, H1.ok, H1.r0, if_true, e3, f3, hw0, gw0, kw0, C_fillingHue W.1.1 H1 H2 WR e4, C_greatest W.1.1 H1 H2 WR e4, C_mixed, if_pos b1, m1, Option.bind_some]
theorem C_digest {A : AAt} (W : wfA A) (H : repC h x A) : ∃ h', f_X5_digest h x = some (digA A, h') ∧ repC h' x A ∧ onX x h h' := by
  obtain ⟨H1, H2, H3, H4, H5, H6, H7⟩ := id H
  have hR := W.1.2.1
  have hX := W.2.2.2.2.1
  have hg := W.1.1
  have ab : ∀ s, ∀ j, 0 ≤ j → j < 0 + 8 → f_X5_digest_L6 h x ((fun j => (dgL (cntA A) j s, nI j)) j) = some (.inl ((fun j => (dgL (cntA A) j s, nI j)) (j + 1))) := by
    intro s j _ hj
    have b1 : ¬ (8 : Int32) ≤ nI j := nI_ge (b := 8) (by omega) (by omega)
    simp only [f_X5_digest_L6, if_neg b1, C_counted W H (show j < 8 by omega), Option.bind_some, C_mixed, nI_1]
    rfl
  have ae : ∀ s, f_X5_digest_L6 h x ((fun j => (dgL (cntA A) j s, nI j)) (0 + 8)) = some (.inr (dgL (cntA A) 8 s)) := by
    intro s
    have b1 : (8 : Int32) ≤ nI 8 := nI_le (a := 8) (Nat.le_refl _) (by omega)
    simp only [Nat.zero_add, f_X5_digest_L6, if_pos b1]
  have aw : ∀ s, lpn (f_X5_digest_L6 h x) LF (s, 0) = some (dgL (cntA A) 8 s) := fun s => lpn_run (fun j => (dgL (cntA A) j s, nI j)) _ 8 0 LF (ab s) (ae s) (by unfold LF; omega)
  have bb : ∀ s, ∀ j, 0 ≤ j → j < 0 + 8 → f_X5_digest_L31 h x ((fun j => (dgL (fun u => nI (A.1.1 u)) j s, nI j)) j) = some (.inl ((fun j => (dgL (fun u => nI (A.1.1 u)) j s, nI j)) (j + 1))) := by
    intro s j _ hj
    have b1 : ¬ (8 : Int32) ≤ nI j := nI_ge (b := 8) (by omega) (by omega)
    simp only [f_X5_digest_L31, if_neg b1, H1.r0, S_gapAt H2 (show j < 8 by omega), Option.bind_some, C_mixed, nI_1]
    rfl
  have be : ∀ s, f_X5_digest_L31 h x ((fun j => (dgL (fun u => nI (A.1.1 u)) j s, nI j)) (0 + 8)) = some (.inr (dgL (fun u => nI (A.1.1 u)) 8 s)) := by
    intro s
    have b1 : (8 : Int32) ≤ nI 8 := nI_le (a := 8) (Nat.le_refl _) (by omega)
    simp only [Nat.zero_add, f_X5_digest_L31, if_pos b1]
  have bw : ∀ s, lpn (f_X5_digest_L31 h x) LF (s, 0) = some (dgL (fun u => nI (A.1.1 u)) 8 s) := fun s => lpn_run (fun j => (dgL (fun u => nI (A.1.1 u)) j s, nI j)) _ 8 0 LF (bb s) (be s) (by unfold LF; omega)
  have dw : ∀ s, ∃ z : Int64 × PH, lpn (f_X5_digest_L59 x) LF (s, 0, h) = some z ∧ (z.1 = dgN (ropeD A.1.1 A.1.2.1) A.1.2.1.length s ∧ repC z.2 x A ∧ onX x h z.2) := by
    intro s
    refine lpn_inv (b := f_X5_digest_L59 x) (fun j (z : Int64 × Int32 × PH) => z.2.1 = nI j ∧ z.1 = dgN (ropeD A.1.1 A.1.2.1) j s ∧ repC z.2.2 x A ∧ onX x h z.2.2) _ A.1.2.1.length ?_ ?_ A.1.2.1.length 0 LF (s, 0, h) (by omega) (by unfold LF; omega) ⟨rfl, rfl, H, onX.rf⟩
    · rintro j ⟨z1, z2, z3⟩ hj ⟨i1, i2, i3, i4⟩
      dsimp only at i1 i2 i3 i4
      subst i1
      obtain ⟨h', m1, m2, m3⟩ := C_ropeMixed W i3 hj z1
      have b1 : ¬ nI A.1.2.1.length ≤ nI j := nI_ge hj (by omega)
      refine ⟨(ropeD A.1.1 A.1.2.1 j z1, nI (j + 1), h'), ?_, rfl, ?_, m2, i4.tr m3⟩
      · simp only [f_X5_digest_L59, i3.1.r0, S_ropeCount i3.2.1, if_neg b1, m1, Option.bind_some, nI_1]
      · rw [i2]
        rfl
    · rintro ⟨z1, z2, z3⟩ ⟨i1, i2, i3, i4⟩
      dsimp only at i1 i2 i3 i4
      subst i1
      have b1 : nI A.1.2.1.length ≤ nI A.1.2.1.length := nI_le (Nat.le_refl _) (by omega)
      refine ⟨(z1, z3), ?_, i2, i3, i4⟩
      simp only [f_X5_digest_L59, i3.1.r0, S_ropeCount i3.2.1, if_pos b1, Option.bind_some]
  obtain ⟨⟨s3, h3⟩, d1, d2, d3, d4⟩ := dw (dgL (fun u => nI (A.1.1 u)) 8 (dgL (cntA A) 8 3643))
  dsimp only at d2 d3 d4
  obtain ⟨K1, K2, K3, K4, K5, K6, K7⟩ := id d3
  have g0 := hg 0
  have eb : ∀ s, ∀ j, 0 ≤ j → j < 0 + 8 → f_X5_digest_L85 h3 x ((fun j => (dgL (fun u => oI (meetA (A.1.1 0) 1 (A.1.1 u) 0)) j s, nI j)) j) = some (.inl ((fun j => (dgL (fun u => oI (meetA (A.1.1 0) 1 (A.1.1 u) 0)) j s, nI j)) (j + 1))) := by
    intro s j _ hj
    have b1 : ¬ (8 : Int32) ≤ nI j := nI_ge (b := 8) (by omega) (by omega)
    have gj := hg j
    have e1 := X1_meetByRemainders (h := h3) g0 gj (p := 1) (p2 := 0) (by omega) (by omega)
    have e1 : f_X1_meetByRemainders h3 (nI (A.1.1 0)) 1 (nI (A.1.1 j)) 0 = _ := e1
    have e2 := S_gapAt K2 (show 0 < 8 by omega)
    have e2 : f_X3_gapAt h3 (x + 1) 0 = _ := e2
    simp only [f_X5_digest_L85, if_neg b1, K1.r0, e2, S_gapAt K2 (show j < 8 by omega), e1, Option.bind_some, C_mixed, nI_1]
    rfl
  have ee : ∀ s, f_X5_digest_L85 h3 x ((fun j => (dgL (fun u => oI (meetA (A.1.1 0) 1 (A.1.1 u) 0)) j s, nI j)) (0 + 8)) = some (.inr (dgL (fun u => oI (meetA (A.1.1 0) 1 (A.1.1 u) 0)) 8 s)) := by
    intro s
    have b1 : (8 : Int32) ≤ nI 8 := nI_le (a := 8) (Nat.le_refl _) (by omega)
    simp only [Nat.zero_add, f_X5_digest_L85, if_pos b1]
  have ew : ∀ s, lpn (f_X5_digest_L85 h3 x) LF (s, 0) = some (dgL (fun u => oI (meetA (A.1.1 0) 1 (A.1.1 u) 0)) 8 s) := fun s => lpn_run (fun j => (dgL (fun u => oI (meetA (A.1.1 0) 1 (A.1.1 u) 0)) j s, nI j)) _ 8 0 LF (eb s) (ee s) (by unfold LF; omega)
  have fb : ∀ s, ∀ j, 0 ≤ j → j < 0 + A.2.2.2.length → f_X5_digest_L151 h3 x ((fun j => (dgL (fun k => nI (A.2.2.2.getD k 0)) j s, nI j)) j) = some (.inl ((fun j => (dgL (fun k => nI (A.2.2.2.getD k 0)) j s, nI j)) (j + 1))) := by
    intro s j _ hj
    have b1 : ¬ nI A.2.2.2.length ≤ nI j := nI_ge (by omega) (by omega)
    simp only [f_X5_digest_L151, K1.r3, T_length K6, if_neg b1, T_codeAt W.2.2.2.2 K6 (show j < A.2.2.2.length by omega), Option.bind_some, C_mixed, nI_1]
    rfl
  have fe : ∀ s, f_X5_digest_L151 h3 x ((fun j => (dgL (fun k => nI (A.2.2.2.getD k 0)) j s, nI j)) (0 + A.2.2.2.length)) = some (.inr (dgL (fun k => nI (A.2.2.2.getD k 0)) A.2.2.2.length s)) := by
    intro s
    have b1 : nI A.2.2.2.length ≤ nI A.2.2.2.length := nI_le (Nat.le_refl _) (by omega)
    simp only [Nat.zero_add, f_X5_digest_L151, K1.r3, T_length K6, Option.bind_some, if_pos b1]
  have fw : ∀ s, lpn (f_X5_digest_L151 h3 x) LF (s, 0) = some (dgL (fun k => nI (A.2.2.2.getD k 0)) A.2.2.2.length s) := fun s => lpn_run (fun j => (dgL (fun k => nI (A.2.2.2.getD k 0)) j s, nI j)) _ _ 0 LF (fb s) (fe s) (by unfold LF; omega)
  refine ⟨h3, ?_, d3, d4⟩
  simp only [f_X5_digest, f_X5_digest_J29, f_X5_digest_J57, f_X5_digest_J83, f_X5_digest_J124, f_X5_digest_J182, H1.ok, if_true, aw, bw, d1, ew, fw, C_fullness W d3, (bitA_ok W h3 h3).1, C_mixed, K1.r3, T_length K6, Option.bind_some]
  rw [d2]
  rfl
end MainDigest
