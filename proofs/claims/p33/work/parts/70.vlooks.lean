/-! THE LAW, 1: calls that are possible, as the law makes them -/
section Law1
variable {h : PH} {x : Nat} {A : AAt}
theorem btw_of {lo hi n : Nat} (h1 : lo ≤ n) (h2 : n ≤ hi) (h3 : hi < 2 ^ 31 - 1) : btw lo hi (nI n) = some n := by
  unfold btw
  rw [rng_of (show n < hi + 1 by omega) (by omega)]
  dsimp only
  rw [if_pos h1]
theorem V_count (W : wfA A) (H : repC h x A) {w : Nat} (hw : w < 8) : okL9 (f_X5_count h x (nI w)) = some (cntA A w) := by
  rw [C_count W H]
  unfold sp_count
  rw [rng_of hw (by omega)]
  rfl
theorem V_count0 (W : wfA A) (H : repC h x A) : okL9 (f_X5_count h x (0 : Int32)) = some (nI A.1.2.1.length) := V_count W H (w := 0) (by omega)
theorem V_count1 (W : wfA A) (H : repC h x A) : okL9 (f_X5_count h x (1 : Int32)) = some (nI (sum9 (lenAt A.1.2.1) A.1.2.1.length)) := V_count W H (w := 1) (by omega)
theorem V_count2 (W : wfA A) (H : repC h x A) : okL9 (f_X5_count h x (2 : Int32)) = some (nI (sum9 (holA A.1.1 A.1.2.1) A.1.2.1.length)) := V_count W H (w := 2) (by omega)
theorem V_count4 (W : wfA A) (H : repC h x A) : okL9 (f_X5_count h x (4 : Int32)) = some A.1.2.2.1 := V_count W H (w := 4) (by omega)
theorem V_count6 (W : wfA A) (H : repC h x A) : okL9 (f_X5_count h x (6 : Int32)) = some A.1.2.2.2.2 := V_count W H (w := 6) (by omega)
theorem V_count7 (W : wfA A) (H : repC h x A) : okL9 (f_X5_count h x (7 : Int32)) = some (nI A.2.1.length) := V_count W H (w := 7) (by omega)
theorem V_gapOf (W : wfA A) (H : repC h x A) {u : Nat} (hu : u < 8) : okL9 (f_X5_gapOf h x (nI u)) = some (nI (A.1.1 u)) := by
  rw [C_gapOf W H]
  unfold sp_gapOf
  rw [rng_of hu (by omega)]
  rfl
theorem V_ropeOf (W : wfA A) (H : repC h x A) {i w : Nat} (hi : i < A.1.2.1.length) (hw : w < 6) : okL9 (f_X5_ropeOf h x (nI i) (nI w)) = some (rnA A.1.1 (atR A.1.2.1 i) w) := by
  have hR := W.1.2.1
  rw [C_ropeOf W H]
  unfold sp_ropeOf
  rw [rng_of hi (by omega)]
  dsimp only
  rw [rng_of hw (by omega)]
  rfl
theorem V_rope0 (W : wfA A) (H : repC h x A) {i : Nat} (hi : i < A.1.2.1.length) : okL9 (f_X5_ropeOf h x (nI i) (0 : Int32)) = some (nI (atR A.1.2.1 i).1) := V_ropeOf W H hi (w := 0) (by omega)
theorem V_rope1 (W : wfA A) (H : repC h x A) {i : Nat} (hi : i < A.1.2.1.length) : okL9 (f_X5_ropeOf h x (nI i) (1 : Int32)) = some (nI (atR A.1.2.1 i).2.length) := V_ropeOf W H hi (w := 1) (by omega)
def holL (g : Nat → Nat) (len : Nat) (L : List (Nat × Nat)) : Nat := cnt9 (fun i => decide (col g L i = none)) len
theorem V_rope2 (W : wfA A) (H : repC h x A) {i : Nat} (hi : i < A.1.2.1.length) : okL9 (f_X5_ropeOf h x (nI i) (2 : Int32)) = some (nI (holL A.1.1 (atR A.1.2.1 i).1 (atR A.1.2.1 i).2)) := V_ropeOf W H hi (w := 2) (by omega)
theorem V_rope3 (W : wfA A) (H : repC h x A) {i : Nat} (hi : i < A.1.2.1.length) : okL9 (f_X5_ropeOf h x (nI i) (3 : Int32)) = some (oI (fst9 (fun j => decide (col A.1.1 (atR A.1.2.1 i).2 j = none)) 0 (atR A.1.2.1 i).1)) := V_ropeOf W H hi (w := 3) (by omega)
theorem V_rope4 (W : wfA A) (H : repC h x A) {i : Nat} (hi : i < A.1.2.1.length) : okL9 (f_X5_ropeOf h x (nI i) (4 : Int32)) = some (nI (mho9 (fun j => decide (col A.1.1 (atR A.1.2.1 i).2 j = none)) (atR A.1.2.1 i).1)) := V_ropeOf W H hi (w := 4) (by omega)
theorem V_rope5 (W : wfA A) (H : repC h x A) {i : Nat} (hi : i < A.1.2.1.length) : okL9 (f_X5_ropeOf h x (nI i) (5 : Int32)) = some (nI (perA A.1.1 (atR A.1.2.1 i).2)) := V_ropeOf W H hi (w := 5) (by omega)
theorem V_hueOf (W : wfA A) (H : repC h x A) {i u w : Nat} (hi : i < A.1.2.1.length) (hu : u < 8) (hw : w < 4) : okL9 (f_X5_hueOf h x (nI i) (nI u) (nI w)) = some (hnA A.1.1 (atR A.1.2.1 i).1 (atR A.1.2.1 i).2 u w) := by
  have hR := W.1.2.1
  rw [C_hueOf W H]
  unfold sp_hueOf
  rw [rng_of hi (by omega)]
  dsimp only
  rw [rng_of hu (by omega)]
  dsimp only
  rw [rng_of hw (by omega)]
  rfl

theorem V_hue0 (W : wfA A) (H : repC h x A) {i u : Nat} (hi : i < A.1.2.1.length) (hu : u < 8) : okL9 (f_X5_hueOf h x (nI i) (nI u) (0 : Int32)) = some (hnA A.1.1 (atR A.1.2.1 i).1 (atR A.1.2.1 i).2 u 0) := V_hueOf W H hi hu (w := 0) (by omega)
theorem V_hue1 (W : wfA A) (H : repC h x A) {i u : Nat} (hi : i < A.1.2.1.length) (hu : u < 8) : okL9 (f_X5_hueOf h x (nI i) (nI u) (1 : Int32)) = some (hnA A.1.1 (atR A.1.2.1 i).1 (atR A.1.2.1 i).2 u 1) := V_hueOf W H hi hu (w := 1) (by omega)
theorem V_hue2 (W : wfA A) (H : repC h x A) {i u : Nat} (hi : i < A.1.2.1.length) (hu : u < 8) : okL9 (f_X5_hueOf h x (nI i) (nI u) (2 : Int32)) = some (hnA A.1.1 (atR A.1.2.1 i).1 (atR A.1.2.1 i).2 u 2) := V_hueOf W H hi hu (w := 2) (by omega)
theorem V_hue3 (W : wfA A) (H : repC h x A) {i u : Nat} (hi : i < A.1.2.1.length) (hu : u < 8) : okL9 (f_X5_hueOf h x (nI i) (nI u) (3 : Int32)) = some (hnA A.1.1 (atR A.1.2.1 i).1 (atR A.1.2.1 i).2 u 3) := V_hueOf W H hi hu (w := 3) (by omega)
theorem hn_no {g : Nat → Nat} {len : Nat} {L : List (Nat × Nat)} {u : Nat} (hp : phs L u = none) (w : Nat) : hnA g len L u w = -1 := by
  unfold hnA
  rw [hp]
theorem hn_0 {g : Nat → Nat} {len : Nat} {L : List (Nat × Nat)} {u p : Nat} (hp : phs L u = some p) : hnA g len L u 0 = nI p := by
  unfold hnA
  rw [hp]
  rfl
theorem hn_1 {g : Nat → Nat} {len : Nat} {L : List (Nat × Nat)} {u p : Nat} (hp : phs L u = some p) : hnA g len L u 1 = nI (stp9 len p (g u)) := by
  unfold hnA
  rw [hp]
  rfl
theorem hn_2 {g : Nat → Nat} {len : Nat} {L : List (Nat × Nat)} {u p : Nat} (hp : phs L u = some p) : hnA g len L u 2 = nI (lst p (g u) len) := by
  unfold hnA
  rw [hp]
  rfl
theorem hn_3 {g : Nat → Nat} {len : Nat} {L : List (Nat × Nat)} {u p : Nat} (hp : phs L u = some p) : hnA g len L u 3 = oI (ixo L u) := by
  unfold hnA
  rw [hp]
  rfl
theorem V_place (W : wfA A) (H : repC h x A) {i p : Nat} (hi : i < A.1.2.1.length) (hp : p < (atR A.1.2.1 i).1) : okL9 (f_X5_place h x (nI i) (nI p)) = some (oI (col A.1.1 (atR A.1.2.1 i).2 p)) := by
  have hR := W.1.2.1
  have h60 := (W.1.2.2 _ (atR_mem hi)).1.2
  rw [C_place W H]
  unfold sp_place
  rw [rng_of hi (by omega)]
  dsimp only
  rw [rng_of hp (by omega)]
  rfl
theorem V_refusal (W : wfA A) (H : repC h x A) {i u p : Nat} (hi : i < A.1.2.1.length) (hu : u < 8) (hp : p < A.1.1 u) : okL9 (f_X5_refusal h x (nI i) (nI u) (nI p)) = some (nI (whyA A.1.1 (atR A.1.2.1 i).1 (atR A.1.2.1 i).2 u p)) := by
  have hR := W.1.2.1
  have hg := W.1.1 u
  rw [C_refusal W H]
  unfold sp_refusal
  rw [rng_of hi (by omega)]
  dsimp only
  rw [rng_of hu (by omega)]
  dsimp only
  rw [rng_of hp (by omega)]
  rfl
theorem V_phases (W : wfA A) (H : repC h x A) {i u w : Nat} (hi : i < A.1.2.1.length) (hu : u < 8) (hw : w < 3) : okL9 (f_X5_phases h x (nI i) (nI u) (nI w)) = some (pnA A.1.1 (atR A.1.2.1 i).1 (atR A.1.2.1 i).2 u w) := by
  have hR := W.1.2.1
  rw [C_phases W H]
  unfold sp_phases
  rw [rng_of hi (by omega)]
  dsimp only
  rw [rng_of hu (by omega)]
  dsimp only
  rw [rng_of hw (by omega)]
  rfl
theorem V_meet (W : wfA A) (H : repC h x A) {u v p q : Nat} (hu : u < 8) (hv : v < 8) (hp : p < A.1.1 u) (hq : q < A.1.1 v) : okL9 (f_X5_meeting h x (nI u) (nI p) (nI v) (nI q)) = some (oI (meetA (A.1.1 u) p (A.1.1 v) q)) ∧ okL9 (f_X5_walked h x (nI u) (nI p) (nI v) (nI q)) = some (oI (meetA (A.1.1 u) p (A.1.1 v) q)) := by
  have hgu := W.1.1 u
  have hgv := W.1.1 v
  have e := C_meeting W H (nI u) (nI p) (nI v) (nI q)
  have e2 : sp_meet A (nI u) (nI p) (nI v) (nI q) = .ok (oI (meetA (A.1.1 u) p (A.1.1 v) q)) := by
    unfold sp_meet
    rw [rng_of hu (by omega)]
    dsimp only
    rw [rng_of hv (by omega)]
    dsimp only
    rw [rng_of hp (by omega)]
    dsimp only
    rw [rng_of hq (by omega)]
  rw [e.1, e.2, e2]
  exact ⟨rfl, rfl⟩
theorem V_great (W : wfA A) (H : repC h x A) {i : Nat} (hi : i < A.1.2.1.length) : okL9 (f_X5_greatest h x (nI i)) = some (nI (clashA A.1.1 (atR A.1.2.1 i).2)) := by
  have hR := W.1.2.1
  rw [C_great W H]
  unfold sp_greatest
  rw [rng_of hi (by omega)]
  rfl
/-- a change that is possible -/
theorem K_ok {f : Option (Except (String × PH) (Int32 × PH))} {e : List String} {sp : Except Nat (Int32 × AAt)} {n : Nat} {v : Int32} {A' : AAt} (hc : CK f e h x A sp) (ok : okK n sp) (hs : sp = .ok (v, A')) : ∃ h', okW f = some (v, h') ∧ repC h' x A' ∧ wfA A' := by
  obtain ⟨h', e1, e2, -⟩ := hc
  subst hs
  exact ⟨h', by rw [e1]; rfl, e2, ok⟩
theorem K_rope (W : wfA A) (H : repC h x A) {n : Nat} (h1 : 1 ≤ n) (h2 : n ≤ 60) (hR : ¬ A.1.2.1.length = 4) : ∃ h', okW (f_X5_rope h x (nI n)) = some (nI A.1.2.1.length, h') ∧ repC h' x ((A.1.1, A.1.2.1 ++ [(n, [])], A.1.2.2), (svA A).2) ∧ wfA ((A.1.1, A.1.2.1 ++ [(n, [])], A.1.2.2), (svA A).2) := by
  refine K_ok (C_rope W H (nI n)) (ok_rope W (nI n)) ?_
  unfold sp_rope
  rw [btw_of h1 h2 (by omega)]
  dsimp only
  rw [if_neg hR]
theorem K_drop (W : wfA A) (H : repC h x A) {i : Nat} (hi : i < A.1.2.1.length) : ∃ h', okW (f_X5_drop h x (nI i)) = some (nI (A.1.2.1.length - 1), h') ∧ repC h' x ((A.1.1, A.1.2.1.eraseIdx i, A.1.2.2), (svA A).2) ∧ wfA ((A.1.1, A.1.2.1.eraseIdx i, A.1.2.2), (svA A).2) := by
  have hR := W.1.2.1
  refine K_ok (C_drop W H (nI i)) (ok_drop W (nI i)) ?_
  unfold sp_drop
  rw [rng_of hi (by omega)]
theorem K_gap (W : wfA A) (H : repC h x A) {u v : Nat} (hu : u < 8) (h1 : 2 ≤ v) (h2 : v ≤ 20) (hn : ¬ anyA A.1.2.1 u = true) : ∃ h', okW (f_X5_gap h x (nI u) (nI v)) = some (nI (A.1.1 u), h') ∧ repC h' x (((fun w => if w = u then v else A.1.1 w), A.1.2), (svA A).2) ∧ wfA (((fun w => if w = u then v else A.1.1 w), A.1.2), (svA A).2) := by
  refine K_ok (C_gap W H (nI u) (nI v)) (ok_gap W (nI u) (nI v)) ?_
  unfold sp_gap
  rw [rng_of hu (by omega)]
  dsimp only
  rw [btw_of h1 h2 (by omega)]
  dsimp only
  rw [if_neg hn]
theorem K_lay (W : wfA A) (H : repC h x A) {i u p : Nat} (hi : i < A.1.2.1.length) (hu : u < 8) (hp : p < A.1.1 u) (hw : whyA A.1.1 (atR A.1.2.1 i).1 (atR A.1.2.1 i).2 u p = 0) : ∃ h', okW (f_X5_lay h x (nI i) (nI u) (nI p)) = some (nI (stp9 (atR A.1.2.1 i).1 p (A.1.1 u)), h') ∧ repC h' x ((A.1.1, A.1.2.1.set i ((atR A.1.2.1 i).1, (atR A.1.2.1 i).2 ++ [(u, p)]), A.1.2.2.1 + 1, A.1.2.2.2), (svA A).2) ∧ wfA ((A.1.1, A.1.2.1.set i ((atR A.1.2.1 i).1, (atR A.1.2.1 i).2 ++ [(u, p)]), A.1.2.2.1 + 1, A.1.2.2.2), (svA A).2) := by
  have hR := W.1.2.1
  have hg := W.1.1 u
  refine K_ok (C_lay W H (nI i) (nI u) (nI p)) (ok_lay W (nI i) (nI u) (nI p)) ?_
  unfold sp_lay
  rw [rng_of hi (by omega)]
  dsimp only
  rw [rng_of hu (by omega)]
  dsimp only
  rw [rng_of hp (by omega)]
  dsimp only
  rw [if_pos hw]
theorem K_take (W : wfA A) (H : repC h x A) {i u p : Nat} (hi : i < A.1.2.1.length) (hu : u < 8) (hp : phs (atR A.1.2.1 i).2 u = some p) : ∃ h', okW (f_X5_take h x (nI i) (nI u)) = some (nI (stp9 (atR A.1.2.1 i).1 p (A.1.1 u)), h') ∧ repC h' x ((A.1.1, A.1.2.1.set i ((atR A.1.2.1 i).1, (atR A.1.2.1 i).2.filter (fun q => decide (¬ q.1 = u))), A.1.2.2), (svA A).2) ∧ wfA ((A.1.1, A.1.2.1.set i ((atR A.1.2.1 i).1, (atR A.1.2.1 i).2.filter (fun q => decide (¬ q.1 = u))), A.1.2.2), (svA A).2) := by
  have hR := W.1.2.1
  refine K_ok (C_take W H (nI i) (nI u)) (ok_take W (nI i) (nI u)) ?_
  unfold sp_take
  rw [rng_of hi (by omega)]
  dsimp only
  rw [rng_of hu (by omega)]
  dsimp only
  rw [hp]
theorem K_stretch (W : wfA A) (H : repC h x A) {i n : Nat} (hi : i < A.1.2.1.length) (h1 : 1 ≤ n) (h2 : n ≤ 60) (hc : n ≤ clashA A.1.1 (atR A.1.2.1 i).2) : ∃ h', okW (f_X5_stretch h x (nI i) (nI n)) = some (nI ((atR A.1.2.1 i).2.length - (fltA n (atR A.1.2.1 i).2).length), h') ∧ repC h' x ((A.1.1, A.1.2.1.set i (n, fltA n (atR A.1.2.1 i).2), A.1.2.2), (svA A).2) ∧ wfA ((A.1.1, A.1.2.1.set i (n, fltA n (atR A.1.2.1 i).2), A.1.2.2), (svA A).2) := by
  have hR := W.1.2.1
  refine K_ok (C_stretch W H (nI i) (nI n)) (ok_stretch W (nI i) (nI n)) ?_
  unfold sp_stretch
  rw [rng_of hi (by omega)]
  dsimp only
  rw [btw_of h1 h2 (by omega)]
  dsimp only
  rw [if_pos hc]
/-- the state behind a cut -/
def cutT (A : AAt) (i p : Nat) : AAt := ((A.1.1, (A.1.2.1 ++ [((atR A.1.2.1 i).1 - p, (atR A.1.2.1 i).2.filterMap (bkA A.1.1 p (atR A.1.2.1 i).1))]).set i (p, fltA p (atR A.1.2.1 i).2), A.1.2.2.1, A.1.2.2.2.1, A.1.2.2.2.2 + 1), (svA A).2)
theorem K_cut (W : wfA A) (H : repC h x A) {i p : Nat} (hi : i < A.1.2.1.length) (h1 : 1 ≤ p) (h2 : p < (atR A.1.2.1 i).1) (hR4 : ¬ A.1.2.1.length = 4) : ∃ h', okW (f_X5_cut h x (nI i) (nI p)) = some (nI A.1.2.1.length, h') ∧ repC h' x (cutT A i p) ∧ wfA (cutT A i p) := by
  have hR := W.1.2.1
  have h60 := (W.1.2.2 _ (atR_mem hi)).1.2
  refine K_ok (C_cut W H (nI i) (nI p)) (ok_cut W (nI i) (nI p)) ?_
  unfold sp_cut
  rw [rng_of hi (by omega)]
  dsimp only
  rw [btw_of h1 (show p ≤ (atR A.1.2.1 i).1 - 1 by omega) (by omega)]
  dsimp only
  rw [if_neg hR4]
  rfl
theorem K_turn (W : wfA A) (H : repC h x A) {i : Nat} (hi : i < A.1.2.1.length) : ∃ h', okW (f_X5_turn h x (nI i)) = some (nI (unlA A.1.1 (atR A.1.2.1 i)), h') ∧ repC h' x ((A.1.1, A.1.2.1.set i (trnA A.1.1 (atR A.1.2.1 i)), A.1.2.2), (svA A).2) ∧ wfA ((A.1.1, A.1.2.1.set i (trnA A.1.1 (atR A.1.2.1 i)), A.1.2.2), (svA A).2) := by
  have hR := W.1.2.1
  refine K_ok (C_turn W H (nI i)) (ok_turn W (nI i)) ?_
  unfold sp_turn
  rw [rng_of hi (by omega)]
/-- the state behind a join -/
def joinT (A : AAt) (i j : Nat) : AAt := ((A.1.1, (A.1.2.1.set i ((atR A.1.2.1 i).1 + (atR A.1.2.1 j).1, jnA A.1.1 (atR A.1.2.1 i).1 (atR A.1.2.1 i).2 (atR A.1.2.1 j).2)).eraseIdx j, A.1.2.2.1, A.1.2.2.2.1 + 1, A.1.2.2.2.2), (svA A).2)
theorem K_join (W : wfA A) (H : repC h x A) {i j : Nat} (hi : i < A.1.2.1.length) (hj : j < A.1.2.1.length) (hr : rjR A.1.1 A.1.2.1 i j = 0) : ∃ h', okW (f_X5_join h x (nI i) (nI j)) = some (nI ((atR A.1.2.1 i).1 + (atR A.1.2.1 j).1), h') ∧ repC h' x (joinT A i j) ∧ wfA (joinT A i j) := by
  have hR := W.1.2.1
  refine K_ok (C_join W H (nI i) (nI j)) (ok_join W (nI i) (nI j)) ?_
  unfold rjR at hr
  by_cases hij : i = j
  · rw [if_pos hij] at hr
    cases hr
  rw [if_neg hij] at hr
  unfold sp_join
  rw [rng_of hi (by omega)]
  dsimp only
  rw [rng_of hj (by omega)]
  dsimp only
  rw [if_neg hij, if_pos hr]
  rfl
theorem K_joining (W : wfA A) (H : repC h x A) {i j : Nat} (hi : i < A.1.2.1.length) (hj : j < A.1.2.1.length) : ∃ h', okW (f_X5_joining h x (nI i) (nI j)) = some (nI (rjR A.1.1 A.1.2.1 i j), h') ∧ repC h' x A := by
  have hR := W.1.2.1
  obtain ⟨h', e1, e2, -⟩ := K_ok (v := nI (rjR A.1.1 A.1.2.1 i j)) (A' := A) (C_joining W H (nI i) (nI j)) (ok_joining W (nI i) (nI j)) (by
    unfold sp_joining
    rw [rng_of hi (by omega)]
    dsimp only
    rw [rng_of hj (by omega)])
  exact ⟨h', e1, e2⟩
theorem K_undo (W : wfA A) (H : repC h x A) {T : TTt} (hT : A.2.1[A.2.1.length - 1]? = some T) : ∃ h', okW (f_X5_undo h x) = some (nI (A.2.1.length - 1), h') ∧ repC h' x (T, A.2.1.take (A.2.1.length - 1), A.2.2) ∧ wfA (T, A.2.1.take (A.2.1.length - 1), A.2.2) := by
  refine K_ok (C_undo W H) (ok_undo W) ?_
  unfold sp_undo
  rw [hT]
theorem K_restore (W : wfA A) (H : repC h x A) {T : TTt} (hT : A.2.2.1 = some T) : ∃ h', okW (f_X5_restore h x) = some (nI T.2.1.length, h') ∧ repC h' x (T, (svA A).2) ∧ wfA (T, (svA A).2) := by
  refine K_ok (C_restore W H) (ok_restore W) ?_
  unfold sp_restore
  rw [hT]
theorem sv_last (A : AAt) : (svA A).2.1[(svA A).2.1.length - 1]? = some A.1 := by
  show (savA A.2.1 A.1)[(savA A.2.1 A.1).length - 1]? = some A.1
  unfold savA
  rw [List.length_append, List.length_singleton, Nat.add_sub_cancel, List.getElem?_append_right (Nat.le_refl _), Nat.sub_self]
  rfl
end Law1
/-- the law's number below n -/
def lowN (a : Int32) (n : Nat) : Nat := (a &&& 2147483647).toNatClampNeg % n
theorem and_pos (a : Int32) : ¬ (a &&& 2147483647) < 0 := by
  intro h
  have h1 : (a &&& 2147483647).toInt < 0 := Int32.lt_iff_toInt_lt.mp h
  have h2 : (a &&& 2147483647).toBitVec.msb = true := by rw [BitVec.msb_eq_toInt]; exact decide_eq_true h1
  rw [Int32.toBitVec_and, BitVec.msb_and] at h2
  have h3 : ((2147483647 : Int32).toBitVec).msb = false := by decide
  rw [h3, Bool.and_false] at h2
  cases h2
theorem L_low {h : PH} {a : Int32} {n : Nat} (h0 : 0 < n) (hn : n < 2 ^ 31) : f_L_low h a (nI n) = some (nI (lowN a n)) ∧ lowN a n < n := by
  obtain ⟨j, hj, e⟩ := nI_of (and_pos a)
  have c1 : ¬ nI n = 0 := nI_ne0 h0 hn
  unfold lowN
  refine ⟨?_, Nat.mod_lt _ h0⟩
  unfold f_L_low
  rw [if_pos c1, e, nI_rem hj h0 hn, nI_clamp hj]

