/-! PURE READING, 45: one step of the law -/
theorem IA_IO : ¬ eIA = eIO := by decide
theorem IS_IO : ¬ eIS = eIO := by decide
theorem IS_IA : ¬ eIS = eIA := by decide
theorem n1_e : nI 1 = 1 := rfl
theorem n2_e : nI 2 = 2 := rfl
theorem n3_e : nI 3 = 3 := rfl
abbrev LS9 : Type := Option ((Int32 × (PH × (Nat → Int64))) ⊕ Unit)
def qK (sp : Except Nat (Int32 × AAt)) (h1 : PH) (F : Nat → Int64) : Int32 × (PH × (Nat → Int64)) := match sp with
  | .error k => (nI k, (h1, F))
  | .ok v => (0, (h1, vp_updL F 0 v.1.toInt64))
def qL (sp : Except Nat Int32) (h1 : PH) (F : Nat → Int64) : Int32 × (PH × (Nat → Int64)) := match sp with
  | .error k => (nI k, (h1, F))
  | .ok v => (0, (h1, vp_updL F 0 v.toInt64))
/-- a call of both, and what it gave compared -/
def bK (w : Option (Int32 × (PH × (Nat → Int64)))) (f6 : PH → Option (Int32 × PH)) (m : Nat) (nx : Int32) : LS9 := w.bind fun q4 => (f6 q4.2.1).bind fun q7 => (f_X6_thrown q7.2 m).bind fun q8 => (if q8 = q4.1 then (if ¬ q4.1 = 0 then some (.inl (nx, (q7.2, q4.2.2))) else (if lg_cmp (q4.2.2 0) (q7.1).toInt64 = 0 then some (.inl (nx, (q7.2, q4.2.2))) else none)) else none)
def bW (f5 : Option (Int32 × PH)) (f6 : PH → Option (Int32 × PH)) (F : Nat → Int64) (nx : Int32) : LS9 := f5.bind fun q1 => (f6 q1.2).bind fun q2 => (if q1.1 = q2.1 then some (.inl (nx, (q2.2, F))) else none)
def bE (f5 : Option Int32) (f6 : Option (Int32 × PH)) (F : Nat → Int64) (nx : Int32) : LS9 := f5.bind fun q1 => f6.bind fun q2 => (if q1 = q2.1 then some (.inl (nx, (q2.2, F))) else none)
def bF (f5 : Option UInt64) (f6 : Option (UInt64 × PH)) (F : Nat → Int64) (nx : Int32) : LS9 := f5.bind fun q1 => f6.bind fun q2 => (if Op.cmpValue (FP.dcmp q1 q2.1) .l = 0 then some (.inl (nx, (q2.2, F))) else (if Op.cmpValue (FP.dcmp q1 q1) .l = 0 then none else (if ¬ Op.cmpValue (FP.dcmp q2.1 q2.1) .l = 0 then some (.inl (nx, (q2.2, F))) else none)))
def bD (f5 : Option (Int64 × PH)) (f6 : PH → Option (Int64 × PH)) (F : Nat → Int64) (nx : Int32) : LS9 := f5.bind fun q1 => (f6 q1.2).bind fun q2 => (if lg_cmp q1.1 q2.1 = 0 then some (.inl (nx, (q2.2, F))) else none)
/-- both objects stand for the same -/
def Both (h : PH) (x : Nat) (A : AAt) : Prop := wfA A ∧ repC h x A ∧ ∃ t, repM h (x + 128) t A
section Law
variable {h h1 h2 : PH} {x : Nat} {A : AAt} {F : Nat → Int64} {nx : Int32} {t : Int32}
theorem repM.fr {m : Nat} (H : repM h m t A) (ho : onX x h h1) (hm : m = x + 128) : repM h1 m t A := by
  obtain ⟨I, F, J, H1, H2⟩ := H
  exact ⟨I, F, J, H1.only (fun b b1 b2 => ho b (by omega)), H2⟩
theorem repM.th {m : Nat} (H : repM h m t A) : f_X6_thrown h m = some t := by
  obtain ⟨I, F, J, H1, H2, -⟩ := H
  have e0 := H1.i0
  rw [H2] at e0
  simp only [f_X6_thrown, H1.ok, if_true, e0, bs9]
theorem repC.fr (W : wfA A) (H : repC h x A) (ho : onM (x + 128) h h1) : repC h1 x A := repC.out W H (fun b b1 b2 => ho b (by omega))
theorem fin_K {w : Option (Int32 × (PH × (Nat → Int64)))} {f6 : PH → Option (Int32 × PH)} {sp : Except Nat (Int32 × AAt)} {n : Nat} (W : wfA A) (ok : okK n sp) (hn : n ≤ 3) (hw : w = some (qK sp h1 F)) (c2 : repC h1 x (nxt A sp)) (d1 : f6 h1 = some (outV sp, h2)) (d2 : repM h2 (x + 128) (outT sp) (nxt A sp)) (d3 : onM (x + 128) h1 h2) : ∃ h' F' A', bK w f6 (x + 128) nx = some (.inl (nx, (h', F'))) ∧ Both h' x A' := by
  have th := d2.th
  subst hw
  have WN : wfA (nxt A sp) := by
    cases sp with
    | error k => exact W
    | ok v => exact ok
  refine ⟨h2, (qK sp h1 F).2.2, nxt A sp, ?_, WN, c2.fr WN d3, _, d2⟩
  cases sp with
  | error k =>
    obtain ⟨k1, k2⟩ := ok
    have ne : ¬ nI k = 0 := nI_ne0 (by omega) (by omega)
    show (f6 h1).bind _ = _
    rw [d1]
    show (f_X6_thrown h2 (x + 128)).bind _ = _
    rw [th]
    show (if nI k = nI k then (if ¬ nI k = 0 then _ else _) else _) = _
    rw [if_pos rfl, if_pos ne]
  | ok v =>
    show (f6 h1).bind _ = _
    rw [d1]
    show (f_X6_thrown h2 (x + 128)).bind _ = _
    rw [th]
    show (if (0 : Int32) = 0 then (if ¬ (0 : Int32) = 0 then (some (.inl (nx, (h2, vp_updL F 0 v.1.toInt64))) : LS9) else (if lg_cmp (v.1.toInt64) (v.1).toInt64 = 0 then some (.inl (nx, (h2, vp_updL F 0 v.1.toInt64))) else none)) else none) = _
    rw [if_pos rfl, if_neg (fun q => q rfl), if_pos ((lg_cmp_eq _ _).mpr rfl)]
    rfl
theorem fin_L {w : Option (Int32 × (PH × (Nat → Int64)))} {f6 : PH → Option (Int32 × PH)} {sp : Except Nat Int32} {n : Nat} (W : wfA A) (ok : okL n sp) (hn : n ≤ 3) (hw : w = some (qL sp h F)) (c2 : repC h x A) (d1 : f6 h = some (outVL sp, h2)) (d2 : repM h2 (x + 128) (outTL sp) A) (d3 : onM (x + 128) h h2) : ∃ h' F' A', bK w f6 (x + 128) nx = some (.inl (nx, (h', F'))) ∧ Both h' x A' := by
  have th := d2.th
  subst hw
  refine ⟨h2, (qL sp h F).2.2, A, ?_, W, c2.fr W d3, _, d2⟩
  cases sp with
  | error k =>
    obtain ⟨k1, k2⟩ := ok
    have ne : ¬ nI k = 0 := nI_ne0 (by omega) (by omega)
    show (f6 h).bind _ = _
    rw [d1]
    show (f_X6_thrown h2 (x + 128)).bind _ = _
    rw [th]
    show (if nI k = nI k then (if ¬ nI k = 0 then _ else _) else _) = _
    rw [if_pos rfl, if_pos ne]
  | ok v =>
    show (f6 h).bind _ = _
    rw [d1]
    show (f_X6_thrown h2 (x + 128)).bind _ = _
    rw [th]
    show (if (0 : Int32) = 0 then (if ¬ (0 : Int32) = 0 then (some (.inl (nx, (h2, vp_updL F 0 v.toInt64))) : LS9) else (if lg_cmp (v.toInt64) (v).toInt64 = 0 then some (.inl (nx, (h2, vp_updL F 0 v.toInt64))) else none)) else none) = _
    rw [if_pos rfl, if_neg (fun q => q rfl), if_pos ((lg_cmp_eq _ _).mpr rfl)]
    rfl
theorem b_gap (B : Both h x A) (F : Nat → Int64) (nx : Int32) (a b : Int32) : ∃ h' F' A', bK (w_gap (h, F) x a b) (fun hh => f_X6_gap hh (x + 128) a b) (x + 128) nx = some (.inl (nx, (h', F'))) ∧ Both h' x A' := by
  obtain ⟨W, HC, t, HM⟩ := B
  have ok := ok_gap W a b
  obtain ⟨h1, c1, c2, c3⟩ := C_gap W HC a b
  obtain ⟨h2, d1, d2, d3⟩ := M_op_gap W (HM.fr c3 rfl) a b
  refine fin_K (F := F) W ok (by omega) ?_ c2 d1 d2 d3
  show (f_X5_gap h x a b).bind _ = _
  rw [c1, bs9]
  clear c1 c2 d1 d2
  generalize sp_gap A a b = sp at ok
  cases sp with
  | ok v => rfl
  | error k =>
    obtain ⟨k1, k2⟩ := ok
    rcases (show k = 1 ∨ k = 2 ∨ k = 3 by omega) with rfl | rfl | rfl <;> simp [outC, qK, IA_IO, IS_IO, IS_IA, n1_e, n2_e, n3_e]
theorem b_rope (B : Both h x A) (F : Nat → Int64) (nx : Int32) (a : Int32) : ∃ h' F' A', bK (w_rope (h, F) x a) (fun hh => f_X6_rope hh (x + 128) a) (x + 128) nx = some (.inl (nx, (h', F'))) ∧ Both h' x A' := by
  obtain ⟨W, HC, t, HM⟩ := B
  have ok := ok_rope W a
  obtain ⟨h1, c1, c2, c3⟩ := C_rope W HC a
  obtain ⟨h2, d1, d2, d3⟩ := M_op_rope W (HM.fr c3 rfl) a
  refine fin_K (F := F) W ok (by omega) ?_ c2 d1 d2 d3
  show (f_X5_rope h x a).bind _ = _
  rw [c1, bs9]
  clear c1 c2 d1 d2
  generalize sp_rope A a = sp at ok
  cases sp with
  | ok v => rfl
  | error k =>
    obtain ⟨k1, k2⟩ := ok
    rcases (show k = 1 ∨ k = 2 by omega) with rfl | rfl <;> simp [outC, qK, IA_IO, IS_IO, IS_IA, n1_e, n2_e, n3_e]
theorem b_drop (B : Both h x A) (F : Nat → Int64) (nx : Int32) (a : Int32) : ∃ h' F' A', bK (w_drop (h, F) x a) (fun hh => f_X6_drop hh (x + 128) a) (x + 128) nx = some (.inl (nx, (h', F'))) ∧ Both h' x A' := by
  obtain ⟨W, HC, t, HM⟩ := B
  have ok := ok_drop W a
  obtain ⟨h1, c1, c2, c3⟩ := C_drop W HC a
  obtain ⟨h2, d1, d2, d3⟩ := M_op_drop W (HM.fr c3 rfl) a
  refine fin_K (F := F) W ok (by omega) ?_ c2 d1 d2 d3
  show (f_X5_drop h x a).bind _ = _
  rw [c1, bs9]
  clear c1 c2 d1 d2
  generalize sp_drop A a = sp at ok
  cases sp with
  | ok v => rfl
  | error k =>
    obtain ⟨k1, k2⟩ := ok
    rcases (show k = 1 by omega) with rfl <;> simp [outC, qK, IA_IO, IS_IO, IS_IA, n1_e, n2_e, n3_e]
theorem b_lay (B : Both h x A) (F : Nat → Int64) (nx : Int32) (a b c : Int32) : ∃ h' F' A', bK (w_lay (h, F) x a b c) (fun hh => f_X6_lay hh (x + 128) a b c) (x + 128) nx = some (.inl (nx, (h', F'))) ∧ Both h' x A' := by
  obtain ⟨W, HC, t, HM⟩ := B
  have ok := ok_lay W a b c
  obtain ⟨h1, c1, c2, c3⟩ := C_lay W HC a b c
  obtain ⟨h2, d1, d2, d3⟩ := M_op_lay W (HM.fr c3 rfl) a b c
  refine fin_K (F := F) W ok (by omega) ?_ c2 d1 d2 d3
  show (f_X5_lay h x a b c).bind _ = _
  rw [c1, bs9]
  clear c1 c2 d1 d2
  generalize sp_lay A a b c = sp at ok
  cases sp with
  | ok v => rfl
  | error k =>
    obtain ⟨k1, k2⟩ := ok
    rcases (show k = 1 ∨ k = 2 ∨ k = 3 by omega) with rfl | rfl | rfl <;> simp [outC, qK, IA_IO, IS_IO, IS_IA, n1_e, n2_e, n3_e]
theorem b_take (B : Both h x A) (F : Nat → Int64) (nx : Int32) (a b : Int32) : ∃ h' F' A', bK (w_take (h, F) x a b) (fun hh => f_X6_take hh (x + 128) a b) (x + 128) nx = some (.inl (nx, (h', F'))) ∧ Both h' x A' := by
  obtain ⟨W, HC, t, HM⟩ := B
  have ok := ok_take W a b
  obtain ⟨h1, c1, c2, c3⟩ := C_take W HC a b
  obtain ⟨h2, d1, d2, d3⟩ := M_op_take W (HM.fr c3 rfl) a b
  refine fin_K (F := F) W ok (by omega) ?_ c2 d1 d2 d3
  show (f_X5_take h x a b).bind _ = _
  rw [c1, bs9]
  clear c1 c2 d1 d2
  generalize sp_take A a b = sp at ok
  cases sp with
  | ok v => rfl
  | error k =>
    obtain ⟨k1, k2⟩ := ok
    rcases (show k = 1 ∨ k = 2 by omega) with rfl | rfl <;> simp [outC, qK, IA_IO, IS_IO, IS_IA, n1_e, n2_e, n3_e]
theorem b_stretch (B : Both h x A) (F : Nat → Int64) (nx : Int32) (a b : Int32) : ∃ h' F' A', bK (w_stretch (h, F) x a b) (fun hh => f_X6_stretch hh (x + 128) a b) (x + 128) nx = some (.inl (nx, (h', F'))) ∧ Both h' x A' := by
  obtain ⟨W, HC, t, HM⟩ := B
  have ok := ok_stretch W a b
  obtain ⟨h1, c1, c2, c3⟩ := C_stretch W HC a b
  obtain ⟨h2, d1, d2, d3⟩ := M_op_stretch W (HM.fr c3 rfl) a b
  refine fin_K (F := F) W ok (by omega) ?_ c2 d1 d2 d3
  show (f_X5_stretch h x a b).bind _ = _
  rw [c1, bs9]
  clear c1 c2 d1 d2
  generalize sp_stretch A a b = sp at ok
  cases sp with
  | ok v => rfl
  | error k =>
    obtain ⟨k1, k2⟩ := ok
    rcases (show k = 1 ∨ k = 2 ∨ k = 3 by omega) with rfl | rfl | rfl <;> simp [outC, qK, IA_IO, IS_IO, IS_IA, n1_e, n2_e, n3_e]
theorem b_cut (B : Both h x A) (F : Nat → Int64) (nx : Int32) (a b : Int32) : ∃ h' F' A', bK (w_cut (h, F) x a b) (fun hh => f_X6_cut hh (x + 128) a b) (x + 128) nx = some (.inl (nx, (h', F'))) ∧ Both h' x A' := by
  obtain ⟨W, HC, t, HM⟩ := B
  have ok := ok_cut W a b
  obtain ⟨h1, c1, c2, c3⟩ := C_cut W HC a b
  obtain ⟨h2, d1, d2, d3⟩ := M_op_cut W (HM.fr c3 rfl) a b
  refine fin_K (F := F) W ok (by omega) ?_ c2 d1 d2 d3
  show (f_X5_cut h x a b).bind _ = _
  rw [c1, bs9]
  clear c1 c2 d1 d2
  generalize sp_cut A a b = sp at ok
  cases sp with
  | ok v => rfl
  | error k =>
    obtain ⟨k1, k2⟩ := ok
    rcases (show k = 1 ∨ k = 2 ∨ k = 3 by omega) with rfl | rfl | rfl <;> simp [outC, qK, IA_IO, IS_IO, IS_IA, n1_e, n2_e, n3_e]
theorem b_turn (B : Both h x A) (F : Nat → Int64) (nx : Int32) (a : Int32) : ∃ h' F' A', bK (w_turn (h, F) x a) (fun hh => f_X6_turn hh (x + 128) a) (x + 128) nx = some (.inl (nx, (h', F'))) ∧ Both h' x A' := by
  obtain ⟨W, HC, t, HM⟩ := B
  have ok := ok_turn W a
  obtain ⟨h1, c1, c2, c3⟩ := C_turn W HC a
  obtain ⟨h2, d1, d2, d3⟩ := M_op_turn W (HM.fr c3 rfl) a
  refine fin_K (F := F) W ok (by omega) ?_ c2 d1 d2 d3
  show (f_X5_turn h x a).bind _ = _
  rw [c1, bs9]
  clear c1 c2 d1 d2
  generalize sp_turn A a = sp at ok
  cases sp with
  | ok v => rfl
  | error k =>
    obtain ⟨k1, k2⟩ := ok
    rcases (show k = 1 by omega) with rfl <;> simp [outC, qK, IA_IO, IS_IO, IS_IA, n1_e, n2_e, n3_e]
theorem b_join (B : Both h x A) (F : Nat → Int64) (nx : Int32) (a b : Int32) : ∃ h' F' A', bK (w_join (h, F) x a b) (fun hh => f_X6_join hh (x + 128) a b) (x + 128) nx = some (.inl (nx, (h', F'))) ∧ Both h' x A' := by
  obtain ⟨W, HC, t, HM⟩ := B
  have ok := ok_join W a b
  obtain ⟨h1, c1, c2, c3⟩ := C_join W HC a b
  obtain ⟨h2, d1, d2, d3⟩ := M_op_join W (HM.fr c3 rfl) a b
  refine fin_K (F := F) W ok (by omega) ?_ c2 d1 d2 d3
  show (f_X5_join h x a b).bind _ = _
  rw [c1, bs9]
  clear c1 c2 d1 d2
  generalize sp_join A a b = sp at ok
  cases sp with
  | ok v => rfl
  | error k =>
    obtain ⟨k1, k2⟩ := ok
    rcases (show k = 1 ∨ k = 2 by omega) with rfl | rfl <;> simp [outC, qK, IA_IO, IS_IO, IS_IA, n1_e, n2_e, n3_e]
theorem b_append (B : Both h x A) (F : Nat → Int64) (nx : Int32) (a : Int32) : ∃ h' F' A', bK (w_append (h, F) x a) (fun hh => f_X6_append hh (x + 128) a) (x + 128) nx = some (.inl (nx, (h', F'))) ∧ Both h' x A' := by
  obtain ⟨W, HC, t, HM⟩ := B
  have ok := ok_append W a
  obtain ⟨h1, c1, c2, c3⟩ := C_append W HC a
  obtain ⟨h2, d1, d2, d3⟩ := M_op_append W (HM.fr c3 rfl) a
  refine fin_K (F := F) W ok (by omega) ?_ c2 d1 d2 d3
  show (f_X5_append h x a).bind _ = _
  rw [c1, bs9]
  clear c1 c2 d1 d2
  generalize sp_append A a = sp at ok
  cases sp with
  | ok v => rfl
  | error k =>
    obtain ⟨k1, k2⟩ := ok
    rcases (show k = 1 ∨ k = 2 by omega) with rfl | rfl <;> simp [outC, qK, IA_IO, IS_IO, IS_IA, n1_e, n2_e, n3_e]
theorem b_play (B : Both h x A) (F : Nat → Int64) (nx : Int32) : ∃ h' F' A', bK (w_play (h, F) x) (fun hh => f_X6_play hh (x + 128)) (x + 128) nx = some (.inl (nx, (h', F'))) ∧ Both h' x A' := by
  obtain ⟨W, HC, t, HM⟩ := B
  have ok := ok_play W
  obtain ⟨h1, c1, c2, c3⟩ := C_play W HC
  obtain ⟨h2, d1, d2, d3⟩ := M_op_play W (HM.fr c3 rfl)
  refine fin_K (F := F) W ok (by omega) ?_ c2 d1 d2 d3
  show (f_X5_play h x).bind _ = _
  rw [c1, bs9]
  clear c1 c2 d1 d2
  generalize sp_play A = sp at ok
  cases sp with
  | ok v => rfl
  | error k =>
    obtain ⟨k1, k2⟩ := ok
    rcases (show k = 1 by omega) with rfl <;> simp [outC, qK, IA_IO, IS_IO, IS_IA, n1_e, n2_e, n3_e]
theorem b_undo (B : Both h x A) (F : Nat → Int64) (nx : Int32) : ∃ h' F' A', bK (w_undo (h, F) x) (fun hh => f_X6_undo hh (x + 128)) (x + 128) nx = some (.inl (nx, (h', F'))) ∧ Both h' x A' := by
  obtain ⟨W, HC, t, HM⟩ := B
  have ok := ok_undo W
  obtain ⟨h1, c1, c2, c3⟩ := C_undo W HC
  obtain ⟨h2, d1, d2, d3⟩ := M_op_undo W (HM.fr c3 rfl)
  refine fin_K (F := F) W ok (by omega) ?_ c2 d1 d2 d3
  show (f_X5_undo h x).bind _ = _
  rw [c1, bs9]
  clear c1 c2 d1 d2
  generalize sp_undo A = sp at ok
  cases sp with
  | ok v => rfl
  | error k =>
    obtain ⟨k1, k2⟩ := ok
    rcases (show k = 1 by omega) with rfl <;> simp [outC, qK, IA_IO, IS_IO, IS_IA, n1_e, n2_e, n3_e]
theorem b_restore (B : Both h x A) (F : Nat → Int64) (nx : Int32) : ∃ h' F' A', bK (w_restore (h, F) x) (fun hh => f_X6_restore hh (x + 128)) (x + 128) nx = some (.inl (nx, (h', F'))) ∧ Both h' x A' := by
  obtain ⟨W, HC, t, HM⟩ := B
  have ok := ok_restore W
  obtain ⟨h1, c1, c2, c3⟩ := C_restore W HC
  obtain ⟨h2, d1, d2, d3⟩ := M_op_restore W (HM.fr c3 rfl)
  refine fin_K (F := F) W ok (by omega) ?_ c2 d1 d2 d3
  show (f_X5_restore h x).bind _ = _
  rw [c1, bs9]
  clear c1 c2 d1 d2
  generalize sp_restore A = sp at ok
  cases sp with
  | ok v => rfl
  | error k =>
    obtain ⟨k1, k2⟩ := ok
    rcases (show k = 1 by omega) with rfl <;> simp [outC, qK, IA_IO, IS_IO, IS_IA, n1_e, n2_e, n3_e]
theorem b_joining (B : Both h x A) (F : Nat → Int64) (nx : Int32) (a b : Int32) : ∃ h' F' A', bK (w_joining (h, F) x a b) (fun hh => f_X6_joining hh (x + 128) a b) (x + 128) nx = some (.inl (nx, (h', F'))) ∧ Both h' x A' := by
  obtain ⟨W, HC, t, HM⟩ := B
  have ok := ok_joining W a b
  obtain ⟨h1, c1, c2, c3⟩ := C_joining W HC a b
  obtain ⟨h2, d1, d2, d3⟩ := M_op_joining W (HM.fr c3 rfl) a b
  refine fin_K (F := F) W ok (by omega) ?_ c2 d1 d2 d3
  show (f_X5_joining h x a b).bind _ = _
  rw [c1, bs9]
  clear c1 c2 d1 d2
  generalize sp_joining A a b = sp at ok
  cases sp with
  | ok v => rfl
  | error k =>
    obtain ⟨k1, k2⟩ := ok
    rcases (show k = 1 by omega) with rfl <;> simp [outC, qK, IA_IO, IS_IO, IS_IA, n1_e, n2_e, n3_e]
theorem b_place (B : Both h x A) (F : Nat → Int64) (nx : Int32) (a b : Int32) : ∃ h' F' A', bK (w_place (h, F) x a b) (fun hh => f_X6_place hh (x + 128) a b) (x + 128) nx = some (.inl (nx, (h', F'))) ∧ Both h' x A' := by
  obtain ⟨W, HC, t, HM⟩ := B
  have ok := ok_place A a b
  have c1 := (C_place W HC a b)
  obtain ⟨h2, d1, d2, d3⟩ := (M_op_place W HM a b)
  refine fin_L (F := F) W ok (by omega) ?_ HC d1 d2 d3
  show (f_X5_place h x a b).bind _ = _
  rw [c1, bs9]
  clear c1 d1 d2
  generalize sp_place A a b = sp at ok
  cases sp with
  | ok v => rfl
  | error k =>
    obtain ⟨k1, k2⟩ := ok
    rcases (show k = 1 by omega) with rfl <;> simp [outL, qL, IA_IO, IS_IO, IS_IA, n1_e, n2_e, n3_e]
theorem b_ropeOf (B : Both h x A) (F : Nat → Int64) (nx : Int32) (a b : Int32) : ∃ h' F' A', bK (w_ropeOf (h, F) x a b) (fun hh => f_X6_ropeOf hh (x + 128) a b) (x + 128) nx = some (.inl (nx, (h', F'))) ∧ Both h' x A' := by
  obtain ⟨W, HC, t, HM⟩ := B
  have ok := ok_ropeOf A a b
  have c1 := (C_ropeOf W HC a b)
  obtain ⟨h2, d1, d2, d3⟩ := (M_op_ropeOf W HM a b)
  refine fin_L (F := F) W ok (by omega) ?_ HC d1 d2 d3
  show (f_X5_ropeOf h x a b).bind _ = _
  rw [c1, bs9]
  clear c1 d1 d2
  generalize sp_ropeOf A a b = sp at ok
  cases sp with
  | ok v => rfl
  | error k =>
    obtain ⟨k1, k2⟩ := ok
    rcases (show k = 1 ∨ k = 2 by omega) with rfl | rfl <;> simp [outL, qL, IA_IO, IS_IO, IS_IA, n1_e, n2_e, n3_e]
theorem b_hueOf (B : Both h x A) (F : Nat → Int64) (nx : Int32) (a b c : Int32) : ∃ h' F' A', bK (w_hueOf (h, F) x a b c) (fun hh => f_X6_hueOf hh (x + 128) a b c) (x + 128) nx = some (.inl (nx, (h', F'))) ∧ Both h' x A' := by
  obtain ⟨W, HC, t, HM⟩ := B
  have ok := ok_hueOf A a b c
  have c1 := (C_hueOf W HC a b c)
  obtain ⟨h2, d1, d2, d3⟩ := (M_op_hueOf W HM a b c)
  refine fin_L (F := F) W ok (by omega) ?_ HC d1 d2 d3
  show (f_X5_hueOf h x a b c).bind _ = _
  rw [c1, bs9]
  clear c1 d1 d2
  generalize sp_hueOf A a b c = sp at ok
  cases sp with
  | ok v => rfl
  | error k =>
    obtain ⟨k1, k2⟩ := ok
    rcases (show k = 1 ∨ k = 2 by omega) with rfl | rfl <;> simp [outL, qL, IA_IO, IS_IO, IS_IA, n1_e, n2_e, n3_e]
theorem b_gapOf (B : Both h x A) (F : Nat → Int64) (nx : Int32) (a : Int32) : ∃ h' F' A', bK (w_gapOf (h, F) x a) (fun hh => f_X6_gapOf hh (x + 128) a) (x + 128) nx = some (.inl (nx, (h', F'))) ∧ Both h' x A' := by
  obtain ⟨W, HC, t, HM⟩ := B
  have ok := ok_gapOf A a
  have c1 := (C_gapOf W HC a)
  obtain ⟨h2, d1, d2, d3⟩ := (M_op_gapOf W HM a)
  refine fin_L (F := F) W ok (by omega) ?_ HC d1 d2 d3
  show (f_X5_gapOf h x a).bind _ = _
  rw [c1, bs9]
  clear c1 d1 d2
  generalize sp_gapOf A a = sp at ok
  cases sp with
  | ok v => rfl
  | error k =>
    obtain ⟨k1, k2⟩ := ok
    rcases (show k = 1 by omega) with rfl <;> simp [outL, qL, IA_IO, IS_IO, IS_IA, n1_e, n2_e, n3_e]
theorem b_count (B : Both h x A) (F : Nat → Int64) (nx : Int32) (a : Int32) : ∃ h' F' A', bK (w_count (h, F) x a) (fun hh => f_X6_count hh (x + 128) a) (x + 128) nx = some (.inl (nx, (h', F'))) ∧ Both h' x A' := by
  obtain ⟨W, HC, t, HM⟩ := B
  have ok := ok_count A a
  have c1 := (C_count W HC a)
  obtain ⟨h2, d1, d2, d3⟩ := (M_op_count W HM a)
  refine fin_L (F := F) W ok (by omega) ?_ HC d1 d2 d3
  show (f_X5_count h x a).bind _ = _
  rw [c1, bs9]
  clear c1 d1 d2
  generalize sp_count A a = sp at ok
  cases sp with
  | ok v => rfl
  | error k =>
    obtain ⟨k1, k2⟩ := ok
    rcases (show k = 1 by omega) with rfl <;> simp [outL, qL, IA_IO, IS_IO, IS_IA, n1_e, n2_e, n3_e]
theorem b_refusal (B : Both h x A) (F : Nat → Int64) (nx : Int32) (a b c : Int32) : ∃ h' F' A', bK (w_refusal (h, F) x a b c) (fun hh => f_X6_refusal hh (x + 128) a b c) (x + 128) nx = some (.inl (nx, (h', F'))) ∧ Both h' x A' := by
  obtain ⟨W, HC, t, HM⟩ := B
  have ok := ok_refusal A a b c
  have c1 := (C_refusal W HC a b c)
  obtain ⟨h2, d1, d2, d3⟩ := (M_op_refusal W HM a b c)
  refine fin_L (F := F) W ok (by omega) ?_ HC d1 d2 d3
  show (f_X5_refusal h x a b c).bind _ = _
  rw [c1, bs9]
  clear c1 d1 d2
  generalize sp_refusal A a b c = sp at ok
  cases sp with
  | ok v => rfl
  | error k =>
    obtain ⟨k1, k2⟩ := ok
    rcases (show k = 1 ∨ k = 2 by omega) with rfl | rfl <;> simp [outL, qL, IA_IO, IS_IO, IS_IA, n1_e, n2_e, n3_e]
theorem b_meeting (B : Both h x A) (F : Nat → Int64) (nx : Int32) (a b c d : Int32) : ∃ h' F' A', bK (w_meeting (h, F) x a b c d) (fun hh => f_X6_meeting hh (x + 128) a b c d) (x + 128) nx = some (.inl (nx, (h', F'))) ∧ Both h' x A' := by
  obtain ⟨W, HC, t, HM⟩ := B
  have ok := ok_meet A a b c d
  have c1 := (C_meeting W HC a b c d).1
  obtain ⟨h2, d1, d2, d3⟩ := (M_op_meet W HM a b c d).1
  refine fin_L (F := F) W ok (by omega) ?_ HC d1 d2 d3
  show (f_X5_meeting h x a b c d).bind _ = _
  rw [c1, bs9]
  clear c1 d1 d2
  generalize sp_meet A a b c d = sp at ok
  cases sp with
  | ok v => rfl
  | error k =>
    obtain ⟨k1, k2⟩ := ok
    rcases (show k = 1 ∨ k = 2 by omega) with rfl | rfl <;> simp [outL, qL, IA_IO, IS_IO, IS_IA, n1_e, n2_e, n3_e]
theorem b_walked (B : Both h x A) (F : Nat → Int64) (nx : Int32) (a b c d : Int32) : ∃ h' F' A', bK (w_walked (h, F) x a b c d) (fun hh => f_X6_walked hh (x + 128) a b c d) (x + 128) nx = some (.inl (nx, (h', F'))) ∧ Both h' x A' := by
  obtain ⟨W, HC, t, HM⟩ := B
  have ok := ok_meet A a b c d
  have c1 := (C_meeting W HC a b c d).2
  obtain ⟨h2, d1, d2, d3⟩ := (M_op_meet W HM a b c d).2
  refine fin_L (F := F) W ok (by omega) ?_ HC d1 d2 d3
  show (f_X5_walked h x a b c d).bind _ = _
  rw [c1, bs9]
  clear c1 d1 d2
  generalize sp_meet A a b c d = sp at ok
  cases sp with
  | ok v => rfl
  | error k =>
    obtain ⟨k1, k2⟩ := ok
    rcases (show k = 1 ∨ k = 2 by omega) with rfl | rfl <;> simp [outL, qL, IA_IO, IS_IO, IS_IA, n1_e, n2_e, n3_e]
theorem b_phases (B : Both h x A) (F : Nat → Int64) (nx : Int32) (a b c : Int32) : ∃ h' F' A', bK (w_phases (h, F) x a b c) (fun hh => f_X6_phases hh (x + 128) a b c) (x + 128) nx = some (.inl (nx, (h', F'))) ∧ Both h' x A' := by
  obtain ⟨W, HC, t, HM⟩ := B
  have ok := ok_phases A a b c
  have c1 := (C_phases W HC a b c)
  obtain ⟨h2, d1, d2, d3⟩ := (M_op_phases W HM a b c)
  refine fin_L (F := F) W ok (by omega) ?_ HC d1 d2 d3
  show (f_X5_phases h x a b c).bind _ = _
  rw [c1, bs9]
  clear c1 d1 d2
  generalize sp_phases A a b c = sp at ok
  cases sp with
  | ok v => rfl
  | error k =>
    obtain ⟨k1, k2⟩ := ok
    rcases (show k = 1 ∨ k = 2 by omega) with rfl | rfl <;> simp [outL, qL, IA_IO, IS_IO, IS_IA, n1_e, n2_e, n3_e]
theorem b_bestHue (B : Both h x A) (F : Nat → Int64) (nx : Int32) (a : Int32) : ∃ h' F' A', bK (w_bestHue (h, F) x a) (fun hh => f_X6_bestHue hh (x + 128) a) (x + 128) nx = some (.inl (nx, (h', F'))) ∧ Both h' x A' := by
  obtain ⟨W, HC, t, HM⟩ := B
  have ok := ok_bestHue A a
  have c1 := (C_bestHue W HC a).1
  obtain ⟨h2, d1, d2, d3⟩ := (M_op_bestHue W HM a)
  refine fin_L (F := F) W ok (by omega) ?_ HC d1 d2 d3
  show (f_X5_bestHue h x a).bind _ = _
  rw [c1, bs9]
  clear c1 d1 d2
  generalize sp_bestHue A a = sp at ok
  cases sp with
  | ok v => rfl
  | error k =>
    obtain ⟨k1, k2⟩ := ok
    rcases (show k = 1 by omega) with rfl <;> simp [outL, qL, IA_IO, IS_IO, IS_IA, n1_e, n2_e, n3_e]
theorem b_greatest (B : Both h x A) (F : Nat → Int64) (nx : Int32) (a : Int32) : ∃ h' F' A', bK (w_greatest (h, F) x a) (fun hh => f_X6_greatest hh (x + 128) a) (x + 128) nx = some (.inl (nx, (h', F'))) ∧ Both h' x A' := by
  obtain ⟨W, HC, t, HM⟩ := B
  have ok := ok_greatest A a
  have c1 := (C_bestHue W HC a).2
  obtain ⟨h2, d1, d2, d3⟩ := (M_op_greatest W HM a)
  refine fin_L (F := F) W ok (by omega) ?_ HC d1 d2 d3
  show (f_X5_greatest h x a).bind _ = _
  rw [c1, bs9]
  clear c1 d1 d2
  generalize sp_greatest A a = sp at ok
  cases sp with
  | ok v => rfl
  | error k =>
    obtain ⟨k1, k2⟩ := ok
    rcases (show k = 1 by omega) with rfl <;> simp [outL, qL, IA_IO, IS_IO, IS_IA, n1_e, n2_e, n3_e]
theorem b_clearBuffer (B : Both h x A) (F : Nat → Int64) (nx : Int32) : ∃ h' F' A', bW (f_X5_clearBuffer h x) (fun hh => f_X6_clearBuffer hh (x + 128)) F nx = some (.inl (nx, (h', F'))) ∧ Both h' x A' := by
  obtain ⟨W, HC, t, HM⟩ := B
  obtain ⟨h1, c1, c2, c3⟩ := C_clear W HC
  obtain ⟨h2, d1, d2, d3⟩ := M_op_clear (HM.fr c3 rfl)
  have WN : wfA (A.1, A.2.1, A.2.2.1, []) := ⟨W.1, W.2.1, W.2.2.1, W.2.2.2.1, by show (0 : Nat) ≤ 60; omega, fun c hc => (by cases hc)⟩
  refine ⟨h2, F, _, ?_, WN, c2.fr WN d3, _, d2⟩
  show (f_X5_clearBuffer h x).bind _ = _
  rw [c1, bs9]
  show (f_X6_clearBuffer h1 (x + 128)).bind _ = _
  rw [d1, bs9, if_pos rfl]
theorem b_keep (B : Both h x A) (F : Nat → Int64) (nx : Int32) : ∃ h' F' A', bW (f_X5_keep h x) (fun hh => f_X6_keep hh (x + 128)) F nx = some (.inl (nx, (h', F'))) ∧ Both h' x A' := by
  obtain ⟨W, HC, t, HM⟩ := B
  obtain ⟨h1, c1, c2, c3⟩ := C_keep W HC
  obtain ⟨h2, d1, d2, d3⟩ := M_op_keep W (HM.fr c3 rfl)
  have WN : wfA (A.1, A.2.1, some A.1, A.2.2.2) := ⟨W.1, W.2.1, W.2.2.1, fun T hT => (by cases hT; exact W.1), W.2.2.2.2⟩
  refine ⟨h2, F, _, ?_, WN, c2.fr WN d3, _, d2⟩
  show (f_X5_keep h x).bind _ = _
  rw [c1, bs9]
  show (f_X6_keep h1 (x + 128)).bind _ = _
  rw [d1, bs9, if_pos rfl]
theorem b_firstError (B : Both h x A) (F : Nat → Int64) (nx : Int32) : ∃ h' F' A', bE (f_X5_firstError h x) (f_X6_firstError h (x + 128)) F nx = some (.inl (nx, (h', F'))) ∧ Both h' x A' := by
  obtain ⟨W, HC, t, HM⟩ := B
  have c1 := C_firstError W HC
  obtain ⟨h2, d1, d2, d3⟩ := M_op_firstError W HM
  refine ⟨h2, F, A, ?_, W, HC.fr W d3, _, d2⟩
  unfold bE
  rw [c1, bs9, d1, bs9, if_pos rfl]
theorem b_fullness (B : Both h x A) (F : Nat → Int64) (nx : Int32) : ∃ h' F' A', bF (f_X5_fullness h x) (f_X6_fullness h (x + 128)) F nx = some (.inl (nx, (h', F'))) ∧ Both h' x A' := by
  obtain ⟨W, HC, t, HM⟩ := B
  have c1 := C_fullness W HC
  obtain ⟨h2, d1, d2, d3⟩ := M_op_fullness W HM
  refine ⟨h2, F, A, ?_, W, HC.fr W d3, _, d2⟩
  unfold bF
  rw [c1, bs9, d1, bs9]
  by_cases hc : Op.cmpValue (FP.dcmp (shrA A) (shrA A)) .l = 0
  · exact if_pos hc
  · dsimp only
    rw [if_neg hc, if_neg hc, if_pos hc]
theorem b_digest (B : Both h x A) (F : Nat → Int64) (nx : Int32) : ∃ h' F' A', bD (f_X5_digest h x) (fun hh => f_X6_digest hh (x + 128)) F nx = some (.inl (nx, (h', F'))) ∧ Both h' x A' := by
  obtain ⟨W, HC, t, HM⟩ := B
  obtain ⟨h1, c1, c2, c3⟩ := C_digest W HC
  obtain ⟨h2, d1, d2, d3⟩ := M_op_digest W (HM.fr c3 rfl)
  refine ⟨h2, F, A, ?_, W, c2.fr W d3, _, d2⟩
  unfold bD
  rw [c1, bs9]
  show (f_X6_digest h1 (x + 128)).bind _ = _
  rw [d1, bs9, if_pos ((lg_cmp_eq _ _).mpr rfl)]
end Law
