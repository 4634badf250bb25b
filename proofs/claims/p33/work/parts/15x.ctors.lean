theorem m9_42 : Cond.methodLink RX2 3 objectInit ∈ wsL_law := wc_2 _ (List.mem_of_getElem? (i := 18) rfl)
theorem m9_7 : Cond.instanceMethod objectInit ∈ wsL_law := wc_1 _ (List.mem_of_getElem? (i := 7) rfl)
theorem m9_8 : Cond.code objectInit ⟨#[0xb1]⟩ 1 none ∈ wsL_law := wc_1 _ (List.mem_of_getElem? (i := 8) rfl)
theorem m9_31 : Cond.arrayClass .int ∈ wsL_law := wc_2 _ (List.mem_of_getElem? (i := 7) rfl)
theorem m9_58 : Cond.methodLink RX4 3 objectInit ∈ wsL_law := wc_3 _ (List.mem_of_getElem? (i := 10) rfl)
theorem m9_59 : Cond.fieldLink RX4 9 "PennantRopes$Text" "codes" "[I" ∈ wsL_law := wc_3 _ (List.mem_of_getElem? (i := 11) rfl)
theorem m9_60 : Cond.fieldLink RX4 15 "PennantRopes$Text" "length" "I" ∈ wsL_law := wc_3 _ (List.mem_of_getElem? (i := 12) rfl)
theorem m9_33 : Cond.classLink RX3 15 RX2 ∈ wsL_law := wc_2 _ (List.mem_of_getElem? (i := 9) rfl)
theorem m9_23 : Cond.instantiable RX2 4 ∈ wsL_law := wc_1 _ (List.mem_of_getElem? (i := 23) rfl)
theorem m9_39 : Cond.methodLink RX3 21 yX2_init ∈ wsL_law := wc_2 _ (List.mem_of_getElem? (i := 15) rfl)
theorem m9_40 : Cond.instanceMethod yX2_init ∈ wsL_law := wc_2 _ (List.mem_of_getElem? (i := 16) rfl)
theorem m9_41 : Cond.code yX2_init cX2_init 1 none ∈ wsL_law := wc_2 _ (List.mem_of_getElem? (i := 17) rfl)
theorem m9_30 : Cond.methodLink RX3 3 objectInit ∈ wsL_law := wc_2 _ (List.mem_of_getElem? (i := 6) rfl)
theorem m9_50 : Cond.methodLink RX0 3 objectInit ∈ wsL_law := wc_3 _ (List.mem_of_getElem? (i := 2) rfl)
theorem m9_51 : Cond.classLink RX0 9 RX3 ∈ wsL_law := wc_3 _ (List.mem_of_getElem? (i := 3) rfl)
theorem m9_10 : Cond.instantiable RX3 6 ∈ wsL_law := wc_1 _ (List.mem_of_getElem? (i := 10) rfl)
theorem m9_54 : Cond.methodLink RX0 17 yX3_init ∈ wsL_law := wc_3 _ (List.mem_of_getElem? (i := 6) rfl)
theorem m9_28 : Cond.instanceMethod yX3_init ∈ wsL_law := wc_2 _ (List.mem_of_getElem? (i := 4) rfl)
theorem m9_29 : Cond.code yX3_init cX3_init 2 none ∈ wsL_law := wc_2 _ (List.mem_of_getElem? (i := 5) rfl)
theorem m9_6 : Cond.methodLink RX5 1 objectInit ∈ wsL_law := wc_1 _ (List.mem_of_getElem? (i := 6) rfl)
theorem m9_9 : Cond.classLink RX5 7 RX3 ∈ wsL_law := wc_1 _ (List.mem_of_getElem? (i := 9) rfl)
theorem m9_27 : Cond.methodLink RX5 9 yX3_init ∈ wsL_law := wc_2 _ (List.mem_of_getElem? (i := 3) rfl)
theorem m9_14 : Cond.classLink RX5 19 RX0 ∈ wsL_law := wc_1 _ (List.mem_of_getElem? (i := 14) rfl)
theorem m9_15 : Cond.instantiable RX0 2 ∈ wsL_law := wc_1 _ (List.mem_of_getElem? (i := 15) rfl)
theorem m9_47 : Cond.methodLink RX5 21 yX0_init ∈ wsL_law := wc_2 _ (List.mem_of_getElem? (i := 23) rfl)
theorem m9_48 : Cond.instanceMethod yX0_init ∈ wsL_law := wc_3 _ (List.mem_of_getElem? (i := 0) rfl)
theorem m9_49 : Cond.code yX0_init cX0_init 2 none ∈ wsL_law := wc_3 _ (List.mem_of_getElem? (i := 1) rfl)
theorem m9_18 : Cond.classLink RX5 26 RX4 ∈ wsL_law := wc_1 _ (List.mem_of_getElem? (i := 18) rfl)
theorem m9_19 : Cond.instantiable RX4 2 ∈ wsL_law := wc_1 _ (List.mem_of_getElem? (i := 19) rfl)
theorem m9_20 : Cond.initialized RX4 ∈ wsL_law := wc_1 _ (List.mem_of_getElem? (i := 20) rfl)
theorem m9_55 : Cond.methodLink RX5 28 yX4_init ∈ wsL_law := wc_3 _ (List.mem_of_getElem? (i := 7) rfl)
theorem m9_56 : Cond.instanceMethod yX4_init ∈ wsL_law := wc_3 _ (List.mem_of_getElem? (i := 8) rfl)
theorem m9_57 : Cond.code yX4_init cX4_init 1 none ∈ wsL_law := wc_3 _ (List.mem_of_getElem? (i := 9) rfl)
theorem m9_21 : Cond.fieldLink RX5 29 "PennantRopes" "text" "LPennantRopes$Text;" ∈ wsL_law := wc_1 _ (List.mem_of_getElem? (i := 21) rfl)
theorem m9_22 : Cond.classLink RX5 33 RX2 ∈ wsL_law := wc_1 _ (List.mem_of_getElem? (i := 22) rfl)
theorem m9_61 : Cond.methodLink RX5 35 yX2_init ∈ wsL_law := wc_3 _ (List.mem_of_getElem? (i := 13) rfl)
def f_X2_init (h : PH) (z zm sm : Nat) (a0 : Nat) : Option (PH × Nat) :=
  ((nwC (h, z, 0) zm sm 60 (.inl (60, fun _ => 0))).bind fun q1 => ((wrF (q1).1 a0 1 0 (.ref (((h, z, 0)).2.1))).bind fun h3 => ((nwC (h3, (q1).2) zm sm 8 (.inl (8, fun _ => 0))).bind fun q4 => ((wrF (q4).1 a0 1 1 (.ref (((h3, (q1).2)).2.1))).bind fun h6 => ((wrF ((h6, (q4).2)).1 a0 1 2 (.int ((0 : Int32)))).bind fun h7 => ((wrF ((h7, ((h6, (q4).2)).2)).1 a0 1 3 (.int ((0 : Int32)))).bind fun h8 => (if ((h8, ((h7, ((h6, (q4).2)).2)).2)).2.1 ≤ zm ∧ ((h8, ((h7, ((h6, (q4).2)).2)).2)).2.2 ≤ sm then some (((h8, ((h7, ((h6, (q4).2)).2)).2)).1, ((h8, ((h7, ((h6, (q4).2)).2)).2)).2.1) else none)))))))
def f_X4_init (h : PH) (z zm sm : Nat) (a0 : Nat) : Option (PH × Nat) :=
  ((nwC (h, z, 0) zm sm 60 (.inl (60, fun _ => 0))).bind fun q1 => ((wrF (q1).1 a0 3 0 (.ref (((h, z, 0)).2.1))).bind fun h3 => ((wrF ((h3, (q1).2)).1 a0 3 1 (.int ((0 : Int32)))).bind fun h4 => (if ((h4, ((h3, (q1).2)).2)).2.1 ≤ zm ∧ ((h4, ((h3, (q1).2)).2)).2.2 ≤ sm then some (((h4, ((h3, (q1).2)).2)).1, ((h4, ((h3, (q1).2)).2)).2.1) else none))))
def f_X3_init_J76 (zm sm : Nat) (hh : (PH × Nat × Nat)) (x0 : Nat)  : Option (PH × Nat) :=
  ((wrF (hh).1 x0 2 2 (.int ((0 : Int32)))).bind fun h1 => ((wrF ((h1, (hh).2)).1 x0 2 3 (.int ((0 : Int32)))).bind fun h2 => ((wrF ((h2, ((h1, (hh).2)).2)).1 x0 2 4 (.int ((0 : Int32)))).bind fun h3 => ((wrF ((h3, ((h2, ((h1, (hh).2)).2)).2)).1 x0 2 5 (.int ((0 : Int32)))).bind fun h4 => (if ((h4, ((h3, ((h2, ((h1, (hh).2)).2)).2)).2)).2.1 ≤ zm ∧ ((h4, ((h3, ((h2, ((h1, (hh).2)).2)).2)).2)).2.2 ≤ sm then some (((h4, ((h3, ((h2, ((h1, (hh).2)).2)).2)).2)).1, ((h4, ((h3, ((h2, ((h1, (hh).2)).2)).2)).2)).2.1) else none)))))
def f_X3_init_L48 (zm sm : Nat) (x0 : Nat) : Int32 × (PH × Nat × Nat) → Option ((Int32 × (PH × Nat × Nat)) ⊕ ((PH × Nat × Nat))) := fun z48 =>
  ((rdR ((z48.2)).1 x0 2 1).bind fun v10 => ((lnA ((z48.2)).1 v10).bind fun v11 => (if v11 ≤ (z48.1) then some (.inr (((z48.2)))) else ((rdR ((z48.2)).1 x0 2 1).bind fun v12 => ((nwC (z48.2) zm sm 4 (.inr (.inr (1, [.null, .null, .int 0, .int 0])))).bind fun q13 => ((clC q13 zm sm 2 68 (f_X2_init (q13).1 (q13).2.1 ((q13).2.1 + 2) 68 ((z48.2)).2.1)).bind fun q15 => ((stQ (q15).1 v12 (z48.1) ((z48.2)).2.1).bind fun h18 => some (.inl (((z48.1) + 1), (h18, (q15).2))))))))))
def f_X3_init_J38 (zm sm : Nat) (hh : (PH × Nat × Nat)) (x0 : Nat)  : Option (PH × Nat) :=
  ((nwC hh zm sm 4 (.inr (.inl (0, 4, fun _ => none)))).bind fun q6 => ((wrF (q6).1 x0 2 1 (.ref ((hh).2.1))).bind fun h8 => ((lpn (f_X3_init_L48 zm sm (x0)) LF ((0 : Int32), (h8, (q6).2))).bind (fun w48 => (f_X3_init_J76 zm sm w48 (x0))))))
def f_X3_init_L14 (zm sm : Nat) (x0 : Nat) : Int32 × (PH × Nat × Nat) → Option ((Int32 × (PH × Nat × Nat)) ⊕ ((PH × Nat × Nat))) := fun z14 =>
  ((rdR ((z14.2)).1 x0 2 0).bind fun v23 => ((lnA ((z14.2)).1 v23).bind fun v24 => (if v24 ≤ (z14.1) then some (.inr (((z14.2)))) else ((rdR ((z14.2)).1 x0 2 0).bind fun v25 => ((stI ((z14.2)).1 v25 (z14.1) ((2 : Int32) + (z14.1))).bind fun h26 => some (.inl (((z14.1) + 1), (h26, ((z14.2)).2))))))))
def f_X3_init (h : PH) (z zm sm : Nat) (a0 : Nat) : Option (PH × Nat) :=
  ((nwC (h, z, 0) zm sm 8 (.inl (8, fun _ => 0))).bind fun q19 => ((wrF (q19).1 a0 2 0 (.ref (((h, z, 0)).2.1))).bind fun h21 => ((lpn (f_X3_init_L14 zm sm (a0)) LF ((0 : Int32), (h21, (q19).2))).bind (fun w14 => (f_X3_init_J38 zm sm w14 (a0))))))
def f_X0_init_J43 (zm sm : Nat) (hh : (PH × Nat × Nat)) (x0 : Nat)  : Option (PH × Nat) :=
  ((wrF (hh).1 x0 0 1 (.int ((0 : Int32)))).bind fun h1 => (if ((h1, (hh).2)).2.1 ≤ zm ∧ ((h1, (hh).2)).2.2 ≤ sm then some (((h1, (hh).2)).1, ((h1, (hh).2)).2.1) else none))
def f_X0_init_L15 (zm sm : Nat) (x0 : Nat) : Int32 × (PH × Nat × Nat) → Option ((Int32 × (PH × Nat × Nat)) ⊕ ((PH × Nat × Nat))) := fun z15 =>
  ((rdR ((z15.2)).1 x0 0 0).bind fun v7 => ((lnA ((z15.2)).1 v7).bind fun v8 => (if v8 ≤ (z15.1) then some (.inr (((z15.2)))) else ((rdR ((z15.2)).1 x0 0 0).bind fun v9 => ((nwC (z15.2) zm sm 6 (.inr (.inr (2, [.null, .null, .int 0, .int 0, .int 0, .int 0])))).bind fun q10 => ((clC q10 zm sm 14 300 (f_X3_init (q10).1 (q10).2.1 ((q10).2.1 + 14) 300 ((z15.2)).2.1)).bind fun q12 => ((stQ (q12).1 v9 (z15.1) ((z15.2)).2.1).bind fun h15 => some (.inl (((z15.1) + 1), (h15, (q12).2))))))))))
def f_X0_init (h : PH) (z zm sm : Nat) (a0 : Nat) : Option (PH × Nat) :=
  ((nwC (h, z, 0) zm sm 6 (.inr (.inl (1, 6, fun _ => none)))).bind fun q3 => ((wrF (q3).1 a0 0 0 (.ref (((h, z, 0)).2.1))).bind fun h5 => ((lpn (f_X0_init_L15 zm sm (a0)) LF ((0 : Int32), (h5, (q3).2))).bind (fun w15 => (f_X0_init_J43 zm sm w15 (a0))))))
def f_X5_init (h : PH) (z zm sm : Nat) (a0 : Nat) : Option (PH × Nat) :=
  ((nwC (h, z, 0) zm sm 6 (.inr (.inr (2, [.null, .null, .int 0, .int 0, .int 0, .int 0])))).bind fun q1 => ((clC q1 zm sm 14 300 (f_X3_init (q1).1 (q1).2.1 ((q1).2.1 + 14) 300 ((h, z, 0)).2.1)).bind fun q3 => ((wrF (q3).1 a0 4 0 (.ref (((h, z, 0)).2.1))).bind fun h6 => ((nwC (h6, (q3).2) zm sm 6 (.inr (.inr (2, [.null, .null, .int 0, .int 0, .int 0, .int 0])))).bind fun q7 => ((clC q7 zm sm 14 300 (f_X3_init (q7).1 (q7).2.1 ((q7).2.1 + 14) 300 ((h6, (q3).2)).2.1)).bind fun q9 => ((wrF (q9).1 a0 4 1 (.ref (((h6, (q3).2)).2.1))).bind fun h12 => ((nwC (h12, (q9).2) zm sm 2 (.inr (.inr (0, [.null, .int 0])))).bind fun q13 => ((clC q13 zm sm 91 1842 (f_X0_init (q13).1 (q13).2.1 ((q13).2.1 + 91) 1842 ((h12, (q9).2)).2.1)).bind fun q15 => ((wrF (q15).1 a0 4 2 (.ref (((h12, (q9).2)).2.1))).bind fun h18 => ((nwC (h18, (q15).2) zm sm 2 (.inr (.inr (3, [.null, .int 0])))).bind fun q19 => ((clC q19 zm sm 1 60 (f_X4_init (q19).1 (q19).2.1 ((q19).2.1 + 1) 60 ((h18, (q15).2)).2.1)).bind fun q21 => ((wrF (q21).1 a0 4 3 (.ref (((h18, (q15).2)).2.1))).bind fun h24 => ((nwC (h24, (q21).2) zm sm 4 (.inr (.inr (1, [.null, .null, .int 0, .int 0])))).bind fun q25 => ((clC q25 zm sm 2 68 (f_X2_init (q25).1 (q25).2.1 ((q25).2.1 + 2) 68 ((h24, (q21).2)).2.1)).bind fun q27 => ((wrF (q27).1 a0 4 4 (.ref (((h24, (q21).2)).2.1))).bind fun h30 => ((wrF ((h30, (q27).2)).1 a0 4 5 (.int ((0 : Int32)))).bind fun h31 => (if ((h31, ((h30, (q27).2)).2)).2.1 ≤ zm ∧ ((h31, ((h30, (q27).2)).2)).2.2 ≤ sm then some (((h31, ((h30, (q27).2)).2)).1, ((h31, ((h30, (q27).2)).2)).2.1) else none)))))))))))))))))
theorem kd_X2_init : yX2_init.cls ≠ "java/lang/invoke/MethodHandle" ∧ yX2_init.cls ≠ "java/lang/invoke/VarHandle" ∧ (parseMethodDescriptor yX2_init.desc).map (fun d => d.parameters.length) = some 0 := by decide +kernel
set_option maxRecDepth 20000 in
set_option maxHeartbeats 4000000 in
theorem cz_X2_init {l : Launch} {h : PH} {z zm sm a0 : Nat} {r : PH × Nat} (hf : f_X2_init h z zm sm a0 = some r) : CZ l yX2_init cX2_init 1 1 20 [.ref a0] h z zm sm r.1 r.2 := by
  refine CZ.of (own := RX2) rfl (by decide) (Nat.le_of_ble_eq_true rfl) ?_
  intro p e R s m args below meth c g X hR hz0 hin ao0 ao1 C
  subst hR
  unfold f_X2_init at hf
  refine GZ.sub C [0] (lv' := [(0, .ref (a0))]) rfl ?_
  show GZ p l e ({ frames := 1, cells := zm - z, slots := sm, locals := 20 } : Room) s m args below meth c 1 g X h zm sm (MQ below (QZ g X h z r.1 r.2) args s (zm - z) sm (AF X h z)) ((h, z, 0)).2.1 ((h, z, 0)).2.2 0 [(0, .ref (a0))] [] ((h, z, 0)).1
  refine GZ.aload_n C 0 dX2_init_0 rfl rfl ?_
  refine GZ.objInit C m9_42 m9_7 m9_8 (Nat.le_of_ble_eq_true rfl) (Nat.le_of_ble_eq_true rfl) dX2_init_1 ?_
  refine GZ.aload_n C 0 dX2_init_4 rfl rfl ?_
  refine GZ.bipush (v := 60) C dX2_init_5 (by decide) ?_
  obtain ⟨q1, hq1, hf⟩ := bind_some hf
  try dsimp only at hf
  obtain ⟨c2, eq1⟩ := nwC_at hq1
  refine GZ.newI C ⟨by rw [hz0], rfl⟩ 60 m9_31 (by decide) (by decide) (by decide) c2 dX2_init_7 ?_
  refine GZ.byq eq1 ?_
  refine GZ.putF (ci := 1) (k := 0) C rfl inlX2 (by decide) m9_43 rfl tyX2 tyX2_ok nmX2 rfl hin rfl rfl rfl hf dX2_init_9 (fun h3 hh3 hf => ?_)
  try dsimp only at hf
  refine GZ.aload_n C 0 dX2_init_12 rfl rfl ?_
  refine GZ.bipush (v := 8) C dX2_init_13 (by decide) ?_
  obtain ⟨q4, hq4, hf⟩ := bind_some hf
  try dsimp only at hf
  obtain ⟨c5, eq4⟩ := nwC_at hq4
  refine GZ.newI C ⟨by rw [hz0], rfl⟩ 8 m9_31 (by decide) (by decide) (by decide) c5 dX2_init_15 ?_
  refine GZ.byq eq4 ?_
  refine GZ.putF (ci := 1) (k := 1) C rfl inlX2 (by decide) m9_44 rfl tyX2 tyX2_ok nmX2 rfl hin rfl rfl rfl hf dX2_init_17 (fun h6 hh6 hf => ?_)
  try dsimp only at hf
  refine GZ.aload_n C 0 dX2_init_20 rfl rfl ?_
  refine GZ.iconst (v := 0) C dX2_init_21 (by decide) ?_
  refine GZ.put (ci := 1) (k := 2) C rfl inlX2 (by decide) m9_45 rfl tyX2 tyX2_ok nmX2 rfl rfl rfl hf dX2_init_22 (fun h7 hh7 hf => ?_)
  try dsimp only at hf
  refine GZ.aload_n C 0 dX2_init_25 rfl rfl ?_
  refine GZ.iconst (v := 0) C dX2_init_26 (by decide) ?_
  refine GZ.put (ci := 1) (k := 3) C rfl inlX2 (by decide) m9_46 rfl tyX2 tyX2_ok nmX2 rfl rfl rfl hf dX2_init_27 (fun h8 hh8 hf => ?_)
  try dsimp only at hf
  obtain ⟨c9, hf⟩ := gd_ok hf
  cases hf
  exact GZ.vret C hz0 c9 dX2_init_30
theorem kd_X4_init : yX4_init.cls ≠ "java/lang/invoke/MethodHandle" ∧ yX4_init.cls ≠ "java/lang/invoke/VarHandle" ∧ (parseMethodDescriptor yX4_init.desc).map (fun d => d.parameters.length) = some 0 := by decide +kernel
set_option maxRecDepth 20000 in
set_option maxHeartbeats 4000000 in
theorem cz_X4_init {l : Launch} {h : PH} {z zm sm a0 : Nat} {r : PH × Nat} (hf : f_X4_init h z zm sm a0 = some r) : CZ l yX4_init cX4_init 1 1 20 [.ref a0] h z zm sm r.1 r.2 := by
  refine CZ.of (own := RX4) rfl (by decide) (Nat.le_of_ble_eq_true rfl) ?_
  intro p e R s m args below meth c g X hR hz0 hin ao0 ao1 C
  subst hR
  unfold f_X4_init at hf
  refine GZ.sub C [0] (lv' := [(0, .ref (a0))]) rfl ?_
  show GZ p l e ({ frames := 1, cells := zm - z, slots := sm, locals := 20 } : Room) s m args below meth c 1 g X h zm sm (MQ below (QZ g X h z r.1 r.2) args s (zm - z) sm (AF X h z)) ((h, z, 0)).2.1 ((h, z, 0)).2.2 0 [(0, .ref (a0))] [] ((h, z, 0)).1
  refine GZ.aload_n C 0 dX4_init_0 rfl rfl ?_
  refine GZ.objInit C m9_58 m9_7 m9_8 (Nat.le_of_ble_eq_true rfl) (Nat.le_of_ble_eq_true rfl) dX4_init_1 ?_
  refine GZ.aload_n C 0 dX4_init_4 rfl rfl ?_
  refine GZ.bipush (v := 60) C dX4_init_5 (by decide) ?_
  obtain ⟨q1, hq1, hf⟩ := bind_some hf
  try dsimp only at hf
  obtain ⟨c2, eq1⟩ := nwC_at hq1
  refine GZ.newI C ⟨by rw [hz0], rfl⟩ 60 m9_31 (by decide) (by decide) (by decide) c2 dX4_init_7 ?_
  refine GZ.byq eq1 ?_
  refine GZ.putF (ci := 3) (k := 0) C rfl inlX4 (by decide) m9_59 rfl tyX4 tyX4_ok nmX4 rfl hin rfl rfl rfl hf dX4_init_9 (fun h3 hh3 hf => ?_)
  try dsimp only at hf
  refine GZ.aload_n C 0 dX4_init_12 rfl rfl ?_
  refine GZ.iconst (v := 0) C dX4_init_13 (by decide) ?_
  refine GZ.put (ci := 3) (k := 1) C rfl inlX4 (by decide) m9_60 rfl tyX4 tyX4_ok nmX4 rfl rfl rfl hf dX4_init_14 (fun h4 hh4 hf => ?_)
  try dsimp only at hf
  obtain ⟨c5, hf⟩ := gd_ok hf
  cases hf
  exact GZ.vret C hz0 c5 dX4_init_17
theorem kd_X3_init : yX3_init.cls ≠ "java/lang/invoke/MethodHandle" ∧ yX3_init.cls ≠ "java/lang/invoke/VarHandle" ∧ (parseMethodDescriptor yX3_init.desc).map (fun d => d.parameters.length) = some 0 := by decide +kernel
set_option maxRecDepth 20000 in
set_option maxHeartbeats 4000000 in
theorem cz_X3_init {l : Launch} {h : PH} {z zm sm a0 : Nat} {r : PH × Nat} (hf : f_X3_init h z zm sm a0 = some r) : CZ l yX3_init cX3_init 2 2 40 [.ref a0] h z zm sm r.1 r.2 := by
  refine CZ.of (own := RX3) rfl (by decide) (Nat.le_of_ble_eq_true rfl) ?_
  intro p e R s m args below meth c g X hR hz0 hin ao0 ao1 C
  subst hR
  unfold f_X3_init at hf
  have hj76 : ∀ (hh : (PH × Nat × Nat)) (x0 : Nat), f_X3_init_J76 zm sm hh (x0) = some r → GZ p l e ({ frames := 2, cells := zm - z, slots := sm, locals := 40 } : Room) s m args below meth c 2 g X h zm sm (MQ below (QZ g X h z r.1 r.2) args s (zm - z) sm (AF X h z)) (hh).2.1 (hh).2.2 76 [(0, .ref (x0))] [] (hh).1 := by
    intro hh x0 hf
    unfold f_X3_init_J76 at hf
    refine GZ.aload_n C 0 dX3_init_76 rfl rfl ?_
    refine GZ.iconst (v := 0) C dX3_init_77 (by decide) ?_
    refine GZ.put (ci := 2) (k := 2) C rfl inlX3 (by decide) m9_35 rfl tyX3 tyX3_ok nmX3 rfl rfl rfl hf dX3_init_78 (fun h27 hh27 hf => ?_)
    try dsimp only at hf
    refine GZ.aload_n C 0 dX3_init_81 rfl rfl ?_
    refine GZ.iconst (v := 0) C dX3_init_82 (by decide) ?_
    refine GZ.put (ci := 2) (k := 3) C rfl inlX3 (by decide) m9_36 rfl tyX3 tyX3_ok nmX3 rfl rfl rfl hf dX3_init_83 (fun h28 hh28 hf => ?_)
    try dsimp only at hf
    refine GZ.aload_n C 0 dX3_init_86 rfl rfl ?_
    refine GZ.iconst (v := 0) C dX3_init_87 (by decide) ?_
    refine GZ.put (ci := 2) (k := 4) C rfl inlX3 (by decide) m9_37 rfl tyX3 tyX3_ok nmX3 rfl rfl rfl hf dX3_init_88 (fun h29 hh29 hf => ?_)
    try dsimp only at hf
    refine GZ.aload_n C 0 dX3_init_91 rfl rfl ?_
    refine GZ.iconst (v := 0) C dX3_init_92 (by decide) ?_
    refine GZ.put (ci := 2) (k := 5) C rfl inlX3 (by decide) m9_38 rfl tyX3 tyX3_ok nmX3 rfl rfl rfl hf dX3_init_93 (fun h30 hh30 hf => ?_)
    try dsimp only at hf
    obtain ⟨c31, hf⟩ := gd_ok hf
    cases hf
    exact GZ.vret C hz0 c31 dX3_init_96
  have hj38 : ∀ (hh : (PH × Nat × Nat)) (x0 : Nat), f_X3_init_J38 zm sm hh (x0) = some r → GZ p l e ({ frames := 2, cells := zm - z, slots := sm, locals := 40 } : Room) s m args below meth c 2 g X h zm sm (MQ below (QZ g X h z r.1 r.2) args s (zm - z) sm (AF X h z)) (hh).2.1 (hh).2.2 38 [(0, .ref (x0))] [] (hh).1 := by
    intro hh x0 hf
    unfold f_X3_init_J38 at hf
    refine GZ.aload_n C 0 dX3_init_38 rfl rfl ?_
    refine GZ.iconst (v := 4) C dX3_init_39 (by decide) ?_
    obtain ⟨q32, hq32, hf⟩ := bind_some hf
    try dsimp only at hf
    obtain ⟨c33, eq32⟩ := nwC_at hq32
    refine GZ.newQR C ⟨by rw [hz0], rfl⟩ 4 m9_33 ao0 (by decide) (by decide) (by decide) c33 dX3_init_40 ?_
    refine GZ.byq eq32 ?_
    refine GZ.putF (ci := 2) (k := 1) C rfl inlX3 (by decide) m9_34 rfl tyX3 tyX3_ok nmX3 rfl hin rfl rfl rfl hf dX3_init_43 (fun h34 hh34 hf => ?_)
    try dsimp only at hf
    refine GZ.iconst (v := 0) C dX3_init_46 (by decide) ?_
    refine GZ.istore_n (lv' := [(1, .int ((0 : Int32))), (0, .ref (x0))]) C dX3_init_47 rfl (by decide) rfl ?_
    obtain ⟨z35, hlp35, hfo35⟩ := bind_some hf
    clear hf
    have hloop35 : ∀ (k : Nat), ∀ (x1 : Int32) (hh : (PH × Nat × Nat)), (lpn (f_X3_init_L48 zm sm (x0)) k (x1, hh)) = some z35 → GZ p l e ({ frames := 2, cells := zm - z, slots := sm, locals := 40 } : Room) s m args below meth c 2 g X h zm sm (MQ below (QZ g X h z r.1 r.2) args s (zm - z) sm (AF X h z)) (hh).2.1 (hh).2.2 48 [(0, .ref (x0)), (1, .int (x1))] [] (hh).1 := by
      intro k
      induction k with
      | zero => intro x1 hh hlp35; exact (lpn_0 hlp35).elim
      | succ k ih35 =>
        intro x1 hh hlp35
        obtain ⟨y35, hf, hlp35⟩ := lpn_s hlp35
        unfold f_X3_init_L48 at hf
        try dsimp only at hf
        refine GZ.iload_n C 1 dX3_init_48 rfl rfl ?_
        refine GZ.aload_n C 0 dX3_init_49 rfl rfl ?_
        refine GZ.getR (ci := 2) (k := 1) C rfl inlX3 (by decide) m9_34 rfl hf dX3_init_50 (fun v36 hv36 hf => ?_)
        try dsimp only at hf
        refine GZ.alen C hf dX3_init_53 (fun v37 hv37 hf => ?_)
        try dsimp only at hf
        refine GZ.icmp_ge (tgt := 76) C dX3_init_54 (by decide) hf (fun c45 hf => ?_) (fun c45 hf => ?_)
        · cases hf
          change some _ = some _ at hlp35
          have hf := hfo35
          try rw [← Option.some.inj hlp35] at hf
          try dsimp only at hf
          refine GZ.sub C [0] (lv' := [(0, .ref (x0))]) rfl ?_
          exact hj76 _ _ hf
        · refine GZ.aload_n C 0 dX3_init_57 rfl rfl ?_
          refine GZ.getR (ci := 2) (k := 1) C rfl inlX3 (by decide) m9_34 rfl hf dX3_init_58 (fun v38 hv38 hf => ?_)
          try dsimp only at hf
          refine GZ.iload_n C 1 dX3_init_61 rfl rfl ?_
          obtain ⟨q39, hq39, hf⟩ := bind_some hf
          try dsimp only at hf
          obtain ⟨c40, eq39⟩ := nwC_at hq39
          refine GZ.newO (ci := 1) C ⟨by rw [hz0], rfl⟩ rfl inlX2 tyX2 tyX2_ok m9_33 m9_23 m9_24 [.null, .null, .int 0, .int 0] (by decide +kernel) c40 dX3_init_62 ?_
          refine GZ.byq eq39 ?_
          refine GZ.dup C dX3_init_65 rfl ?_
          obtain ⟨q41, hq41, hf⟩ := bind_some hf
          try dsimp only at hf
          obtain ⟨h42, hh42, c43, eq41⟩ := clC_at hq41
          refine GZ.callI C ao0 ao1 ⟨by rw [hz0], rfl⟩ (cz_X2_init hh42) rfl m9_39 m9_40 m9_24 m9_41 rfl kd_X2_init ⟨Nat.le_of_ble_eq_true rfl, Nat.le_of_ble_eq_true rfl⟩ ⟨Nat.le_add_right _ _, c43⟩ (Nat.le_of_ble_eq_true rfl) dX3_init_66 ?_
          refine GZ.byq eq41 ?_
          refine GZ.aast C hf dX3_init_69 (fun h44 hh44 hf => ?_)
          try dsimp only at hf
          refine GZ.iinc (k := 1) (v := (x1 + 1)) (lv' := [(1, .int ((x1 + 1))), (0, .ref (x0))]) C dX3_init_70 rfl rfl (by decide) rfl ?_
          refine GZ.goto (tgt := 48) C dX3_init_73 (by decide) ?_
          cases hf
          refine GZ.sub C [1, 0] (lv' := [(0, .ref (x0)), (1, .int ((x1 + 1)))]) rfl ?_
          exact ih35 _ _ hlp35
    refine GZ.sub C [1, 0] (lv' := [(0, .ref (x0)), (1, .int ((0 : Int32)))]) rfl ?_
    exact hloop35 LF _ _ hlp35
  refine GZ.sub C [0] (lv' := [(0, .ref (a0))]) rfl ?_
  show GZ p l e ({ frames := 2, cells := zm - z, slots := sm, locals := 40 } : Room) s m args below meth c 2 g X h zm sm (MQ below (QZ g X h z r.1 r.2) args s (zm - z) sm (AF X h z)) ((h, z, 0)).2.1 ((h, z, 0)).2.2 0 [(0, .ref (a0))] [] ((h, z, 0)).1
  refine GZ.aload_n C 0 dX3_init_0 rfl rfl ?_
  refine GZ.objInit C m9_30 m9_7 m9_8 (Nat.le_of_ble_eq_true rfl) (Nat.le_of_ble_eq_true rfl) dX3_init_1 ?_
  refine GZ.aload_n C 0 dX3_init_4 rfl rfl ?_
  refine GZ.bipush (v := 8) C dX3_init_5 (by decide) ?_
  obtain ⟨q1, hq1, hf⟩ := bind_some hf
  try dsimp only at hf
  obtain ⟨c2, eq1⟩ := nwC_at hq1
  refine GZ.newI C ⟨by rw [hz0], rfl⟩ 8 m9_31 (by decide) (by decide) (by decide) c2 dX3_init_7 ?_
  refine GZ.byq eq1 ?_
  refine GZ.putF (ci := 2) (k := 0) C rfl inlX3 (by decide) m9_32 rfl tyX3 tyX3_ok nmX3 rfl hin rfl rfl rfl hf dX3_init_9 (fun h3 hh3 hf => ?_)
  try dsimp only at hf
  refine GZ.iconst (v := 0) C dX3_init_12 (by decide) ?_
  refine GZ.istore_n (lv' := [(1, .int ((0 : Int32))), (0, .ref (a0))]) C dX3_init_13 rfl (by decide) rfl ?_
  obtain ⟨z4, hlp4, hfo4⟩ := bind_some hf
  clear hf
  have hloop4 : ∀ (k : Nat), ∀ (x1 : Int32) (hh : (PH × Nat × Nat)), (lpn (f_X3_init_L14 zm sm (a0)) k (x1, hh)) = some z4 → GZ p l e ({ frames := 2, cells := zm - z, slots := sm, locals := 40 } : Room) s m args below meth c 2 g X h zm sm (MQ below (QZ g X h z r.1 r.2) args s (zm - z) sm (AF X h z)) (hh).2.1 (hh).2.2 14 [(0, .ref (a0)), (1, .int (x1))] [] (hh).1 := by
    intro k
    induction k with
    | zero => intro x1 hh hlp4; exact (lpn_0 hlp4).elim
    | succ k ih4 =>
      intro x1 hh hlp4
      obtain ⟨y4, hf, hlp4⟩ := lpn_s hlp4
      unfold f_X3_init_L14 at hf
      try dsimp only at hf
      refine GZ.iload_n C 1 dX3_init_14 rfl rfl ?_
      refine GZ.aload_n C 0 dX3_init_15 rfl rfl ?_
      refine GZ.getR (ci := 2) (k := 0) C rfl inlX3 (by decide) m9_32 rfl hf dX3_init_16 (fun v5 hv5 hf => ?_)
      try dsimp only at hf
      refine GZ.alen C hf dX3_init_19 (fun v6 hv6 hf => ?_)
      try dsimp only at hf
      refine GZ.icmp_ge (tgt := 38) C dX3_init_20 (by decide) hf (fun c9 hf => ?_) (fun c9 hf => ?_)
      · cases hf
        change some _ = some _ at hlp4
        have hf := hfo4
        try rw [← Option.some.inj hlp4] at hf
        try dsimp only at hf
        refine GZ.sub C [0] (lv' := [(0, .ref (a0))]) rfl ?_
        exact hj38 _ _ hf
      · refine GZ.aload_n C 0 dX3_init_23 rfl rfl ?_
        refine GZ.getR (ci := 2) (k := 0) C rfl inlX3 (by decide) m9_32 rfl hf dX3_init_24 (fun v7 hv7 hf => ?_)
        try dsimp only at hf
        refine GZ.iload_n C 1 dX3_init_27 rfl rfl ?_
        refine GZ.iconst (v := 2) C dX3_init_28 (by decide) ?_
        refine GZ.iload_n C 1 dX3_init_29 rfl rfl ?_
        refine GZ.iadd C dX3_init_30 ?_
        refine GZ.iast C hf dX3_init_31 (fun h8 hh8 hf => ?_)
        try dsimp only at hf
        refine GZ.iinc (k := 1) (v := (x1 + 1)) (lv' := [(1, .int ((x1 + 1))), (0, .ref (a0))]) C dX3_init_32 rfl rfl (by decide) rfl ?_
        refine GZ.goto (tgt := 14) C dX3_init_35 (by decide) ?_
        cases hf
        refine GZ.sub C [1, 0] (lv' := [(0, .ref (a0)), (1, .int ((x1 + 1)))]) rfl ?_
        exact ih4 _ _ hlp4
  refine GZ.sub C [1, 0] (lv' := [(0, .ref (a0)), (1, .int ((0 : Int32)))]) rfl ?_
  exact hloop4 LF _ _ hlp4
theorem kd_X0_init : yX0_init.cls ≠ "java/lang/invoke/MethodHandle" ∧ yX0_init.cls ≠ "java/lang/invoke/VarHandle" ∧ (parseMethodDescriptor yX0_init.desc).map (fun d => d.parameters.length) = some 0 := by decide +kernel
set_option maxRecDepth 20000 in
set_option maxHeartbeats 4000000 in
theorem cz_X0_init {l : Launch} {h : PH} {z zm sm a0 : Nat} {r : PH × Nat} (hf : f_X0_init h z zm sm a0 = some r) : CZ l yX0_init cX0_init 2 3 61 [.ref a0] h z zm sm r.1 r.2 := by
  refine CZ.of (own := RX0) rfl (by decide) (Nat.le_of_ble_eq_true rfl) ?_
  intro p e R s m args below meth c g X hR hz0 hin ao0 ao1 C
  subst hR
  unfold f_X0_init at hf
  have hj43 : ∀ (hh : (PH × Nat × Nat)) (x0 : Nat), f_X0_init_J43 zm sm hh (x0) = some r → GZ p l e ({ frames := 3, cells := zm - z, slots := sm, locals := 61 } : Room) s m args below meth c 2 g X h zm sm (MQ below (QZ g X h z r.1 r.2) args s (zm - z) sm (AF X h z)) (hh).2.1 (hh).2.2 43 [(0, .ref (x0))] [] (hh).1 := by
    intro hh x0 hf
    unfold f_X0_init_J43 at hf
    refine GZ.aload_n C 0 dX0_init_43 rfl rfl ?_
    refine GZ.iconst (v := 0) C dX0_init_44 (by decide) ?_
    refine GZ.put (ci := 0) (k := 1) C rfl inlX0 (by decide) m9_53 rfl tyX0 tyX0_ok nmX0 rfl rfl rfl hf dX0_init_45 (fun h16 hh16 hf => ?_)
    try dsimp only at hf
    obtain ⟨c17, hf⟩ := gd_ok hf
    cases hf
    exact GZ.vret C hz0 c17 dX0_init_48
  refine GZ.sub C [0] (lv' := [(0, .ref (a0))]) rfl ?_
  show GZ p l e ({ frames := 3, cells := zm - z, slots := sm, locals := 61 } : Room) s m args below meth c 2 g X h zm sm (MQ below (QZ g X h z r.1 r.2) args s (zm - z) sm (AF X h z)) ((h, z, 0)).2.1 ((h, z, 0)).2.2 0 [(0, .ref (a0))] [] ((h, z, 0)).1
  refine GZ.aload_n C 0 dX0_init_0 rfl rfl ?_
  refine GZ.objInit C m9_50 m9_7 m9_8 (Nat.le_of_ble_eq_true rfl) (Nat.le_of_ble_eq_true rfl) dX0_init_1 ?_
  refine GZ.aload_n C 0 dX0_init_4 rfl rfl ?_
  refine GZ.bipush (v := 6) C dX0_init_5 (by decide) ?_
  obtain ⟨q1, hq1, hf⟩ := bind_some hf
  try dsimp only at hf
  obtain ⟨c2, eq1⟩ := nwC_at hq1
  refine GZ.newQS C ⟨by rw [hz0], rfl⟩ 6 m9_51 ao1 (by decide) (by decide) (by decide) c2 dX0_init_7 ?_
  refine GZ.byq eq1 ?_
  refine GZ.putF (ci := 0) (k := 0) C rfl inlX0 (by decide) m9_52 rfl tyX0 tyX0_ok nmX0 rfl hin rfl rfl rfl hf dX0_init_10 (fun h3 hh3 hf => ?_)
  try dsimp only at hf
  refine GZ.iconst (v := 0) C dX0_init_13 (by decide) ?_
  refine GZ.istore_n (lv' := [(1, .int ((0 : Int32))), (0, .ref (a0))]) C dX0_init_14 rfl (by decide) rfl ?_
  obtain ⟨z4, hlp4, hfo4⟩ := bind_some hf
  clear hf
  have hloop4 : ∀ (k : Nat), ∀ (x1 : Int32) (hh : (PH × Nat × Nat)), (lpn (f_X0_init_L15 zm sm (a0)) k (x1, hh)) = some z4 → GZ p l e ({ frames := 3, cells := zm - z, slots := sm, locals := 61 } : Room) s m args below meth c 2 g X h zm sm (MQ below (QZ g X h z r.1 r.2) args s (zm - z) sm (AF X h z)) (hh).2.1 (hh).2.2 15 [(0, .ref (a0)), (1, .int (x1))] [] (hh).1 := by
    intro k
    induction k with
    | zero => intro x1 hh hlp4; exact (lpn_0 hlp4).elim
    | succ k ih4 =>
      intro x1 hh hlp4
      obtain ⟨y4, hf, hlp4⟩ := lpn_s hlp4
      unfold f_X0_init_L15 at hf
      try dsimp only at hf
      refine GZ.iload_n C 1 dX0_init_15 rfl rfl ?_
      refine GZ.aload_n C 0 dX0_init_16 rfl rfl ?_
      refine GZ.getR (ci := 0) (k := 0) C rfl inlX0 (by decide) m9_52 rfl hf dX0_init_17 (fun v5 hv5 hf => ?_)
      try dsimp only at hf
      refine GZ.alen C hf dX0_init_20 (fun v6 hv6 hf => ?_)
      try dsimp only at hf
      refine GZ.icmp_ge (tgt := 43) C dX0_init_21 (by decide) hf (fun c14 hf => ?_) (fun c14 hf => ?_)
      · cases hf
        change some _ = some _ at hlp4
        have hf := hfo4
        try rw [← Option.some.inj hlp4] at hf
        try dsimp only at hf
        refine GZ.sub C [0] (lv' := [(0, .ref (a0))]) rfl ?_
        exact hj43 _ _ hf
      · refine GZ.aload_n C 0 dX0_init_24 rfl rfl ?_
        refine GZ.getR (ci := 0) (k := 0) C rfl inlX0 (by decide) m9_52 rfl hf dX0_init_25 (fun v7 hv7 hf => ?_)
        try dsimp only at hf
        refine GZ.iload_n C 1 dX0_init_28 rfl rfl ?_
        obtain ⟨q8, hq8, hf⟩ := bind_some hf
        try dsimp only at hf
        obtain ⟨c9, eq8⟩ := nwC_at hq8
        refine GZ.newO (ci := 2) C ⟨by rw [hz0], rfl⟩ rfl inlX3 tyX3 tyX3_ok m9_51 m9_10 m9_11 [.null, .null, .int 0, .int 0, .int 0, .int 0] (by decide +kernel) c9 dX0_init_29 ?_
        refine GZ.byq eq8 ?_
        refine GZ.dup C dX0_init_32 rfl ?_
        obtain ⟨q10, hq10, hf⟩ := bind_some hf
        try dsimp only at hf
        obtain ⟨h11, hh11, c12, eq10⟩ := clC_at hq10
        refine GZ.callI C ao0 ao1 ⟨by rw [hz0], rfl⟩ (cz_X3_init hh11) rfl m9_54 m9_28 m9_11 m9_29 rfl kd_X3_init ⟨Nat.le_of_ble_eq_true rfl, Nat.le_of_ble_eq_true rfl⟩ ⟨Nat.le_add_right _ _, c12⟩ (Nat.le_of_ble_eq_true rfl) dX0_init_33 ?_
        refine GZ.byq eq10 ?_
        refine GZ.aast C hf dX0_init_36 (fun h13 hh13 hf => ?_)
        try dsimp only at hf
        refine GZ.iinc (k := 1) (v := (x1 + 1)) (lv' := [(1, .int ((x1 + 1))), (0, .ref (a0))]) C dX0_init_37 rfl rfl (by decide) rfl ?_
        refine GZ.goto (tgt := 15) C dX0_init_40 (by decide) ?_
        cases hf
        refine GZ.sub C [1, 0] (lv' := [(0, .ref (a0)), (1, .int ((x1 + 1)))]) rfl ?_
        exact ih4 _ _ hlp4
  refine GZ.sub C [1, 0] (lv' := [(0, .ref (a0)), (1, .int ((0 : Int32)))]) rfl ?_
  exact hloop4 LF _ _ hlp4
theorem kd_X5_init : yX5_init.cls ≠ "java/lang/invoke/MethodHandle" ∧ yX5_init.cls ≠ "java/lang/invoke/VarHandle" ∧ (parseMethodDescriptor yX5_init.desc).map (fun d => d.parameters.length) = some 0 := by decide +kernel
set_option maxRecDepth 20000 in
set_option maxHeartbeats 4000000 in
theorem cz_X5_init {l : Launch} {h : PH} {z zm sm a0 : Nat} {r : PH × Nat} (hf : f_X5_init h z zm sm a0 = some r) : CZ l yX5_init cX5_init 1 4 82 [.ref a0] h z zm sm r.1 r.2 := by
  refine CZ.of (own := RX5) rfl (by decide) (Nat.le_of_ble_eq_true rfl) ?_
  intro p e R s m args below meth c g X hR hz0 hin ao0 ao1 C
  subst hR
  unfold f_X5_init at hf
  refine GZ.sub C [0] (lv' := [(0, .ref (a0))]) rfl ?_
  show GZ p l e ({ frames := 4, cells := zm - z, slots := sm, locals := 82 } : Room) s m args below meth c 1 g X h zm sm (MQ below (QZ g X h z r.1 r.2) args s (zm - z) sm (AF X h z)) ((h, z, 0)).2.1 ((h, z, 0)).2.2 0 [(0, .ref (a0))] [] ((h, z, 0)).1
  refine GZ.aload_n C 0 dX5_init_0 rfl rfl ?_
  refine GZ.objInit C m9_6 m9_7 m9_8 (Nat.le_of_ble_eq_true rfl) (Nat.le_of_ble_eq_true rfl) dX5_init_1 ?_
  refine GZ.aload_n C 0 dX5_init_4 rfl rfl ?_
  obtain ⟨q1, hq1, hf⟩ := bind_some hf
  try dsimp only at hf
  obtain ⟨c2, eq1⟩ := nwC_at hq1
  refine GZ.newO (ci := 2) C ⟨by rw [hz0], rfl⟩ rfl inlX3 tyX3 tyX3_ok m9_9 m9_10 m9_11 [.null, .null, .int 0, .int 0, .int 0, .int 0] (by decide +kernel) c2 dX5_init_5 ?_
  refine GZ.byq eq1 ?_
  refine GZ.dup C dX5_init_8 rfl ?_
  obtain ⟨q3, hq3, hf⟩ := bind_some hf
  try dsimp only at hf
  obtain ⟨h4, hh4, c5, eq3⟩ := clC_at hq3
  refine GZ.callI C ao0 ao1 ⟨by rw [hz0], rfl⟩ (cz_X3_init hh4) rfl m9_27 m9_28 m9_11 m9_29 rfl kd_X3_init ⟨Nat.le_of_ble_eq_true rfl, Nat.le_of_ble_eq_true rfl⟩ ⟨Nat.le_add_right _ _, c5⟩ (Nat.le_of_ble_eq_true rfl) dX5_init_9 ?_
  refine GZ.byq eq3 ?_
  refine GZ.putF (ci := 4) (k := 0) C rfl inlX5 (by decide) m9_12 rfl tyX5 tyX5_ok nmX5 rfl hin rfl rfl rfl hf dX5_init_12 (fun h6 hh6 hf => ?_)
  try dsimp only at hf
  refine GZ.aload_n C 0 dX5_init_15 rfl rfl ?_
  obtain ⟨q7, hq7, hf⟩ := bind_some hf
  try dsimp only at hf
  obtain ⟨c8, eq7⟩ := nwC_at hq7
  refine GZ.newO (ci := 2) C ⟨by rw [hz0], rfl⟩ rfl inlX3 tyX3 tyX3_ok m9_9 m9_10 m9_11 [.null, .null, .int 0, .int 0, .int 0, .int 0] (by decide +kernel) c8 dX5_init_16 ?_
  refine GZ.byq eq7 ?_
  refine GZ.dup C dX5_init_19 rfl ?_
  obtain ⟨q9, hq9, hf⟩ := bind_some hf
  try dsimp only at hf
  obtain ⟨h10, hh10, c11, eq9⟩ := clC_at hq9
  refine GZ.callI C ao0 ao1 ⟨by rw [hz0], rfl⟩ (cz_X3_init hh10) rfl m9_27 m9_28 m9_11 m9_29 rfl kd_X3_init ⟨Nat.le_of_ble_eq_true rfl, Nat.le_of_ble_eq_true rfl⟩ ⟨Nat.le_add_right _ _, c11⟩ (Nat.le_of_ble_eq_true rfl) dX5_init_20 ?_
  refine GZ.byq eq9 ?_
  refine GZ.putF (ci := 4) (k := 1) C rfl inlX5 (by decide) m9_13 rfl tyX5 tyX5_ok nmX5 rfl hin rfl rfl rfl hf dX5_init_23 (fun h12 hh12 hf => ?_)
  try dsimp only at hf
  refine GZ.aload_n C 0 dX5_init_26 rfl rfl ?_
  obtain ⟨q13, hq13, hf⟩ := bind_some hf
  try dsimp only at hf
  obtain ⟨c14, eq13⟩ := nwC_at hq13
  refine GZ.newO (ci := 0) C ⟨by rw [hz0], rfl⟩ rfl inlX0 tyX0 tyX0_ok m9_14 m9_15 m9_16 [.null, .int 0] (by decide +kernel) c14 dX5_init_27 ?_
  refine GZ.byq eq13 ?_
  refine GZ.dup C dX5_init_30 rfl ?_
  obtain ⟨q15, hq15, hf⟩ := bind_some hf
  try dsimp only at hf
  obtain ⟨h16, hh16, c17, eq15⟩ := clC_at hq15
  refine GZ.callI C ao0 ao1 ⟨by rw [hz0], rfl⟩ (cz_X0_init hh16) rfl m9_47 m9_48 m9_16 m9_49 rfl kd_X0_init ⟨Nat.le_of_ble_eq_true rfl, Nat.le_of_ble_eq_true rfl⟩ ⟨Nat.le_add_right _ _, c17⟩ (Nat.le_of_ble_eq_true rfl) dX5_init_31 ?_
  refine GZ.byq eq15 ?_
  refine GZ.putF (ci := 4) (k := 2) C rfl inlX5 (by decide) m9_17 rfl tyX5 tyX5_ok nmX5 rfl hin rfl rfl rfl hf dX5_init_34 (fun h18 hh18 hf => ?_)
  try dsimp only at hf
  refine GZ.aload_n C 0 dX5_init_37 rfl rfl ?_
  obtain ⟨q19, hq19, hf⟩ := bind_some hf
  try dsimp only at hf
  obtain ⟨c20, eq19⟩ := nwC_at hq19
  refine GZ.newO (ci := 3) C ⟨by rw [hz0], rfl⟩ rfl inlX4 tyX4 tyX4_ok m9_18 m9_19 m9_20 [.null, .int 0] (by decide +kernel) c20 dX5_init_38 ?_
  refine GZ.byq eq19 ?_
  refine GZ.dup C dX5_init_41 rfl ?_
  obtain ⟨q21, hq21, hf⟩ := bind_some hf
  try dsimp only at hf
  obtain ⟨h22, hh22, c23, eq21⟩ := clC_at hq21
  refine GZ.callI C ao0 ao1 ⟨by rw [hz0], rfl⟩ (cz_X4_init hh22) rfl m9_55 m9_56 m9_20 m9_57 rfl kd_X4_init ⟨Nat.le_of_ble_eq_true rfl, Nat.le_of_ble_eq_true rfl⟩ ⟨Nat.le_add_right _ _, c23⟩ (Nat.le_of_ble_eq_true rfl) dX5_init_42 ?_
  refine GZ.byq eq21 ?_
  refine GZ.putF (ci := 4) (k := 3) C rfl inlX5 (by decide) m9_21 rfl tyX5 tyX5_ok nmX5 rfl hin rfl rfl rfl hf dX5_init_45 (fun h24 hh24 hf => ?_)
  try dsimp only at hf
  refine GZ.aload_n C 0 dX5_init_48 rfl rfl ?_
  obtain ⟨q25, hq25, hf⟩ := bind_some hf
  try dsimp only at hf
  obtain ⟨c26, eq25⟩ := nwC_at hq25
  refine GZ.newO (ci := 1) C ⟨by rw [hz0], rfl⟩ rfl inlX2 tyX2 tyX2_ok m9_22 m9_23 m9_24 [.null, .null, .int 0, .int 0] (by decide +kernel) c26 dX5_init_49 ?_
  refine GZ.byq eq25 ?_
  refine GZ.dup C dX5_init_52 rfl ?_
  obtain ⟨q27, hq27, hf⟩ := bind_some hf
  try dsimp only at hf
  obtain ⟨h28, hh28, c29, eq27⟩ := clC_at hq27
  refine GZ.callI C ao0 ao1 ⟨by rw [hz0], rfl⟩ (cz_X2_init hh28) rfl m9_61 m9_40 m9_24 m9_41 rfl kd_X2_init ⟨Nat.le_of_ble_eq_true rfl, Nat.le_of_ble_eq_true rfl⟩ ⟨Nat.le_add_right _ _, c29⟩ (Nat.le_of_ble_eq_true rfl) dX5_init_53 ?_
  refine GZ.byq eq27 ?_
  refine GZ.putF (ci := 4) (k := 4) C rfl inlX5 (by decide) m9_25 rfl tyX5 tyX5_ok nmX5 rfl hin rfl rfl rfl hf dX5_init_56 (fun h30 hh30 hf => ?_)
  try dsimp only at hf
  refine GZ.aload_n C 0 dX5_init_59 rfl rfl ?_
  refine GZ.iconst (v := 0) C dX5_init_60 (by decide) ?_
  refine GZ.put (ci := 4) (k := 5) C rfl inlX5 (by decide) m9_26 rfl tyX5 tyX5_ok nmX5 rfl rfl rfl hf dX5_init_61 (fun h31 hh31 hf => ?_)
  try dsimp only at hf
  obtain ⟨c32, hf⟩ := gd_ok hf
  cases hf
  exact GZ.vret C hz0 c32 dX5_init_64
