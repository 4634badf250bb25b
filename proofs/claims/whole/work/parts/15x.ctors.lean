theorem m9_46 : Cond.methodLink RX2 3 objectInit ∈ wsL_law := wc_2 _ (List.mem_of_getElem? (i := 22) rfl)
theorem m9_11 : Cond.instanceMethod objectInit ∈ wsL_law := wc_1 _ (List.mem_of_getElem? (i := 11) rfl)
theorem m9_12 : Cond.code objectInit ⟨#[0xb1]⟩ 1 none ∈ wsL_law := wc_1 _ (List.mem_of_getElem? (i := 12) rfl)
theorem m9_35 : Cond.arrayClass .int ∈ wsL_law := wc_2 _ (List.mem_of_getElem? (i := 11) rfl)
theorem m9_62 : Cond.methodLink RX4 3 objectInit ∈ wsL_law := wc_3 _ (List.mem_of_getElem? (i := 14) rfl)
theorem m9_37 : Cond.classLink RX3 15 RX2 ∈ wsL_law := wc_2 _ (List.mem_of_getElem? (i := 13) rfl)
theorem m9_27 : Cond.instantiable RX2 4 ∈ wsL_law := wc_2 _ (List.mem_of_getElem? (i := 3) rfl)
theorem m9_43 : Cond.methodLink RX3 21 yX2_init ∈ wsL_law := wc_2 _ (List.mem_of_getElem? (i := 19) rfl)
theorem m9_44 : Cond.instanceMethod yX2_init ∈ wsL_law := wc_2 _ (List.mem_of_getElem? (i := 20) rfl)
theorem m9_45 : Cond.code yX2_init cX2_init 1 none ∈ wsL_law := wc_2 _ (List.mem_of_getElem? (i := 21) rfl)
theorem m9_34 : Cond.methodLink RX3 3 objectInit ∈ wsL_law := wc_2 _ (List.mem_of_getElem? (i := 10) rfl)
theorem m9_54 : Cond.methodLink RX0 3 objectInit ∈ wsL_law := wc_3 _ (List.mem_of_getElem? (i := 6) rfl)
theorem m9_55 : Cond.classLink RX0 9 RX3 ∈ wsL_law := wc_3 _ (List.mem_of_getElem? (i := 7) rfl)
theorem m9_14 : Cond.instantiable RX3 6 ∈ wsL_law := wc_1 _ (List.mem_of_getElem? (i := 14) rfl)
theorem m9_58 : Cond.methodLink RX0 17 yX3_init ∈ wsL_law := wc_3 _ (List.mem_of_getElem? (i := 10) rfl)
theorem m9_32 : Cond.instanceMethod yX3_init ∈ wsL_law := wc_2 _ (List.mem_of_getElem? (i := 8) rfl)
theorem m9_33 : Cond.code yX3_init cX3_init 2 none ∈ wsL_law := wc_2 _ (List.mem_of_getElem? (i := 9) rfl)
theorem m9_10 : Cond.methodLink RX5 1 objectInit ∈ wsL_law := wc_1 _ (List.mem_of_getElem? (i := 10) rfl)
theorem m9_13 : Cond.classLink RX5 7 RX3 ∈ wsL_law := wc_1 _ (List.mem_of_getElem? (i := 13) rfl)
theorem m9_31 : Cond.methodLink RX5 9 yX3_init ∈ wsL_law := wc_2 _ (List.mem_of_getElem? (i := 7) rfl)
theorem m9_18 : Cond.classLink RX5 19 RX0 ∈ wsL_law := wc_1 _ (List.mem_of_getElem? (i := 18) rfl)
theorem m9_19 : Cond.instantiable RX0 2 ∈ wsL_law := wc_1 _ (List.mem_of_getElem? (i := 19) rfl)
theorem m9_51 : Cond.methodLink RX5 21 yX0_init ∈ wsL_law := wc_3 _ (List.mem_of_getElem? (i := 3) rfl)
theorem m9_52 : Cond.instanceMethod yX0_init ∈ wsL_law := wc_3 _ (List.mem_of_getElem? (i := 4) rfl)
theorem m9_53 : Cond.code yX0_init cX0_init 2 none ∈ wsL_law := wc_3 _ (List.mem_of_getElem? (i := 5) rfl)
theorem m9_22 : Cond.classLink RX5 26 RX4 ∈ wsL_law := wc_1 _ (List.mem_of_getElem? (i := 22) rfl)
theorem m9_23 : Cond.instantiable RX4 2 ∈ wsL_law := wc_1 _ (List.mem_of_getElem? (i := 23) rfl)
theorem m9_59 : Cond.methodLink RX5 28 yX4_init ∈ wsL_law := wc_3 _ (List.mem_of_getElem? (i := 11) rfl)
theorem m9_60 : Cond.instanceMethod yX4_init ∈ wsL_law := wc_3 _ (List.mem_of_getElem? (i := 12) rfl)
theorem m9_61 : Cond.code yX4_init cX4_init 1 none ∈ wsL_law := wc_3 _ (List.mem_of_getElem? (i := 13) rfl)
theorem m9_26 : Cond.classLink RX5 33 RX2 ∈ wsL_law := wc_2 _ (List.mem_of_getElem? (i := 2) rfl)
theorem m9_65 : Cond.methodLink RX5 35 yX2_init ∈ wsL_law := wc_3 _ (List.mem_of_getElem? (i := 17) rfl)
theorem m9_69 : Cond.methodLink RX6 1 objectInit ∈ wsL_law := wc_3 _ (List.mem_of_getElem? (i := 21) rfl)
def f_X2_init (h : PH) (z zm sm : Nat) (a0 : Nat) : Option (PH × Nat) :=
  ((nwC (h, z, 0) zm sm 60 (.inl (60, fun _ => 0))).bind fun q1 => ((wrF (q1).1 a0 1 0 (.ref (((h, z, 0)).2.1))).bind fun h3 => ((nwC (h3, (q1).2) zm sm 8 (.inl (8, fun _ => 0))).bind fun q4 => ((wrF (q4).1 a0 1 1 (.ref (((h3, (q1).2)).2.1))).bind fun h6 => ((wrF ((h6, (q4).2)).1 a0 1 2 (.int ((0 : Int32)))).bind fun h7 => ((wrF ((h7, ((h6, (q4).2)).2)).1 a0 1 3 (.int ((0 : Int32)))).bind fun h8 => (if ((h8, ((h7, ((h6, (q4).2)).2)).2)).2.1 ≤ zm ∧ ((h8, ((h7, ((h6, (q4).2)).2)).2)).2.2 ≤ sm then some (((h8, ((h7, ((h6, (q4).2)).2)).2)).1, ((h8, ((h7, ((h6, (q4).2)).2)).2)).2.1) else none)))))))
def f_X4_init (h : PH) (z zm sm : Nat) (a0 : Nat) : Option (PH × Nat) :=
  ((nwC (h, z, 0) zm sm 60 (.inl (60, fun _ => 0))).bind fun q1 => ((wrF (q1).1 a0 3 0 (.ref (((h, z, 0)).2.1))).bind fun h3 => ((wrF ((h3, (q1).2)).1 a0 3 1 (.int ((0 : Int32)))).bind fun h4 => (if ((h4, ((h3, (q1).2)).2)).2.1 ≤ zm ∧ ((h4, ((h3, (q1).2)).2)).2.2 ≤ sm then some (((h4, ((h3, (q1).2)).2)).1, ((h4, ((h3, (q1).2)).2)).2.1) else none))))
def f_X3_init_J76 (zm sm : Nat) (hh : (PH × Nat × Nat)) (x0 : Nat)  : Option (PH × Nat) :=
  ((wrF (hh).1 x0 2 2 (.int ((0 : Int32)))).bind fun h1 => ((wrF ((h1, (hh).2)).1 x0 2 3 (.int ((0 : Int32)))).bind fun h2 => ((wrF ((h2, ((h1, (hh).2)).2)).1 x0 2 4 (.int ((0 : Int32)))).bind fun h3 => ((wrF ((h3, ((h2, ((h1, (hh).2)).2)).2)).1 x0 2 5 (.int ((0 : Int32)))).bind fun h4 => (if ((h4, ((h3, ((h2, ((h1, (hh).2)).2)).2)).2)).2.1 ≤ zm ∧ ((h4, ((h3, ((h2, ((h1, (hh).2)).2)).2)).2)).2.2 ≤ sm then some (((h4, ((h3, ((h2, ((h1, (hh).2)).2)).2)).2)).1, ((h4, ((h3, ((h2, ((h1, (hh).2)).2)).2)).2)).2.1) else none)))))
def f_X3_init_L48 (zm sm : Nat) (x0 : Nat) : Int32 × (PH × Nat × Nat) → Option ((Int32 × (PH × Nat × Nat)) ⊕ ((PH × Nat × Nat))) := fun z48 =>
  ((rdR ((z48.2)).1 x0 2 1).bind fun v10 => ((lnA ((z48.2)).1 v10).bind fun v11 => (if v11 ≤ (z48.1) then some (.inr (((z48.2)))) else ((rdR ((z48.2)).1 x0 2 1).bind fun v12 => ((nwC (z48.2) zm sm 4 (.inr (.inr (1, [.null, .null, .int 0, .int 0])))).bind fun q13 => ((clC q13 zm sm 2 68 (f_X2_init (q13).1 (q13).2.1 ((q13).2.1 + 2) 68 ((z48.2)).2.1)).bind fun q15 => ((stQ (q15).1 v12 (z48.1) ((z48.2)).2.1).bind fun h18 => some (.inl (((z48.1) + 1), (h18, (q15).2))))))))))
def f_X3_init_J38 (zm sm : Nat) (hh : (PH × Nat × Nat)) (x0 : Nat)  : Option (PH × Nat) :=
  ((nwC hh zm sm 4 (.inr (.inl (0, 4, fun _ => none)))).bind fun q6 => ((wrF (q6).1 x0 2 1 (.ref ((hh).2.1))).bind fun h8 => ((lpn (f_X3_init_L48 zm sm (x0)) LF ((0 : Int32), (h8, (q6).2))).bind (fun w48 => (f_X3_init_J76 zm sm w48 (x0))))))
def f_X3_init_L14 (zm sm : Nat) (x0 : Nat) : Int32 × (PH × Nat × Nat) → Option ((Int32 × (PH × Nat × Nat)) ⊕ ((PH × Nat × Nat))) := fun z14 =>
  ((rdR ((z14.2)).1 x0 2 0).bind fun v23 => ((lnA ((z14.2)).1 v23).bind fun v24 => (if v24 ≤ (z14.1) then some (.inr (((z14.2)))) else ((rdR ((z14.2)).1 x0 2 0).bind fun v25 => ((stI ((z14.2)).1 v25 (z14.1) ((2 : Int32) + (z14.1))).bind fun h26 => some (.inl (((z14.1) + 1), (h26, ((z14.2)).2))))))))
def f_X3_init (h : PH) (z zm sm : Nat) (a0 : Nat) : Option (PH × Nat) :=
  ((nwC (h, z, 0) zm sm 8 (.inl (8, fun _ => 0))).bind fun q19 => ((wrF (q19).1 a0 2 0 (.ref (((h, z, 0)).2.1))).bind fun h21 => ((lpn (f_X3_init_L14 zm sm (a0)) LF ((0 : Int32), (h21, (q19).2))).bind (fun w14 => (f_X3_init_J38 zm sm w14 (a0))))))
def f_X0_init_J43 (zm sm : Nat) (hh : (PH × Nat × Nat)) (x0 : Nat)  : Option (PH × Nat) :=
  ((wrF (hh).1 x0 0 1 (.int ((0 : Int32)))).bind fun h1 => (if ((h1, (hh).2)).2.1 ≤ zm ∧ ((h1, (hh).2)).2.2 ≤ sm then some (((h1, (hh).2)).1, ((h1, (hh).2)).2.1) else none))
def f_X0_init_L15 (zm sm : Nat) (x0 : Nat) : Int32 × (PH × Nat × Nat) → Option ((Int32 × (PH × Nat × Nat)) ⊕ ((PH × Nat × Nat))) := fun z15 =>
  ((rdR ((z15.2)).1 x0 0 0).bind fun v7 => ((lnA ((z15.2)).1 v7).bind fun v8 => (if v8 ≤ (z15.1) then some (.inr (((z15.2)))) else ((rdR ((z15.2)).1 x0 0 0).bind fun v9 => ((nwC (z15.2) zm sm 6 (.inr (.inr (2, [.null, .null, .int 0, .int 0, .int 0, .int 0])))).bind fun q10 => ((clC q10 zm sm 14 300 (f_X3_init (q10).1 (q10).2.1 ((q10).2.1 + 14) 300 ((z15.2)).2.1)).bind fun q12 => ((stQ (q12).1 v9 (z15.1) ((z15.2)).2.1).bind fun h15 => some (.inl (((z15.1) + 1), (h15, (q12).2))))))))))
def f_X0_init (h : PH) (z zm sm : Nat) (a0 : Nat) : Option (PH × Nat) :=
  ((nwC (h, z, 0) zm sm 6 (.inr (.inl (1, 6, fun _ => none)))).bind fun q3 => ((wrF (q3).1 a0 0 0 (.ref (((h, z, 0)).2.1))).bind fun h5 => ((lpn (f_X0_init_L15 zm sm (a0)) LF ((0 : Int32), (h5, (q3).2))).bind (fun w15 => (f_X0_init_J43 zm sm w15 (a0))))))
def f_X5_init (h : PH) (z zm sm : Nat) (a0 : Nat) : Option (PH × Nat) :=
  ((nwC (h, z, 0) zm sm 6 (.inr (.inr (2, [.null, .null, .int 0, .int 0, .int 0, .int 0])))).bind fun q1 => ((clC q1 zm sm 14 300 (f_X3_init (q1).1 (q1).2.1 ((q1).2.1 + 14) 300 ((h, z, 0)).2.1)).bind fun q3 => ((wrF (q3).1 a0 4 0 (.ref (((h, z, 0)).2.1))).bind fun h6 => ((nwC (h6, (q3).2) zm sm 6 (.inr (.inr (2, [.null, .null, .int 0, .int 0, .int 0, .int 0])))).bind fun q7 => ((clC q7 zm sm 14 300 (f_X3_init (q7).1 (q7).2.1 ((q7).2.1 + 14) 300 ((h6, (q3).2)).2.1)).bind fun q9 => ((wrF (q9).1 a0 4 1 (.ref (((h6, (q3).2)).2.1))).bind fun h12 => ((nwC (h12, (q9).2) zm sm 2 (.inr (.inr (0, [.null, .int 0])))).bind fun q13 => ((clC q13 zm sm 91 1842 (f_X0_init (q13).1 (q13).2.1 ((q13).2.1 + 91) 1842 ((h12, (q9).2)).2.1)).bind fun q15 => ((wrF (q15).1 a0 4 2 (.ref (((h12, (q9).2)).2.1))).bind fun h18 => ((nwC (h18, (q15).2) zm sm 2 (.inr (.inr (3, [.null, .int 0])))).bind fun q19 => ((clC q19 zm sm 1 60 (f_X4_init (q19).1 (q19).2.1 ((q19).2.1 + 1) 60 ((h18, (q15).2)).2.1)).bind fun q21 => ((wrF (q21).1 a0 4 3 (.ref (((h18, (q15).2)).2.1))).bind fun h24 => ((nwC (h24, (q21).2) zm sm 4 (.inr (.inr (1, [.null, .null, .int 0, .int 0])))).bind fun q25 => ((clC q25 zm sm 2 68 (f_X2_init (q25).1 (q25).2.1 ((q25).2.1 + 2) 68 ((h24, (q21).2)).2.1)).bind fun q27 => ((wrF (q27).1 a0 4 4 (.ref (((h24, (q21).2)).2.1))).bind fun h30 => ((wrF ((h30, (q27).2)).1 a0 4 5 (.int ((0 : Int32)))).bind fun h31 => (if ((h31, ((h30, (q27).2)).2)).2.1 ≤ zm ∧ ((h31, ((h30, (q27).2)).2)).2.2 ≤ sm then some (((h31, ((h30, (q27).2)).2)).1, ((h31, ((h30, (q27).2)).2)).2.1) else none)))))))))))))))))
def f_X6_init_J78 (zm sm : Nat) (hh : (PH × Nat × Nat))   : Option (PH × Nat) :=
  (if (hh).2.1 ≤ zm ∧ (hh).2.2 ≤ sm then some ((hh).1, (hh).2.1) else none)
def f_X6_init_L55 (zm sm : Nat) (x0 : Nat) : Int32 × (PH × Nat × Nat) → Option ((Int32 × (PH × Nat × Nat)) ⊕ ((PH × Nat × Nat))) := fun z55 =>
  (if (8 : Int32) ≤ (z55.1) then some (.inr (((z55.2)))) else ((rdR ((z55.2)).1 x0 5 1).bind fun v21 => ((stI ((z55.2)).1 v21 ((0 : Int32) + (z55.1)) ((2 : Int32) + (z55.1))).bind fun h22 => some (.inl (((z55.1) + 1), (h22, ((z55.2)).2))))))
def f_X6_init (h : PH) (z zm sm : Nat) (a0 : Nat) : Option (PH × Nat) :=
  ((nwC (h, z, 0) zm sm 84 (.inl (84, fun _ => 0))).bind fun q2 => ((wrF (q2).1 a0 5 1 (.ref (((h, z, 0)).2.1))).bind fun h4 => ((nwC (h4, (q2).2) zm sm 84 (.inl (84, fun _ => 0))).bind fun q5 => ((wrF (q5).1 a0 5 2 (.ref (((h4, (q2).2)).2.1))).bind fun h7 => ((nwC (h7, (q5).2) zm sm 84 (.inl (84, fun _ => 0))).bind fun q8 => ((wrF (q8).1 a0 5 3 (.ref (((h7, (q5).2)).2.1))).bind fun h10 => ((nwC (h10, (q8).2) zm sm 504 (.inl (504, fun _ => 0))).bind fun q11 => ((wrF (q11).1 a0 5 5 (.ref (((h10, (q8).2)).2.1))).bind fun h13 => ((nwC (h13, (q11).2) zm sm 60 (.inl (60, fun _ => 0))).bind fun q14 => ((wrF (q14).1 a0 5 7 (.ref (((h13, (q11).2)).2.1))).bind fun h16 => ((nwC (h16, (q14).2) zm sm 18 (.inl (18, fun _ => 0))).bind fun q17 => ((wrF (q17).1 a0 5 9 (.ref (((h16, (q14).2)).2.1))).bind fun h19 => ((lpn (f_X6_init_L55 zm sm (a0)) LF ((0 : Int32), (h19, (q17).2))).bind (fun w55 => (f_X6_init_J78 zm sm w55 )))))))))))))))
theorem kd_X2_init : yX2_init.cls ≠ "java/lang/invoke/MethodHandle" ∧ yX2_init.cls ≠ "java/lang/invoke/VarHandle" ∧ (parseMethodDescriptor yX2_init.desc).map (fun d => d.parameters.length) = some 0 := by decide +kernel
set_option maxRecDepth 20000 in
set_option maxHeartbeats 4000000 in
theorem cz_X2_init {l : Launch} {h : PH} {z zm sm a0 : Nat} {r : PH × Nat} (hf : f_X2_init h z zm sm a0 = some r) : CZ l yX2_init cX2_init 1 1 20 [.ref a0] h z zm sm r.1 r.2 := by
  refine CZ.of (own := RX2) rfl (by decide) (Nat.le_of_ble_eq_true rfl) ?_
  intro p e R s m args below meth c g X hR hz0 hin ao0 ao1 C
  subst hR
  unfold f_X2_init at hf
  refine GZ.sub C [0] (lv' := [(0, .ref (a0))]) rfl ?_
  show GZ p l e ({ frames := 1, cells := zm - z, slots := sm, locals := 20 } : Room) s m args below meth c 1 g X h zm sm (MQ below (QZ g X h z r.1 r.2) args s (zm - z) sm (AF X h z)) ((h, z, 0)).2.1 ((h, z, 0)).2.2 0 [(0, .ref (a0))] [] ((h, z, 0)).1
  refine GZ.aload_n C 0 dX2_init_0 rfl rfl ?_
  refine GZ.objInit C m9_46 m9_11 m9_12 (Nat.le_of_ble_eq_true rfl) (Nat.le_of_ble_eq_true rfl) dX2_init_1 ?_
  refine GZ.aload_n C 0 dX2_init_4 rfl rfl ?_
  refine GZ.bipush (v := 60) C dX2_init_5 (by decide) ?_
  obtain ⟨q1, hq1, hf⟩ := bind_some hf
  try dsimp only at hf
  obtain ⟨c2, eq1⟩ := nwC_at hq1
  refine GZ.newI C ⟨by rw [hz0], rfl⟩ 60 m9_35 (by decide) (by decide) (by decide) c2 dX2_init_7 ?_
  refine GZ.byq eq1 ?_
  refine GZ.putF (ci := 1) (k := 0) C rfl inlX2 (by decide) m9_47 rfl tyX2 tyX2_ok nmX2 rfl hin rfl rfl rfl hf dX2_init_9 (fun h3 hh3 hf => ?_)
  try dsimp only at hf
  refine GZ.aload_n C 0 dX2_init_12 rfl rfl ?_
  refine GZ.bipush (v := 8) C dX2_init_13 (by decide) ?_
  obtain ⟨q4, hq4, hf⟩ := bind_some hf
  try dsimp only at hf
  obtain ⟨c5, eq4⟩ := nwC_at hq4
  refine GZ.newI C ⟨by rw [hz0], rfl⟩ 8 m9_35 (by decide) (by decide) (by decide) c5 dX2_init_15 ?_
  refine GZ.byq eq4 ?_
  refine GZ.putF (ci := 1) (k := 1) C rfl inlX2 (by decide) m9_48 rfl tyX2 tyX2_ok nmX2 rfl hin rfl rfl rfl hf dX2_init_17 (fun h6 hh6 hf => ?_)
  try dsimp only at hf
  refine GZ.aload_n C 0 dX2_init_20 rfl rfl ?_
  refine GZ.iconst (v := 0) C dX2_init_21 (by decide) ?_
  refine GZ.put (ci := 1) (k := 2) C rfl inlX2 (by decide) m9_49 rfl tyX2 tyX2_ok nmX2 rfl rfl rfl hf dX2_init_22 (fun h7 hh7 hf => ?_)
  try dsimp only at hf
  refine GZ.aload_n C 0 dX2_init_25 rfl rfl ?_
  refine GZ.iconst (v := 0) C dX2_init_26 (by decide) ?_
  refine GZ.put (ci := 1) (k := 3) C rfl inlX2 (by decide) m9_50 rfl tyX2 tyX2_ok nmX2 rfl rfl rfl hf dX2_init_27 (fun h8 hh8 hf => ?_)
  try dsimp only at hf
  obtain ⟨c9, hf⟩ := gd_ok hf
  cases hf
  exact GZ.vret C hz0 c9 dX2_init_30
theorem kd_X4_init : yX4_init.cls ≠ "java/lang/invoke/MethodHandle" ∧ yX4_init.cls ≠ "java/lang/invoke/VarHandle" ∧ (parseMethodDescriptor yX4_init.desc).map (fun d => d.parameters.length) = some 0 := by decide +kernel
set_option maxRecDepth 20000 in
set_option maxHeartbeats 4000000 in
theorem cz_X4_init {l : Launch} {h : PH} {z zm sm a0 : Nat} {r : PH × Nat} (hf : f_X4_init h z zm sm a0 = some r) : CZ l yX4_init cX4_init 1 1 20 [.ref a0] h z zm sm r.1 r.2 := by
  refine CZ.of (own := RX4) rfl (by decide) (Nat.le_of_ble_eq_true rfl) ?_
  intro p e R s m args below meth c g X hR hz0 hin ao0 ao1 C
  subst hR
  unfold f_X4_init at hf
  refine GZ.sub C [0] (lv' := [(0, .ref (a0))]) rfl ?_
  show GZ p l e ({ frames := 1, cells := zm - z, slots := sm, locals := 20 } : Room) s m args below meth c 1 g X h zm sm (MQ below (QZ g X h z r.1 r.2) args s (zm - z) sm (AF X h z)) ((h, z, 0)).2.1 ((h, z, 0)).2.2 0 [(0, .ref (a0))] [] ((h, z, 0)).1
  refine GZ.aload_n C 0 dX4_init_0 rfl rfl ?_
  refine GZ.objInit C m9_62 m9_11 m9_12 (Nat.le_of_ble_eq_true rfl) (Nat.le_of_ble_eq_true rfl) dX4_init_1 ?_
  refine GZ.aload_n C 0 dX4_init_4 rfl rfl ?_
  refine GZ.bipush (v := 60) C dX4_init_5 (by decide) ?_
  obtain ⟨q1, hq1, hf⟩ := bind_some hf
  try dsimp only at hf
  obtain ⟨c2, eq1⟩ := nwC_at hq1
  refine GZ.newI C ⟨by rw [hz0], rfl⟩ 60 m9_35 (by decide) (by decide) (by decide) c2 dX4_init_7 ?_
  refine GZ.byq eq1 ?_
  refine GZ.putF (ci := 3) (k := 0) C rfl inlX4 (by decide) m9_63 rfl tyX4 tyX4_ok nmX4 rfl hin rfl rfl rfl hf dX4_init_9 (fun h3 hh3 hf => ?_)
  try dsimp only at hf
  refine GZ.aload_n C 0 dX4_init_12 rfl rfl ?_
  refine GZ.iconst (v := 0) C dX4_init_13 (by decide) ?_
  refine GZ.put (ci := 3) (k := 1) C rfl inlX4 (by decide) m9_64 rfl tyX4 tyX4_ok nmX4 rfl rfl rfl hf dX4_init_14 (fun h4 hh4 hf => ?_)
  try dsimp only at hf
  obtain ⟨c5, hf⟩ := gd_ok hf
  cases hf
  exact GZ.vret C hz0 c5 dX4_init_17
theorem kd_X3_init : yX3_init.cls ≠ "java/lang/invoke/MethodHandle" ∧ yX3_init.cls ≠ "java/lang/invoke/VarHandle" ∧ (parseMethodDescriptor yX3_init.desc).map (fun d => d.parameters.length) = some 0 := by decide +kernel
set_option maxRecDepth 20000 in
set_option maxHeartbeats 4000000 in
theorem cz_X3_init {l : Launch} {h : PH} {z zm sm a0 : Nat} {r : PH × Nat} (hf : f_X3_init h z zm sm a0 = some r) : CZ l yX3_init cX3_init 2 2 40 [.ref a0] h z zm sm r.1 r.2 := by
  refine CZ.of (own := RX3) rfl (by decide) (Nat.le_of_ble_eq_true rfl) ?_
  intro p e R s m args below meth c g X hR hz0 hin ao0 ao1 C
  subst hR
  unfold f_X3_init at hf
  have hj76 : ∀ (hh : (PH × Nat × Nat)) (x0 : Nat), f_X3_init_J76 zm sm hh (x0) = some r → GZ p l e ({ frames := 2, cells := zm - z, slots := sm, locals := 40 } : Room) s m args below meth c 2 g X h zm sm (MQ below (QZ g X h z r.1 r.2) args s (zm - z) sm (AF X h z)) (hh).2.1 (hh).2.2 76 [(0, .ref (x0))] [] (hh).1 := by
    intro hh x0 hf
    unfold f_X3_init_J76 at hf
    refine GZ.aload_n C 0 dX3_init_76 rfl rfl ?_
    refine GZ.iconst (v := 0) C dX3_init_77 (by decide) ?_
    refine GZ.put (ci := 2) (k := 2) C rfl inlX3 (by decide) m9_39 rfl tyX3 tyX3_ok nmX3 rfl rfl rfl hf dX3_init_78 (fun h27 hh27 hf => ?_)
    try dsimp only at hf
    refine GZ.aload_n C 0 dX3_init_81 rfl rfl ?_
    refine GZ.iconst (v := 0) C dX3_init_82 (by decide) ?_
    refine GZ.put (ci := 2) (k := 3) C rfl inlX3 (by decide) m9_40 rfl tyX3 tyX3_ok nmX3 rfl rfl rfl hf dX3_init_83 (fun h28 hh28 hf => ?_)
    try dsimp only at hf
    refine GZ.aload_n C 0 dX3_init_86 rfl rfl ?_
    refine GZ.iconst (v := 0) C dX3_init_87 (by decide) ?_
    refine GZ.put (ci := 2) (k := 4) C rfl inlX3 (by decide) m9_41 rfl tyX3 tyX3_ok nmX3 rfl rfl rfl hf dX3_init_88 (fun h29 hh29 hf => ?_)
    try dsimp only at hf
    refine GZ.aload_n C 0 dX3_init_91 rfl rfl ?_
    refine GZ.iconst (v := 0) C dX3_init_92 (by decide) ?_
    refine GZ.put (ci := 2) (k := 5) C rfl inlX3 (by decide) m9_42 rfl tyX3 tyX3_ok nmX3 rfl rfl rfl hf dX3_init_93 (fun h30 hh30 hf => ?_)
    try dsimp only at hf
    obtain ⟨c31, hf⟩ := gd_ok hf
    cases hf
    exact GZ.vret C hz0 c31 dX3_init_96
  have hj38 : ∀ (hh : (PH × Nat × Nat)) (x0 : Nat), f_X3_init_J38 zm sm hh (x0) = some r → GZ p l e ({ frames := 2, cells := zm - z, slots := sm, locals := 40 } : Room) s m args below meth c 2 g X h zm sm (MQ below (QZ g X h z r.1 r.2) args s (zm - z) sm (AF X h z)) (hh).2.1 (hh).2.2 38 [(0, .ref (x0))] [] (hh).1 := by
    intro hh x0 hf
    unfold f_X3_init_J38 at hf
    refine GZ.aload_n C 0 dX3_init_38 rfl rfl ?_
    refine GZ.iconst (v := 4) C dX3_init_39 (by decide) ?_
    obtain ⟨q32, hq32, hf⟩ := bind_some hf
    try dsimp only at hf
    obtain ⟨c33, eq32⟩ := nwC_at hq32
    refine GZ.newQR C ⟨by rw [hz0], rfl⟩ 4 m9_37 ao0 (by decide) (by decide) (by decide) c33 dX3_init_40 ?_
    refine GZ.byq eq32 ?_
    refine GZ.putF (ci := 2) (k := 1) C rfl inlX3 (by decide) m9_38 rfl tyX3 tyX3_ok nmX3 rfl hin rfl rfl rfl hf dX3_init_43 (fun h34 hh34 hf => ?_)
    try dsimp only at hf
    refine GZ.iconst (v := 0) C dX3_init_46 (by decide) ?_
    refine GZ.istore_n (lv' := [(1, .int ((0 : Int32))), (0, .ref (x0))]) C dX3_init_47 rfl (by decide) rfl ?_
    obtain ⟨z35, hlp35, hfo35⟩ := bind_some hf
    clear hf
    have hloop35 : ∀ (k : Nat), ∀ (x1 : Int32) (hh : (PH × Nat × Nat)), (lpn (f_X3_init_L48 zm sm (x0)) k (x1, hh)) = some z35 → GZ p l e ({ frames := 2, cells := zm - z, slots := sm, locals := 40 } : Room) s m args below meth c 2 g X h zm sm (MQ below (QZ g X h z r.1 r.2) args s (zm - z) sm (AF X h z)) (hh).2.1 (hh).2.2 48 [(0, .ref (x0)), (1, .int (x1))] [] (hh).1 := by
      intro k
      induction k with
      | zero => intro x1 hh hlp35; exact (lpn_0 hlp35).elim
      | succ k ih35 =>
        intro x1 hh hlp35
        obtain ⟨y35, hf, hlp35⟩ := lpn_s hlp35
        unfold f_X3_init_L48 at hf
        try dsimp only at hf
        refine GZ.iload_n C 1 dX3_init_48 rfl rfl ?_
        refine GZ.aload_n C 0 dX3_init_49 rfl rfl ?_
        refine GZ.getR (ci := 2) (k := 1) C rfl inlX3 (by decide) m9_38 rfl hf dX3_init_50 (fun v36 hv36 hf => ?_)
        try dsimp only at hf
        refine GZ.alen C hf dX3_init_53 (fun v37 hv37 hf => ?_)
        try dsimp only at hf
        refine GZ.icmp_ge (tgt := 76) C dX3_init_54 (by decide) hf (fun c45 hf => ?_) (fun c45 hf => ?_)
        · cases hf
          change some _ = some _ at hlp35
          have hf := hfo35
          try rw [← Option.some.inj hlp35] at hf
          try dsimp only at hf
          refine GZ.sub C [0] (lv' := [(0, .ref (x0))]) rfl ?_
          exact hj76 _ _ hf
        · refine GZ.aload_n C 0 dX3_init_57 rfl rfl ?_
          refine GZ.getR (ci := 2) (k := 1) C rfl inlX3 (by decide) m9_38 rfl hf dX3_init_58 (fun v38 hv38 hf => ?_)
          try dsimp only at hf
          refine GZ.iload_n C 1 dX3_init_61 rfl rfl ?_
          obtain ⟨q39, hq39, hf⟩ := bind_some hf
          try dsimp only at hf
          obtain ⟨c40, eq39⟩ := nwC_at hq39
          refine GZ.newO (ci := 1) C ⟨by rw [hz0], rfl⟩ rfl inlX2 tyX2 tyX2_ok m9_37 m9_27 m9_28 [.null, .null, .int 0, .int 0] (by decide +kernel) c40 dX3_init_62 ?_
          refine GZ.byq eq39 ?_
          refine GZ.dup C dX3_init_65 rfl ?_
          obtain ⟨q41, hq41, hf⟩ := bind_some hf
          try dsimp only at hf
          obtain ⟨h42, hh42, c43, eq41⟩ := clC_at hq41
          refine GZ.callI C ao0 ao1 ⟨by rw [hz0], rfl⟩ (cz_X2_init hh42) rfl m9_43 m9_44 m9_28 m9_45 rfl kd_X2_init ⟨Nat.le_of_ble_eq_true rfl, Nat.le_of_ble_eq_true rfl⟩ ⟨Nat.le_add_right _ _, c43⟩ (Nat.le_of_ble_eq_true rfl) dX3_init_66 ?_
          refine GZ.byq eq41 ?_
          refine GZ.aast C hf dX3_init_69 (fun h44 hh44 hf => ?_)
          try dsimp only at hf
          refine GZ.iinc (k := 1) (v := (x1 + 1)) (lv' := [(1, .int ((x1 + 1))), (0, .ref (x0))]) C dX3_init_70 rfl rfl (by decide) rfl ?_
          refine GZ.goto (tgt := 48) C dX3_init_73 (by decide) ?_
          cases hf
          refine GZ.sub C [1, 0] (lv' := [(0, .ref (x0)), (1, .int ((x1 + 1)))]) rfl ?_
          exact ih35 _ _ hlp35
    refine GZ.sub C [1, 0] (lv' := [(0, .ref (x0)), (1, .int ((0 : Int32)))]) rfl ?_
    exact hloop35 LF _ _ hlp35
  refine GZ.sub C [0] (lv' := [(0, .ref (a0))]) rfl ?_
  show GZ p l e ({ frames := 2, cells := zm - z, slots := sm, locals := 40 } : Room) s m args below meth c 2 g X h zm sm (MQ below (QZ g X h z r.1 r.2) args s (zm - z) sm (AF X h z)) ((h, z, 0)).2.1 ((h, z, 0)).2.2 0 [(0, .ref (a0))] [] ((h, z, 0)).1
  refine GZ.aload_n C 0 dX3_init_0 rfl rfl ?_
  refine GZ.objInit C m9_34 m9_11 m9_12 (Nat.le_of_ble_eq_true rfl) (Nat.le_of_ble_eq_true rfl) dX3_init_1 ?_
  refine GZ.aload_n C 0 dX3_init_4 rfl rfl ?_
  refine GZ.bipush (v := 8) C dX3_init_5 (by decide) ?_
  obtain ⟨q1, hq1, hf⟩ := bind_some hf
  try dsimp only at hf
  obtain ⟨c2, eq1⟩ := nwC_at hq1
  refine GZ.newI C ⟨by rw [hz0], rfl⟩ 8 m9_35 (by decide) (by decide) (by decide) c2 dX3_init_7 ?_
  refine GZ.byq eq1 ?_
  refine GZ.putF (ci := 2) (k := 0) C rfl inlX3 (by decide) m9_36 rfl tyX3 tyX3_ok nmX3 rfl hin rfl rfl rfl hf dX3_init_9 (fun h3 hh3 hf => ?_)
  try dsimp only at hf
  refine GZ.iconst (v := 0) C dX3_init_12 (by decide) ?_
  refine GZ.istore_n (lv' := [(1, .int ((0 : Int32))), (0, .ref (a0))]) C dX3_init_13 rfl (by decide) rfl ?_
  obtain ⟨z4, hlp4, hfo4⟩ := bind_some hf
  clear hf
  have hloop4 : ∀ (k : Nat), ∀ (x1 : Int32) (hh : (PH × Nat × Nat)), (lpn (f_X3_init_L14 zm sm (a0)) k (x1, hh)) = some z4 → GZ p l e ({ frames := 2, cells := zm - z, slots := sm, locals := 40 } : Room) s m args below meth c 2 g X h zm sm (MQ below (QZ g X h z r.1 r.2) args s (zm - z) sm (AF X h z)) (hh).2.1 (hh).2.2 14 [(0, .ref (a0)), (1, .int (x1))] [] (hh).1 := by
    intro k
    induction k with
    | zero => intro x1 hh hlp4; exact (lpn_0 hlp4).elim
    | succ k ih4 =>
      intro x1 hh hlp4
      obtain ⟨y4, hf, hlp4⟩ := lpn_s hlp4
      unfold f_X3_init_L14 at hf
      try dsimp only at hf
      refine GZ.iload_n C 1 dX3_init_14 rfl rfl ?_
      refine GZ.aload_n C 0 dX3_init_15 rfl rfl ?_
      refine GZ.getR (ci := 2) (k := 0) C rfl inlX3 (by decide) m9_36 rfl hf dX3_init_16 (fun v5 hv5 hf => ?_)
      try dsimp only at hf
      refine GZ.alen C hf dX3_init_19 (fun v6 hv6 hf => ?_)
      try dsimp only at hf
      refine GZ.icmp_ge (tgt := 38) C dX3_init_20 (by decide) hf (fun c9 hf => ?_) (fun c9 hf => ?_)
      · cases hf
        change some _ = some _ at hlp4
        have hf := hfo4
        try rw [← Option.some.inj hlp4] at hf
        try dsimp only at hf
        refine GZ.sub C [0] (lv' := [(0, .ref (a0))]) rfl ?_
        exact hj38 _ _ hf
      · refine GZ.aload_n C 0 dX3_init_23 rfl rfl ?_
        refine GZ.getR (ci := 2) (k := 0) C rfl inlX3 (by decide) m9_36 rfl hf dX3_init_24 (fun v7 hv7 hf => ?_)
        try dsimp only at hf
        refine GZ.iload_n C 1 dX3_init_27 rfl rfl ?_
        refine GZ.iconst (v := 2) C dX3_init_28 (by decide) ?_
        refine GZ.iload_n C 1 dX3_init_29 rfl rfl ?_
        refine GZ.iadd C dX3_init_30 ?_
        refine GZ.iast C hf dX3_init_31 (fun h8 hh8 hf => ?_)
        try dsimp only at hf
        refine GZ.iinc (k := 1) (v := (x1 + 1)) (lv' := [(1, .int ((x1 + 1))), (0, .ref (a0))]) C dX3_init_32 rfl rfl (by decide) rfl ?_
        refine GZ.goto (tgt := 14) C dX3_init_35 (by decide) ?_
        cases hf
        refine GZ.sub C [1, 0] (lv' := [(0, .ref (a0)), (1, .int ((x1 + 1)))]) rfl ?_
        exact ih4 _ _ hlp4
  refine GZ.sub C [1, 0] (lv' := [(0, .ref (a0)), (1, .int ((0 : Int32)))]) rfl ?_
  exact hloop4 LF _ _ hlp4
theorem kd_X0_init : yX0_init.cls ≠ "java/lang/invoke/MethodHandle" ∧ yX0_init.cls ≠ "java/lang/invoke/VarHandle" ∧ (parseMethodDescriptor yX0_init.desc).map (fun d => d.parameters.length) = some 0 := by decide +kernel
set_option maxRecDepth 20000 in
set_option maxHeartbeats 4000000 in
theorem cz_X0_init {l : Launch} {h : PH} {z zm sm a0 : Nat} {r : PH × Nat} (hf : f_X0_init h z zm sm a0 = some r) : CZ l yX0_init cX0_init 2 3 61 [.ref a0] h z zm sm r.1 r.2 := by
  refine CZ.of (own := RX0) rfl (by decide) (Nat.le_of_ble_eq_true rfl) ?_
  intro p e R s m args below meth c g X hR hz0 hin ao0 ao1 C
  subst hR
  unfold f_X0_init at hf
  have hj43 : ∀ (hh : (PH × Nat × Nat)) (x0 : Nat), f_X0_init_J43 zm sm hh (x0) = some r → GZ p l e ({ frames := 3, cells := zm - z, slots := sm, locals := 61 } : Room) s m args below meth c 2 g X h zm sm (MQ below (QZ g X h z r.1 r.2) args s (zm - z) sm (AF X h z)) (hh).2.1 (hh).2.2 43 [(0, .ref (x0))] [] (hh).1 := by
    intro hh x0 hf
    unfold f_X0_init_J43 at hf
    refine GZ.aload_n C 0 dX0_init_43 rfl rfl ?_
    refine GZ.iconst (v := 0) C dX0_init_44 (by decide) ?_
    refine GZ.put (ci := 0) (k := 1) C rfl inlX0 (by decide) m9_57 rfl tyX0 tyX0_ok nmX0 rfl rfl rfl hf dX0_init_45 (fun h16 hh16 hf => ?_)
    try dsimp only at hf
    obtain ⟨c17, hf⟩ := gd_ok hf
    cases hf
    exact GZ.vret C hz0 c17 dX0_init_48
  refine GZ.sub C [0] (lv' := [(0, .ref (a0))]) rfl ?_
  show GZ p l e ({ frames := 3, cells := zm - z, slots := sm, locals := 61 } : Room) s m args below meth c 2 g X h zm sm (MQ below (QZ g X h z r.1 r.2) args s (zm - z) sm (AF X h z)) ((h, z, 0)).2.1 ((h, z, 0)).2.2 0 [(0, .ref (a0))] [] ((h, z, 0)).1
  refine GZ.aload_n C 0 dX0_init_0 rfl rfl ?_
  refine GZ.objInit C m9_54 m9_11 m9_12 (Nat.le_of_ble_eq_true rfl) (Nat.le_of_ble_eq_true rfl) dX0_init_1 ?_
  refine GZ.aload_n C 0 dX0_init_4 rfl rfl ?_
  refine GZ.bipush (v := 6) C dX0_init_5 (by decide) ?_
  obtain ⟨q1, hq1, hf⟩ := bind_some hf
  try dsimp only at hf
  obtain ⟨c2, eq1⟩ := nwC_at hq1
  refine GZ.newQS C ⟨by rw [hz0], rfl⟩ 6 m9_55 ao1 (by decide) (by decide) (by decide) c2 dX0_init_7 ?_
  refine GZ.byq eq1 ?_
  refine GZ.putF (ci := 0) (k := 0) C rfl inlX0 (by decide) m9_56 rfl tyX0 tyX0_ok nmX0 rfl hin rfl rfl rfl hf dX0_init_10 (fun h3 hh3 hf => ?_)
  try dsimp only at hf
  refine GZ.iconst (v := 0) C dX0_init_13 (by decide) ?_
  refine GZ.istore_n (lv' := [(1, .int ((0 : Int32))), (0, .ref (a0))]) C dX0_init_14 rfl (by decide) rfl ?_
  obtain ⟨z4, hlp4, hfo4⟩ := bind_some hf
  clear hf
  have hloop4 : ∀ (k : Nat), ∀ (x1 : Int32) (hh : (PH × Nat × Nat)), (lpn (f_X0_init_L15 zm sm (a0)) k (x1, hh)) = some z4 → GZ p l e ({ frames := 3, cells := zm - z, slots := sm, locals := 61 } : Room) s m args below meth c 2 g X h zm sm (MQ below (QZ g X h z r.1 r.2) args s (zm - z) sm (AF X h z)) (hh).2.1 (hh).2.2 15 [(0, .ref (a0)), (1, .int (x1))] [] (hh).1 := by
    intro k
    induction k with
    | zero => intro x1 hh hlp4; exact (lpn_0 hlp4).elim
    | succ k ih4 =>
      intro x1 hh hlp4
      obtain ⟨y4, hf, hlp4⟩ := lpn_s hlp4
      unfold f_X0_init_L15 at hf
      try dsimp only at hf
      refine GZ.iload_n C 1 dX0_init_15 rfl rfl ?_
      refine GZ.aload_n C 0 dX0_init_16 rfl rfl ?_
      refine GZ.getR (ci := 0) (k := 0) C rfl inlX0 (by decide) m9_56 rfl hf dX0_init_17 (fun v5 hv5 hf => ?_)
      try dsimp only at hf
      refine GZ.alen C hf dX0_init_20 (fun v6 hv6 hf => ?_)
      try dsimp only at hf
      refine GZ.icmp_ge (tgt := 43) C dX0_init_21 (by decide) hf (fun c14 hf => ?_) (fun c14 hf => ?_)
      · cases hf
        change some _ = some _ at hlp4
        have hf := hfo4
        try rw [← Option.some.inj hlp4] at hf
        try dsimp only at hf
        refine GZ.sub C [0] (lv' := [(0, .ref (a0))]) rfl ?_
        exact hj43 _ _ hf
      · refine GZ.aload_n C 0 dX0_init_24 rfl rfl ?_
        refine GZ.getR (ci := 0) (k := 0) C rfl inlX0 (by decide) m9_56 rfl hf dX0_init_25 (fun v7 hv7 hf => ?_)
        try dsimp only at hf
        refine GZ.iload_n C 1 dX0_init_28 rfl rfl ?_
        obtain ⟨q8, hq8, hf⟩ := bind_some hf
        try dsimp only at hf
        obtain ⟨c9, eq8⟩ := nwC_at hq8
        refine GZ.newO (ci := 2) C ⟨by rw [hz0], rfl⟩ rfl inlX3 tyX3 tyX3_ok m9_55 m9_14 m9_15 [.null, .null, .int 0, .int 0, .int 0, .int 0] (by decide +kernel) c9 dX0_init_29 ?_
        refine GZ.byq eq8 ?_
        refine GZ.dup C dX0_init_32 rfl ?_
        obtain ⟨q10, hq10, hf⟩ := bind_some hf
        try dsimp only at hf
        obtain ⟨h11, hh11, c12, eq10⟩ := clC_at hq10
        refine GZ.callI C ao0 ao1 ⟨by rw [hz0], rfl⟩ (cz_X3_init hh11) rfl m9_58 m9_32 m9_15 m9_33 rfl kd_X3_init ⟨Nat.le_of_ble_eq_true rfl, Nat.le_of_ble_eq_true rfl⟩ ⟨Nat.le_add_right _ _, c12⟩ (Nat.le_of_ble_eq_true rfl) dX0_init_33 ?_
        refine GZ.byq eq10 ?_
        refine GZ.aast C hf dX0_init_36 (fun h13 hh13 hf => ?_)
        try dsimp only at hf
        refine GZ.iinc (k := 1) (v := (x1 + 1)) (lv' := [(1, .int ((x1 + 1))), (0, .ref (a0))]) C dX0_init_37 rfl rfl (by decide) rfl ?_
        refine GZ.goto (tgt := 15) C dX0_init_40 (by decide) ?_
        cases hf
        refine GZ.sub C [1, 0] (lv' := [(0, .ref (a0)), (1, .int ((x1 + 1)))]) rfl ?_
        exact ih4 _ _ hlp4
  refine GZ.sub C [1, 0] (lv' := [(0, .ref (a0)), (1, .int ((0 : Int32)))]) rfl ?_
  exact hloop4 LF _ _ hlp4
theorem kd_X5_init : yX5_init.cls ≠ "java/lang/invoke/MethodHandle" ∧ yX5_init.cls ≠ "java/lang/invoke/VarHandle" ∧ (parseMethodDescriptor yX5_init.desc).map (fun d => d.parameters.length) = some 0 := by decide +kernel
set_option maxRecDepth 20000 in
set_option maxHeartbeats 4000000 in
theorem cz_X5_init {l : Launch} {h : PH} {z zm sm a0 : Nat} {r : PH × Nat} (hf : f_X5_init h z zm sm a0 = some r) : CZ l yX5_init cX5_init 1 4 82 [.ref a0] h z zm sm r.1 r.2 := by
  refine CZ.of (own := RX5) rfl (by decide) (Nat.le_of_ble_eq_true rfl) ?_
  intro p e R s m args below meth c g X hR hz0 hin ao0 ao1 C
  subst hR
  unfold f_X5_init at hf
  refine GZ.sub C [0] (lv' := [(0, .ref (a0))]) rfl ?_
  show GZ p l e ({ frames := 4, cells := zm - z, slots := sm, locals := 82 } : Room) s m args below meth c 1 g X h zm sm (MQ below (QZ g X h z r.1 r.2) args s (zm - z) sm (AF X h z)) ((h, z, 0)).2.1 ((h, z, 0)).2.2 0 [(0, .ref (a0))] [] ((h, z, 0)).1
  refine GZ.aload_n C 0 dX5_init_0 rfl rfl ?_
  refine GZ.objInit C m9_10 m9_11 m9_12 (Nat.le_of_ble_eq_true rfl) (Nat.le_of_ble_eq_true rfl) dX5_init_1 ?_
  refine GZ.aload_n C 0 dX5_init_4 rfl rfl ?_
  obtain ⟨q1, hq1, hf⟩ := bind_some hf
  try dsimp only at hf
  obtain ⟨c2, eq1⟩ := nwC_at hq1
  refine GZ.newO (ci := 2) C ⟨by rw [hz0], rfl⟩ rfl inlX3 tyX3 tyX3_ok m9_13 m9_14 m9_15 [.null, .null, .int 0, .int 0, .int 0, .int 0] (by decide +kernel) c2 dX5_init_5 ?_
  refine GZ.byq eq1 ?_
  refine GZ.dup C dX5_init_8 rfl ?_
  obtain ⟨q3, hq3, hf⟩ := bind_some hf
  try dsimp only at hf
  obtain ⟨h4, hh4, c5, eq3⟩ := clC_at hq3
  refine GZ.callI C ao0 ao1 ⟨by rw [hz0], rfl⟩ (cz_X3_init hh4) rfl m9_31 m9_32 m9_15 m9_33 rfl kd_X3_init ⟨Nat.le_of_ble_eq_true rfl, Nat.le_of_ble_eq_true rfl⟩ ⟨Nat.le_add_right _ _, c5⟩ (Nat.le_of_ble_eq_true rfl) dX5_init_9 ?_
  refine GZ.byq eq3 ?_
  refine GZ.putF (ci := 4) (k := 0) C rfl inlX5 (by decide) m9_16 rfl tyX5 tyX5_ok nmX5 rfl hin rfl rfl rfl hf dX5_init_12 (fun h6 hh6 hf => ?_)
  try dsimp only at hf
  refine GZ.aload_n C 0 dX5_init_15 rfl rfl ?_
  obtain ⟨q7, hq7, hf⟩ := bind_some hf
  try dsimp only at hf
  obtain ⟨c8, eq7⟩ := nwC_at hq7
  refine GZ.newO (ci := 2) C ⟨by rw [hz0], rfl⟩ rfl inlX3 tyX3 tyX3_ok m9_13 m9_14 m9_15 [.null, .null, .int 0, .int 0, .int 0, .int 0] (by decide +kernel) c8 dX5_init_16 ?_
  refine GZ.byq eq7 ?_
  refine GZ.dup C dX5_init_19 rfl ?_
  obtain ⟨q9, hq9, hf⟩ := bind_some hf
  try dsimp only at hf
  obtain ⟨h10, hh10, c11, eq9⟩ := clC_at hq9
  refine GZ.callI C ao0 ao1 ⟨by rw [hz0], rfl⟩ (cz_X3_init hh10) rfl m9_31 m9_32 m9_15 m9_33 rfl kd_X3_init ⟨Nat.le_of_ble_eq_true rfl, Nat.le_of_ble_eq_true rfl⟩ ⟨Nat.le_add_right _ _, c11⟩ (Nat.le_of_ble_eq_true rfl) dX5_init_20 ?_
  refine GZ.byq eq9 ?_
  refine GZ.putF (ci := 4) (k := 1) C rfl inlX5 (by decide) m9_17 rfl tyX5 tyX5_ok nmX5 rfl hin rfl rfl rfl hf dX5_init_23 (fun h12 hh12 hf => ?_)
  try dsimp only at hf
  refine GZ.aload_n C 0 dX5_init_26 rfl rfl ?_
  obtain ⟨q13, hq13, hf⟩ := bind_some hf
  try dsimp only at hf
  obtain ⟨c14, eq13⟩ := nwC_at hq13
  refine GZ.newO (ci := 0) C ⟨by rw [hz0], rfl⟩ rfl inlX0 tyX0 tyX0_ok m9_18 m9_19 m9_20 [.null, .int 0] (by decide +kernel) c14 dX5_init_27 ?_
  refine GZ.byq eq13 ?_
  refine GZ.dup C dX5_init_30 rfl ?_
  obtain ⟨q15, hq15, hf⟩ := bind_some hf
  try dsimp only at hf
  obtain ⟨h16, hh16, c17, eq15⟩ := clC_at hq15
  refine GZ.callI C ao0 ao1 ⟨by rw [hz0], rfl⟩ (cz_X0_init hh16) rfl m9_51 m9_52 m9_20 m9_53 rfl kd_X0_init ⟨Nat.le_of_ble_eq_true rfl, Nat.le_of_ble_eq_true rfl⟩ ⟨Nat.le_add_right _ _, c17⟩ (Nat.le_of_ble_eq_true rfl) dX5_init_31 ?_
  refine GZ.byq eq15 ?_
  refine GZ.putF (ci := 4) (k := 2) C rfl inlX5 (by decide) m9_21 rfl tyX5 tyX5_ok nmX5 rfl hin rfl rfl rfl hf dX5_init_34 (fun h18 hh18 hf => ?_)
  try dsimp only at hf
  refine GZ.aload_n C 0 dX5_init_37 rfl rfl ?_
  obtain ⟨q19, hq19, hf⟩ := bind_some hf
  try dsimp only at hf
  obtain ⟨c20, eq19⟩ := nwC_at hq19
  refine GZ.newO (ci := 3) C ⟨by rw [hz0], rfl⟩ rfl inlX4 tyX4 tyX4_ok m9_22 m9_23 m9_24 [.null, .int 0] (by decide +kernel) c20 dX5_init_38 ?_
  refine GZ.byq eq19 ?_
  refine GZ.dup C dX5_init_41 rfl ?_
  obtain ⟨q21, hq21, hf⟩ := bind_some hf
  try dsimp only at hf
  obtain ⟨h22, hh22, c23, eq21⟩ := clC_at hq21
  refine GZ.callI C ao0 ao1 ⟨by rw [hz0], rfl⟩ (cz_X4_init hh22) rfl m9_59 m9_60 m9_24 m9_61 rfl kd_X4_init ⟨Nat.le_of_ble_eq_true rfl, Nat.le_of_ble_eq_true rfl⟩ ⟨Nat.le_add_right _ _, c23⟩ (Nat.le_of_ble_eq_true rfl) dX5_init_42 ?_
  refine GZ.byq eq21 ?_
  refine GZ.putF (ci := 4) (k := 3) C rfl inlX5 (by decide) m9_25 rfl tyX5 tyX5_ok nmX5 rfl hin rfl rfl rfl hf dX5_init_45 (fun h24 hh24 hf => ?_)
  try dsimp only at hf
  refine GZ.aload_n C 0 dX5_init_48 rfl rfl ?_
  obtain ⟨q25, hq25, hf⟩ := bind_some hf
  try dsimp only at hf
  obtain ⟨c26, eq25⟩ := nwC_at hq25
  refine GZ.newO (ci := 1) C ⟨by rw [hz0], rfl⟩ rfl inlX2 tyX2 tyX2_ok m9_26 m9_27 m9_28 [.null, .null, .int 0, .int 0] (by decide +kernel) c26 dX5_init_49 ?_
  refine GZ.byq eq25 ?_
  refine GZ.dup C dX5_init_52 rfl ?_
  obtain ⟨q27, hq27, hf⟩ := bind_some hf
  try dsimp only at hf
  obtain ⟨h28, hh28, c29, eq27⟩ := clC_at hq27
  refine GZ.callI C ao0 ao1 ⟨by rw [hz0], rfl⟩ (cz_X2_init hh28) rfl m9_65 m9_44 m9_28 m9_45 rfl kd_X2_init ⟨Nat.le_of_ble_eq_true rfl, Nat.le_of_ble_eq_true rfl⟩ ⟨Nat.le_add_right _ _, c29⟩ (Nat.le_of_ble_eq_true rfl) dX5_init_53 ?_
  refine GZ.byq eq27 ?_
  refine GZ.putF (ci := 4) (k := 4) C rfl inlX5 (by decide) m9_29 rfl tyX5 tyX5_ok nmX5 rfl hin rfl rfl rfl hf dX5_init_56 (fun h30 hh30 hf => ?_)
  try dsimp only at hf
  refine GZ.aload_n C 0 dX5_init_59 rfl rfl ?_
  refine GZ.iconst (v := 0) C dX5_init_60 (by decide) ?_
  refine GZ.put (ci := 4) (k := 5) C rfl inlX5 (by decide) m9_30 rfl tyX5 tyX5_ok nmX5 rfl rfl rfl hf dX5_init_61 (fun h31 hh31 hf => ?_)
  try dsimp only at hf
  obtain ⟨c32, hf⟩ := gd_ok hf
  cases hf
  exact GZ.vret C hz0 c32 dX5_init_64
theorem kd_X6_init : yX6_init.cls ≠ "java/lang/invoke/MethodHandle" ∧ yX6_init.cls ≠ "java/lang/invoke/VarHandle" ∧ (parseMethodDescriptor yX6_init.desc).map (fun d => d.parameters.length) = some 0 := by decide +kernel
set_option maxRecDepth 20000 in
set_option maxHeartbeats 4000000 in
theorem cz_X6_init {l : Launch} {h : PH} {z zm sm a0 : Nat} {r : PH × Nat} (hf : f_X6_init h z zm sm a0 = some r) : CZ l yX6_init cX6_init 2 1 20 [.ref a0] h z zm sm r.1 r.2 := by
  refine CZ.of (own := RX6) rfl (by decide) (Nat.le_of_ble_eq_true rfl) ?_
  intro p e R s m args below meth c g X hR hz0 hin ao0 ao1 C
  subst hR
  unfold f_X6_init at hf
  have hj78 : ∀ (hh : (PH × Nat × Nat)), f_X6_init_J78 zm sm hh = some r → GZ p l e ({ frames := 1, cells := zm - z, slots := sm, locals := 20 } : Room) s m args below meth c 2 g X h zm sm (MQ below (QZ g X h z r.1 r.2) args s (zm - z) sm (AF X h z)) (hh).2.1 (hh).2.2 78 [] [] (hh).1 := by
    intro hh hf
    unfold f_X6_init_J78 at hf
    obtain ⟨c23, hf⟩ := gd_ok hf
    cases hf
    exact GZ.vret C hz0 c23 dX6_init_78
  refine GZ.sub C [0] (lv' := [(0, .ref (a0))]) rfl ?_
  show GZ p l e ({ frames := 1, cells := zm - z, slots := sm, locals := 20 } : Room) s m args below meth c 2 g X h zm sm (MQ below (QZ g X h z r.1 r.2) args s (zm - z) sm (AF X h z)) ((h, z, 0)).2.1 ((h, z, 0)).2.2 0 [(0, .ref (a0))] [] ((h, z, 0)).1
  refine GZ.aload_n C 0 dX6_init_0 rfl rfl ?_
  refine GZ.objInit C m9_69 m9_11 m9_12 (Nat.le_of_ble_eq_true rfl) (Nat.le_of_ble_eq_true rfl) dX6_init_1 ?_
  refine GZ.aload_n C 0 dX6_init_4 rfl rfl ?_
  refine GZ.bipush (v := 84) C dX6_init_5 (by decide) ?_
  obtain ⟨q1, hq1, hf⟩ := bind_some hf
  try dsimp only at hf
  obtain ⟨c2, eq1⟩ := nwC_at hq1
  refine GZ.newI C ⟨by rw [hz0], rfl⟩ 84 m9_35 (by decide) (by decide) (by decide) c2 dX6_init_7 ?_
  refine GZ.byq eq1 ?_
  refine GZ.putF (ci := 5) (k := 1) C rfl inlX6 (by decide) m9_70 rfl tyX6 tyX6_ok nmX6 rfl hin rfl rfl rfl hf dX6_init_9 (fun h3 hh3 hf => ?_)
  try dsimp only at hf
  refine GZ.aload_n C 0 dX6_init_12 rfl rfl ?_
  refine GZ.bipush (v := 84) C dX6_init_13 (by decide) ?_
  obtain ⟨q4, hq4, hf⟩ := bind_some hf
  try dsimp only at hf
  obtain ⟨c5, eq4⟩ := nwC_at hq4
  refine GZ.newI C ⟨by rw [hz0], rfl⟩ 84 m9_35 (by decide) (by decide) (by decide) c5 dX6_init_15 ?_
  refine GZ.byq eq4 ?_
  refine GZ.putF (ci := 5) (k := 2) C rfl inlX6 (by decide) m9_71 rfl tyX6 tyX6_ok nmX6 rfl hin rfl rfl rfl hf dX6_init_17 (fun h6 hh6 hf => ?_)
  try dsimp only at hf
  refine GZ.aload_n C 0 dX6_init_20 rfl rfl ?_
  refine GZ.bipush (v := 84) C dX6_init_21 (by decide) ?_
  obtain ⟨q7, hq7, hf⟩ := bind_some hf
  try dsimp only at hf
  obtain ⟨c8, eq7⟩ := nwC_at hq7
  refine GZ.newI C ⟨by rw [hz0], rfl⟩ 84 m9_35 (by decide) (by decide) (by decide) c8 dX6_init_23 ?_
  refine GZ.byq eq7 ?_
  refine GZ.putF (ci := 5) (k := 3) C rfl inlX6 (by decide) m9_72 rfl tyX6 tyX6_ok nmX6 rfl hin rfl rfl rfl hf dX6_init_25 (fun h9 hh9 hf => ?_)
  try dsimp only at hf
  refine GZ.aload_n C 0 dX6_init_28 rfl rfl ?_
  refine GZ.sipush (v := 504) C dX6_init_29 (by decide) ?_
  obtain ⟨q10, hq10, hf⟩ := bind_some hf
  try dsimp only at hf
  obtain ⟨c11, eq10⟩ := nwC_at hq10
  refine GZ.newI C ⟨by rw [hz0], rfl⟩ 504 m9_35 (by decide) (by decide) (by decide) c11 dX6_init_32 ?_
  refine GZ.byq eq10 ?_
  refine GZ.putF (ci := 5) (k := 5) C rfl inlX6 (by decide) m9_73 rfl tyX6 tyX6_ok nmX6 rfl hin rfl rfl rfl hf dX6_init_34 (fun h12 hh12 hf => ?_)
  try dsimp only at hf
  refine GZ.aload_n C 0 dX6_init_37 rfl rfl ?_
  refine GZ.bipush (v := 60) C dX6_init_38 (by decide) ?_
  obtain ⟨q13, hq13, hf⟩ := bind_some hf
  try dsimp only at hf
  obtain ⟨c14, eq13⟩ := nwC_at hq13
  refine GZ.newI C ⟨by rw [hz0], rfl⟩ 60 m9_35 (by decide) (by decide) (by decide) c14 dX6_init_40 ?_
  refine GZ.byq eq13 ?_
  refine GZ.putF (ci := 5) (k := 7) C rfl inlX6 (by decide) m9_74 rfl tyX6 tyX6_ok nmX6 rfl hin rfl rfl rfl hf dX6_init_42 (fun h15 hh15 hf => ?_)
  try dsimp only at hf
  refine GZ.aload_n C 0 dX6_init_45 rfl rfl ?_
  refine GZ.bipush (v := 18) C dX6_init_46 (by decide) ?_
  obtain ⟨q16, hq16, hf⟩ := bind_some hf
  try dsimp only at hf
  obtain ⟨c17, eq16⟩ := nwC_at hq16
  refine GZ.newI C ⟨by rw [hz0], rfl⟩ 18 m9_35 (by decide) (by decide) (by decide) c17 dX6_init_48 ?_
  refine GZ.byq eq16 ?_
  refine GZ.putF (ci := 5) (k := 9) C rfl inlX6 (by decide) m9_75 rfl tyX6 tyX6_ok nmX6 rfl hin rfl rfl rfl hf dX6_init_50 (fun h18 hh18 hf => ?_)
  try dsimp only at hf
  refine GZ.iconst (v := 0) C dX6_init_53 (by decide) ?_
  refine GZ.istore_n (lv' := [(1, .int ((0 : Int32))), (0, .ref (a0))]) C dX6_init_54 rfl (by decide) rfl ?_
  obtain ⟨z19, hlp19, hfo19⟩ := bind_some hf
  clear hf
  have hloop19 : ∀ (k : Nat), ∀ (x1 : Int32) (hh : (PH × Nat × Nat)), (lpn (f_X6_init_L55 zm sm (a0)) k (x1, hh)) = some z19 → GZ p l e ({ frames := 1, cells := zm - z, slots := sm, locals := 20 } : Room) s m args below meth c 2 g X h zm sm (MQ below (QZ g X h z r.1 r.2) args s (zm - z) sm (AF X h z)) (hh).2.1 (hh).2.2 55 [(0, .ref (a0)), (1, .int (x1))] [] (hh).1 := by
    intro k
    induction k with
    | zero => intro x1 hh hlp19; exact (lpn_0 hlp19).elim
    | succ k ih19 =>
      intro x1 hh hlp19
      obtain ⟨y19, hf, hlp19⟩ := lpn_s hlp19
      unfold f_X6_init_L55 at hf
      try dsimp only at hf
      refine GZ.iload_n C 1 dX6_init_55 rfl rfl ?_
      refine GZ.bipush (v := 8) C dX6_init_56 (by decide) ?_
      refine GZ.icmp_ge (tgt := 78) C dX6_init_58 (by decide) hf (fun c22 hf => ?_) (fun c22 hf => ?_)
      · cases hf
        change some _ = some _ at hlp19
        have hf := hfo19
        try rw [← Option.some.inj hlp19] at hf
        try dsimp only at hf
        refine GZ.sub C [] (lv' := []) rfl ?_
        exact hj78 _ hf
      · refine GZ.aload_n C 0 dX6_init_61 rfl rfl ?_
        refine GZ.getR (ci := 5) (k := 1) C rfl inlX6 (by decide) m9_70 rfl hf dX6_init_62 (fun v20 hv20 hf => ?_)
        try dsimp only at hf
        refine GZ.iconst (v := 0) C dX6_init_65 (by decide) ?_
        refine GZ.iload_n C 1 dX6_init_66 rfl rfl ?_
        refine GZ.iadd C dX6_init_67 ?_
        refine GZ.iconst (v := 2) C dX6_init_68 (by decide) ?_
        refine GZ.iload_n C 1 dX6_init_69 rfl rfl ?_
        refine GZ.iadd C dX6_init_70 ?_
        refine GZ.iast C hf dX6_init_71 (fun h21 hh21 hf => ?_)
        try dsimp only at hf
        refine GZ.iinc (k := 1) (v := (x1 + 1)) (lv' := [(1, .int ((x1 + 1))), (0, .ref (a0))]) C dX6_init_72 rfl rfl (by decide) rfl ?_
        refine GZ.goto (tgt := 55) C dX6_init_75 (by decide) ?_
        cases hf
        refine GZ.sub C [1, 0] (lv' := [(0, .ref (a0)), (1, .int ((x1 + 1)))]) rfl ?_
        exact ih19 _ _ hlp19
  refine GZ.sub C [1, 0] (lv' := [(0, .ref (a0)), (1, .int ((0 : Int32)))]) rfl ?_
  exact hloop19 LF _ _ hlp19
