theorem ko_X4_isFull {h : PH} {a0 : Nat} {r : Int32} (hf : f_X4_isFull h a0 = some r) : kO h a0 3 := by
  unfold f_X4_isFull at hf
  exact okO_k (gd_ok hf).1
theorem kd_X4_isFull : yX4_isFull.cls = RX4 ∧ yX4_isFull.cls ≠ "java/lang/invoke/MethodHandle" ∧ yX4_isFull.cls ≠ "java/lang/invoke/VarHandle" ∧ (parseMethodDescriptor yX4_isFull.desc).map (fun d => d.parameters.length) = some 0 := by decide +kernel
set_option maxRecDepth 20000 in
set_option maxHeartbeats 4000000 in
theorem ct_X4_isFull {l : Launch} {h : PH} {a0 : Nat} {r : Int32} (hf : f_X4_isFull h a0 = some r) : CT l yX4_isFull cX4_isFull 1 (some .boolean) 0 0 [.ref (a0)] h (some (.int r)) h := by
  refine CT.of (own := RX4) rfl (by decide) (Nat.le_of_ble_eq_true rfl) ?_
  intro p e R s m args below meth c g X hR C
  subst hR
  unfold f_X4_isFull at hf
  obtain ⟨hok, hf⟩ := gd_ok hf
  have hj17 : ∀ (k0 : Int32), f_X4_isFull_J17 h k0 = some r → G p l e ({ frames := 0, cells := 0, slots := 0, locals := 0 } : Room) s m args below meth c 1 g X h 0 0 (MQ below (QW g X h s.heap.size (some (.int r)) h) args s 0 0 (AF X h s.heap.size)) 17 [] [.int (k0)] h := by
    intro k0 hf
    unfold f_X4_isFull_J17 at hf
    obtain ⟨c5, hf⟩ := gd_ok hf
    cases hf
    exact G.zret C rfl (z01_n c5) dX4_isFull_17
  refine G.sub C [0] (lv' := [(0, .ref (a0))]) rfl ?_
  refine G.aload_n C 0 dX4_isFull_0 rfl rfl ?_
  refine G.getI (ci := 3) (k := 1) C rfl inlX4 (by decide) m9_64 rfl hf dX4_isFull_1 (fun v1 hv1 hf => ?_)
  try dsimp only at hf
  refine G.aload_n C 0 dX4_isFull_4 rfl rfl ?_
  refine G.getR (ci := 3) (k := 0) C rfl inlX4 (by decide) m9_63 rfl hf dX4_isFull_5 (fun v2 hv2 hf => ?_)
  try dsimp only at hf
  refine G.alen C hf dX4_isFull_8 (fun v3 hv3 hf => ?_)
  try dsimp only at hf
  refine G.icmp_lt (tgt := 16) C dX4_isFull_9 (by decide) hf (fun c4 hf => ?_) (fun c4 hf => ?_)
  · refine G.iconst (v := 0) C dX4_isFull_16 (by decide) ?_
    refine G.sub C [] (lv' := []) rfl ?_
    exact hj17 _ hf
  · refine G.iconst (v := 1) C dX4_isFull_12 (by decide) ?_
    refine G.goto (tgt := 17) C dX4_isFull_13 (by decide) ?_
    refine G.sub C [] (lv' := []) rfl ?_
    exact hj17 _ hf
theorem ko_X4_add {h : PH} {a0 : Nat} {a1 : Int32} {r : PH} (hf : f_X4_add h a0 a1 = some r) : kO h a0 3 := by
  unfold f_X4_add at hf
  exact okO_k (gd_ok hf).1
theorem kd_X4_add : yX4_add.cls = RX4 ∧ yX4_add.cls ≠ "java/lang/invoke/MethodHandle" ∧ yX4_add.cls ≠ "java/lang/invoke/VarHandle" ∧ (parseMethodDescriptor yX4_add.desc).map (fun d => d.parameters.length) = some 1 := by decide +kernel
set_option maxRecDepth 20000 in
set_option maxHeartbeats 4000000 in
theorem ct_X4_add {l : Launch} {h : PH} {a0 : Nat} {a1 : Int32} {r : PH} (hf : f_X4_add h a0 a1 = some r) : CT l yX4_add cX4_add 2 none 0 0 [.ref (a0), .int (a1)] h none r := by
  refine CT.of (own := RX4) rfl (by decide) (Nat.le_of_ble_eq_true rfl) ?_
  intro p e R s m args below meth c g X hR C
  subst hR
  unfold f_X4_add at hf
  obtain ⟨hok, hf⟩ := gd_ok hf
  have hj39 : ∀ (hh : PH), f_X4_add_J39 hh = some r → G p l e ({ frames := 0, cells := 0, slots := 0, locals := 0 } : Room) s m args below meth c 2 g X h 0 0 (MQ below (QW g X h s.heap.size none r) args s 0 0 (AF X h s.heap.size)) 39 [] [] hh := by
    intro hh hf
    unfold f_X4_add_J39 at hf
    cases hf
    exact G.vret C rfl dX4_add_39
  refine G.sub C [0, 1] (lv' := [(0, .ref (a0)), (1, .int (a1))]) rfl ?_
  refine G.aload_n C 0 dX4_add_0 rfl rfl ?_
  refine G.getI (ci := 3) (k := 1) C rfl inlX4 (by decide) m9_64 rfl hf dX4_add_1 (fun v1 hv1 hf => ?_)
  try dsimp only at hf
  refine G.if_lt (tgt := 39) C dX4_add_4 (by decide) hf (fun c11 hf => ?_) (fun c11 hf => ?_)
  · refine G.sub C [] (lv' := []) rfl ?_
    exact hj39 _ hf
  · refine G.aload_n C 0 dX4_add_7 rfl rfl ?_
    refine G.getI (ci := 3) (k := 1) C rfl inlX4 (by decide) m9_64 rfl hf dX4_add_8 (fun v2 hv2 hf => ?_)
    try dsimp only at hf
    refine G.aload_n C 0 dX4_add_11 rfl rfl ?_
    refine G.getR (ci := 3) (k := 0) C rfl inlX4 (by decide) m9_63 rfl hf dX4_add_12 (fun v3 hv3 hf => ?_)
    try dsimp only at hf
    refine G.alen C hf dX4_add_15 (fun v4 hv4 hf => ?_)
    try dsimp only at hf
    refine G.icmp_ge (tgt := 39) C dX4_add_16 (by decide) hf (fun c10 hf => ?_) (fun c10 hf => ?_)
    · refine G.sub C [] (lv' := []) rfl ?_
      exact hj39 _ hf
    · refine G.aload_n C 0 dX4_add_19 rfl rfl ?_
      refine G.getR (ci := 3) (k := 0) C rfl inlX4 (by decide) m9_63 rfl hf dX4_add_20 (fun v5 hv5 hf => ?_)
      try dsimp only at hf
      refine G.aload_n C 0 dX4_add_23 rfl rfl ?_
      refine G.getI (ci := 3) (k := 1) C rfl inlX4 (by decide) m9_64 rfl hf dX4_add_24 (fun v6 hv6 hf => ?_)
      try dsimp only at hf
      refine G.iload_n C 1 dX4_add_27 rfl rfl ?_
      refine G.iast C hf dX4_add_28 (fun h7 hh7 hf => ?_)
      try dsimp only at hf
      refine G.aload_n C 0 dX4_add_29 rfl rfl ?_
      refine G.dup C dX4_add_30 rfl ?_
      refine G.getI (ci := 3) (k := 1) C rfl inlX4 (by decide) m9_64 rfl hf dX4_add_31 (fun v8 hv8 hf => ?_)
      try dsimp only at hf
      refine G.iconst (v := 1) C dX4_add_34 (by decide) ?_
      refine G.iadd C dX4_add_35 ?_
      refine G.put (ci := 3) (k := 1) C rfl inlX4 (by decide) m9_64 rfl tyX4 tyX4_ok nmX4 rfl rfl rfl hf dX4_add_36 (fun h9 hh9 hf => ?_)
      try dsimp only at hf
      refine G.sub C [] (lv' := []) rfl ?_
      exact hj39 _ hf
theorem ko_X4_length {h : PH} {a0 : Nat} {r : Int32} (hf : f_X4_length h a0 = some r) : kO h a0 3 := by
  unfold f_X4_length at hf
  exact okO_k (gd_ok hf).1
theorem kd_X4_length : yX4_length.cls = RX4 ∧ yX4_length.cls ≠ "java/lang/invoke/MethodHandle" ∧ yX4_length.cls ≠ "java/lang/invoke/VarHandle" ∧ (parseMethodDescriptor yX4_length.desc).map (fun d => d.parameters.length) = some 0 := by decide +kernel
set_option maxRecDepth 20000 in
set_option maxHeartbeats 4000000 in
theorem ct_X4_length {l : Launch} {h : PH} {a0 : Nat} {r : Int32} (hf : f_X4_length h a0 = some r) : CT l yX4_length cX4_length 1 (some .int) 0 0 [.ref (a0)] h (some (.int r)) h := by
  refine CT.of (own := RX4) rfl (by decide) (Nat.le_of_ble_eq_true rfl) ?_
  intro p e R s m args below meth c g X hR C
  subst hR
  unfold f_X4_length at hf
  obtain ⟨hok, hf⟩ := gd_ok hf
  refine G.sub C [0] (lv' := [(0, .ref (a0))]) rfl ?_
  refine G.aload_n C 0 dX4_length_0 rfl rfl ?_
  refine G.getI (ci := 3) (k := 1) C rfl inlX4 (by decide) m9_64 rfl hf dX4_length_1 (fun v1 hv1 hf => ?_)
  try dsimp only at hf
  cases hf
  exact G.iret C rfl dX4_length_4
theorem ko_X4_empty {h : PH} {a0 : Nat} {r : PH} (hf : f_X4_empty h a0 = some r) : kO h a0 3 := by
  unfold f_X4_empty at hf
  exact okO_k (gd_ok hf).1
theorem kd_X4_empty : yX4_empty.cls = RX4 ∧ yX4_empty.cls ≠ "java/lang/invoke/MethodHandle" ∧ yX4_empty.cls ≠ "java/lang/invoke/VarHandle" ∧ (parseMethodDescriptor yX4_empty.desc).map (fun d => d.parameters.length) = some 0 := by decide +kernel
set_option maxRecDepth 20000 in
set_option maxHeartbeats 4000000 in
theorem ct_X4_empty {l : Launch} {h : PH} {a0 : Nat} {r : PH} (hf : f_X4_empty h a0 = some r) : CT l yX4_empty cX4_empty 1 none 0 0 [.ref (a0)] h none r := by
  refine CT.of (own := RX4) rfl (by decide) (Nat.le_of_ble_eq_true rfl) ?_
  intro p e R s m args below meth c g X hR C
  subst hR
  unfold f_X4_empty at hf
  obtain ⟨hok, hf⟩ := gd_ok hf
  refine G.sub C [0] (lv' := [(0, .ref (a0))]) rfl ?_
  refine G.aload_n C 0 dX4_empty_0 rfl rfl ?_
  refine G.iconst (v := 0) C dX4_empty_1 (by decide) ?_
  refine G.put (ci := 3) (k := 1) C rfl inlX4 (by decide) m9_64 rfl tyX4 tyX4_ok nmX4 rfl rfl rfl hf dX4_empty_2 (fun h1 hh1 hf => ?_)
  try dsimp only at hf
  cases hf
  exact G.vret C rfl dX4_empty_5
theorem ko_X4_codeAt {h : PH} {a0 : Nat} {a1 : Int32} {r : Int32} (hf : f_X4_codeAt h a0 a1 = some r) : kO h a0 3 := by
  unfold f_X4_codeAt at hf
  exact okO_k (gd_ok hf).1
theorem kd_X4_codeAt : yX4_codeAt.cls = RX4 ∧ yX4_codeAt.cls ≠ "java/lang/invoke/MethodHandle" ∧ yX4_codeAt.cls ≠ "java/lang/invoke/VarHandle" ∧ (parseMethodDescriptor yX4_codeAt.desc).map (fun d => d.parameters.length) = some 1 := by decide +kernel
set_option maxRecDepth 20000 in
set_option maxHeartbeats 4000000 in
theorem ct_X4_codeAt {l : Launch} {h : PH} {a0 : Nat} {a1 : Int32} {r : Int32} (hf : f_X4_codeAt h a0 a1 = some r) : CT l yX4_codeAt cX4_codeAt 2 (some .int) 0 0 [.ref (a0), .int (a1)] h (some (.int r)) h := by
  refine CT.of (own := RX4) rfl (by decide) (Nat.le_of_ble_eq_true rfl) ?_
  intro p e R s m args below meth c g X hR C
  subst hR
  unfold f_X4_codeAt at hf
  obtain ⟨hok, hf⟩ := gd_ok hf
  have hj31 : ∀ (k0 : Int32), f_X4_codeAt_J31 h k0 = some r → G p l e ({ frames := 0, cells := 0, slots := 0, locals := 0 } : Room) s m args below meth c 2 g X h 0 0 (MQ below (QW g X h s.heap.size (some (.int r)) h) args s 0 0 (AF X h s.heap.size)) 31 [] [.int (k0)] h := by
    intro k0 hf
    unfold f_X4_codeAt_J31 at hf
    cases hf
    exact G.iret C rfl dX4_codeAt_31
  have hj30 : f_X4_codeAt_J30 h = some r → G p l e ({ frames := 0, cells := 0, slots := 0, locals := 0 } : Room) s m args below meth c 2 g X h 0 0 (MQ below (QW g X h s.heap.size (some (.int r)) h) args s 0 0 (AF X h s.heap.size)) 30 [] [] h := by
    intro hf
    unfold f_X4_codeAt_J30 at hf
    refine G.iconst (v := (-1)) C dX4_codeAt_30 (by decide) ?_
    refine G.sub C [] (lv' := []) rfl ?_
    exact hj31 _ hf
  refine G.sub C [0, 1] (lv' := [(0, .ref (a0)), (1, .int (a1))]) rfl ?_
  refine G.iload_n C 1 dX4_codeAt_0 rfl rfl ?_
  refine G.if_lt (tgt := 30) C dX4_codeAt_1 (by decide) hf (fun c8 hf => ?_) (fun c8 hf => ?_)
  · refine G.sub C [] (lv' := []) rfl ?_
    exact hj30  hf
  · refine G.iload_n C 1 dX4_codeAt_4 rfl rfl ?_
    refine G.aload_n C 0 dX4_codeAt_5 rfl rfl ?_
    refine G.getI (ci := 3) (k := 1) C rfl inlX4 (by decide) m9_64 rfl hf dX4_codeAt_6 (fun v1 hv1 hf => ?_)
    try dsimp only at hf
    refine G.icmp_ge (tgt := 30) C dX4_codeAt_9 (by decide) hf (fun c7 hf => ?_) (fun c7 hf => ?_)
    · refine G.sub C [] (lv' := []) rfl ?_
      exact hj30  hf
    · refine G.iload_n C 1 dX4_codeAt_12 rfl rfl ?_
      refine G.aload_n C 0 dX4_codeAt_13 rfl rfl ?_
      refine G.getR (ci := 3) (k := 0) C rfl inlX4 (by decide) m9_63 rfl hf dX4_codeAt_14 (fun v2 hv2 hf => ?_)
      try dsimp only at hf
      refine G.alen C hf dX4_codeAt_17 (fun v3 hv3 hf => ?_)
      try dsimp only at hf
      refine G.icmp_ge (tgt := 30) C dX4_codeAt_18 (by decide) hf (fun c6 hf => ?_) (fun c6 hf => ?_)
      · refine G.sub C [] (lv' := []) rfl ?_
        exact hj30  hf
      · refine G.aload_n C 0 dX4_codeAt_21 rfl rfl ?_
        refine G.getR (ci := 3) (k := 0) C rfl inlX4 (by decide) m9_63 rfl hf dX4_codeAt_22 (fun v4 hv4 hf => ?_)
        try dsimp only at hf
        refine G.iload_n C 1 dX4_codeAt_25 rfl rfl ?_
        refine G.iald C hf dX4_codeAt_26 (fun v5 hv5 hf => ?_)
        try dsimp only at hf
        refine G.goto (tgt := 31) C dX4_codeAt_27 (by decide) ?_
        refine G.sub C [] (lv' := []) rfl ?_
        exact hj31 _ hf
theorem kd_X4_isBetween : yX4_isBetween.cls ≠ "java/lang/invoke/MethodHandle" ∧ yX4_isBetween.cls ≠ "java/lang/invoke/VarHandle" ∧ (parseMethodDescriptor yX4_isBetween.desc).map (fun d => d.parameters.length) = some 3 := by decide +kernel
set_option maxRecDepth 20000 in
set_option maxHeartbeats 4000000 in
theorem ct_X4_isBetween {l : Launch} {h : PH} {a0 : Int32} {a1 : Int32} {a2 : Int32} {r : Int32} (hf : f_X4_isBetween h a0 a1 a2 = some r) : CT l yX4_isBetween cX4_isBetween 3 (some .boolean) 0 0 [.int (a0), .int (a1), .int (a2)] h (some (.int r)) h := by
  refine CT.of (own := RX4) rfl (by decide) (Nat.le_of_ble_eq_true rfl) ?_
  intro p e R s m args below meth c g X hR C
  subst hR
  unfold f_X4_isBetween at hf
  have hj15 : ∀ (k0 : Int32), f_X4_isBetween_J15 h k0 = some r → G p l e ({ frames := 0, cells := 0, slots := 0, locals := 0 } : Room) s m args below meth c 3 g X h 0 0 (MQ below (QW g X h s.heap.size (some (.int r)) h) args s 0 0 (AF X h s.heap.size)) 15 [] [.int (k0)] h := by
    intro k0 hf
    unfold f_X4_isBetween_J15 at hf
    obtain ⟨c2, hf⟩ := gd_ok hf
    cases hf
    exact G.zret C rfl (z01_n c2) dX4_isBetween_15
  have hj14 : f_X4_isBetween_J14 h = some r → G p l e ({ frames := 0, cells := 0, slots := 0, locals := 0 } : Room) s m args below meth c 3 g X h 0 0 (MQ below (QW g X h s.heap.size (some (.int r)) h) args s 0 0 (AF X h s.heap.size)) 14 [] [] h := by
    intro hf
    unfold f_X4_isBetween_J14 at hf
    refine G.iconst (v := 0) C dX4_isBetween_14 (by decide) ?_
    refine G.sub C [] (lv' := []) rfl ?_
    exact hj15 _ hf
  refine G.sub C [0, 1, 2] (lv' := [(0, .int (a0)), (1, .int (a1)), (2, .int (a2))]) rfl ?_
  refine G.iload_n C 0 dX4_isBetween_0 rfl rfl ?_
  refine G.iload_n C 1 dX4_isBetween_1 rfl rfl ?_
  refine G.icmp_lt (tgt := 14) C dX4_isBetween_2 (by decide) hf (fun c2 hf => ?_) (fun c2 hf => ?_)
  · refine G.sub C [] (lv' := []) rfl ?_
    exact hj14  hf
  · refine G.iload_n C 0 dX4_isBetween_5 rfl rfl ?_
    refine G.iload_n C 2 dX4_isBetween_6 rfl rfl ?_
    refine G.icmp_gt (tgt := 14) C dX4_isBetween_7 (by decide) hf (fun c1 hf => ?_) (fun c1 hf => ?_)
    · refine G.sub C [] (lv' := []) rfl ?_
      exact hj14  hf
    · refine G.iconst (v := 1) C dX4_isBetween_10 (by decide) ?_
      refine G.goto (tgt := 15) C dX4_isBetween_11 (by decide) ?_
      refine G.sub C [] (lv' := []) rfl ?_
      exact hj15 _ hf
theorem kd_X4_isHue : yX4_isHue.cls ≠ "java/lang/invoke/MethodHandle" ∧ yX4_isHue.cls ≠ "java/lang/invoke/VarHandle" ∧ (parseMethodDescriptor yX4_isHue.desc).map (fun d => d.parameters.length) = some 1 := by decide +kernel
set_option maxRecDepth 20000 in
set_option maxHeartbeats 4000000 in
theorem ct_X4_isHue {l : Launch} {h : PH} {a0 : Int32} {r : Int32} (hf : f_X4_isHue h a0 = some r) : CT l yX4_isHue cX4_isHue 1 (some .boolean) 1 22 [.int (a0)] h (some (.int r)) h := by
  refine CT.of (own := RX4) rfl (by decide) (Nat.le_of_ble_eq_true rfl) ?_
  intro p e R s m args below meth c g X hR C
  subst hR
  unfold f_X4_isHue at hf
  refine G.sub C [0] (lv' := [(0, .int (a0))]) rfl ?_
  refine G.iload_n C 0 dX4_isHue_0 rfl rfl ?_
  refine G.bipush (v := 97) C dX4_isHue_1 (by decide) ?_
  refine G.bipush (v := 104) C dX4_isHue_3 (by decide) ?_
  obtain ⟨v1, hv1, hf⟩ := bind_some hf
  try dsimp only at hf
  refine G.callS C (st := []) (st2 := [.int (v1)]) (ct_X4_isBetween hv1) m9_559 m9_560 m9_24 m9_561 kd_X4_isBetween ⟨Nat.le_of_ble_eq_true rfl, Nat.le_of_ble_eq_true rfl⟩ ⟨Nat.zero_le _, Nat.zero_le _⟩ (Nat.le_of_ble_eq_true rfl) rfl rfl dX4_isHue_5 ?_
  obtain ⟨c2, hf⟩ := gd_ok hf
  cases hf
  exact G.zret C rfl (z01_n c2) dX4_isHue_8
theorem kd_X4_dueBehindFirst : yX4_dueBehindFirst.cls ≠ "java/lang/invoke/MethodHandle" ∧ yX4_dueBehindFirst.cls ≠ "java/lang/invoke/VarHandle" ∧ (parseMethodDescriptor yX4_dueBehindFirst.desc).map (fun d => d.parameters.length) = some 1 := by decide +kernel
set_option maxRecDepth 20000 in
set_option maxHeartbeats 4000000 in
theorem ct_X4_dueBehindFirst {l : Launch} {h : PH} {a0 : Int32} {r : Int32} (hf : f_X4_dueBehindFirst h a0 = some r) : CT l yX4_dueBehindFirst cX4_dueBehindFirst 1 (some .int) 2 42 [.int (a0)] h (some (.int r)) h := by
  refine CT.of (own := RX4) rfl (by decide) (Nat.le_of_ble_eq_true rfl) ?_
  intro p e R s m args below meth c g X hR C
  subst hR
  unfold f_X4_dueBehindFirst at hf
  refine G.sub C [0] (lv' := [(0, .int (a0))]) rfl ?_
  refine G.iload_n C 0 dX4_dueBehindFirst_0 rfl rfl ?_
  obtain ⟨v1, hv1, hf⟩ := bind_some hf
  try dsimp only at hf
  refine G.callS C (st := []) (st2 := [.int (v1)]) (ct_X4_isHue hv1) m9_556 m9_557 m9_24 m9_558 kd_X4_isHue ⟨Nat.le_of_ble_eq_true rfl, Nat.le_of_ble_eq_true rfl⟩ ⟨Nat.zero_le _, Nat.zero_le _⟩ (Nat.le_of_ble_eq_true rfl) rfl rfl dX4_dueBehindFirst_1 ?_
  refine G.if_eq (tgt := 9) C dX4_dueBehindFirst_4 (by decide) hf (fun c5 hf => ?_) (fun c5 hf => ?_)
  · refine G.iload_n C 0 dX4_dueBehindFirst_9 rfl rfl ?_
    by_cases c2 : a0 = 45
    · rw [if_pos c2] at hf
      refine G.lsw (off := 36) (tgt := 46) C dX4_dueBehindFirst_10 (by decide) (by rw [c2]; rfl) (by decide) ?_
      refine G.iconst (v := 3) C dX4_dueBehindFirst_46 (by decide) ?_
      cases hf
      exact G.iret C rfl dX4_dueBehindFirst_47
    · rw [if_neg c2] at hf
      by_cases c3 : a0 = 60
      · rw [if_pos c3] at hf
        refine G.lsw (off := 38) (tgt := 48) C dX4_dueBehindFirst_10 (by decide) (by rw [c3]; rfl) (by decide) ?_
        refine G.bipush (v := 6) C dX4_dueBehindFirst_48 (by decide) ?_
        cases hf
        exact G.iret C rfl dX4_dueBehindFirst_50
      · rw [if_neg c3] at hf
        by_cases c4 : a0 = 114
        · rw [if_pos c4] at hf
          refine G.lsw (off := 34) (tgt := 44) C dX4_dueBehindFirst_10 (by decide) (by rw [c4]; rfl) (by decide) ?_
          refine G.iconst (v := 1) C dX4_dueBehindFirst_44 (by decide) ?_
          cases hf
          exact G.iret C rfl dX4_dueBehindFirst_45
        · rw [if_neg c4] at hf
          refine G.lsw (off := 41) (tgt := 51) C dX4_dueBehindFirst_10 (by decide) (by show Op.lookupswitch.offset [(45, 36), (60, 38), (114, 34)] 41 _ = _; rw [lv_osw (a := 45) c2 (by decide), lv_osw (a := 60) c3 (by decide), lv_osw (a := 114) c4 (by decide)]; rfl) (by decide) ?_
          refine G.bipush (v := 7) C dX4_dueBehindFirst_51 (by decide) ?_
          cases hf
          exact G.iret C rfl dX4_dueBehindFirst_53
  · refine G.iconst (v := 2) C dX4_dueBehindFirst_7 (by decide) ?_
    cases hf
    exact G.iret C rfl dX4_dueBehindFirst_8
theorem kd_X4_dueBehindLengthDigit : yX4_dueBehindLengthDigit.cls ≠ "java/lang/invoke/MethodHandle" ∧ yX4_dueBehindLengthDigit.cls ≠ "java/lang/invoke/VarHandle" ∧ (parseMethodDescriptor yX4_dueBehindLengthDigit.desc).map (fun d => d.parameters.length) = some 1 := by decide +kernel
set_option maxRecDepth 20000 in
set_option maxHeartbeats 4000000 in
theorem ct_X4_dueBehindLengthDigit {l : Launch} {h : PH} {a0 : Int32} {r : Int32} (hf : f_X4_dueBehindLengthDigit h a0 = some r) : CT l yX4_dueBehindLengthDigit cX4_dueBehindLengthDigit 1 (some .int) 1 22 [.int (a0)] h (some (.int r)) h := by
  refine CT.of (own := RX4) rfl (by decide) (Nat.le_of_ble_eq_true rfl) ?_
  intro p e R s m args below meth c g X hR C
  subst hR
  unfold f_X4_dueBehindLengthDigit at hf
  have hj39 : ∀ (k0 : Int32), f_X4_dueBehindLengthDigit_J39 h k0 = some r → G p l e ({ frames := 1, cells := 0, slots := 0, locals := 22 } : Room) s m args below meth c 1 g X h 0 0 (MQ below (QW g X h s.heap.size (some (.int r)) h) args s 0 0 (AF X h s.heap.size)) 39 [] [.int (k0)] h := by
    intro k0 hf
    unfold f_X4_dueBehindLengthDigit_J39 at hf
    cases hf
    exact G.iret C rfl dX4_dueBehindLengthDigit_39
  refine G.sub C [0] (lv' := [(0, .int (a0))]) rfl ?_
  refine G.iload_n C 0 dX4_dueBehindLengthDigit_0 rfl rfl ?_
  refine G.bipush (v := 54) C dX4_dueBehindLengthDigit_1 (by decide) ?_
  refine G.icmp_ne (tgt := 8) C dX4_dueBehindLengthDigit_3 (by decide) hf (fun c5 hf => ?_) (fun c5 hf => ?_)
  · refine G.iload_n C 0 dX4_dueBehindLengthDigit_8 rfl rfl ?_
    refine G.bipush (v := 49) C dX4_dueBehindLengthDigit_9 (by decide) ?_
    refine G.bipush (v := 53) C dX4_dueBehindLengthDigit_11 (by decide) ?_
    obtain ⟨v1, hv1, hf⟩ := bind_some hf
    try dsimp only at hf
    refine G.callS C (st := []) (st2 := [.int (v1)]) (ct_X4_isBetween hv1) m9_559 m9_560 m9_24 m9_561 kd_X4_isBetween ⟨Nat.le_of_ble_eq_true rfl, Nat.le_of_ble_eq_true rfl⟩ ⟨Nat.zero_le _, Nat.zero_le _⟩ (Nat.le_of_ble_eq_true rfl) rfl rfl dX4_dueBehindLengthDigit_13 ?_
    refine G.if_eq (tgt := 21) C dX4_dueBehindLengthDigit_16 (by decide) hf (fun c4 hf => ?_) (fun c4 hf => ?_)
    · refine G.iload_n C 0 dX4_dueBehindLengthDigit_21 rfl rfl ?_
      refine G.bipush (v := 55) C dX4_dueBehindLengthDigit_22 (by decide) ?_
      refine G.bipush (v := 57) C dX4_dueBehindLengthDigit_24 (by decide) ?_
      obtain ⟨v2, hv2, hf⟩ := bind_some hf
      try dsimp only at hf
      refine G.callS C (st := []) (st2 := [.int (v2)]) (ct_X4_isBetween hv2) m9_559 m9_560 m9_24 m9_561 kd_X4_isBetween ⟨Nat.le_of_ble_eq_true rfl, Nat.le_of_ble_eq_true rfl⟩ ⟨Nat.zero_le _, Nat.zero_le _⟩ (Nat.le_of_ble_eq_true rfl) rfl rfl dX4_dueBehindLengthDigit_26 ?_
      refine G.if_eq (tgt := 37) C dX4_dueBehindLengthDigit_29 (by decide) hf (fun c3 hf => ?_) (fun c3 hf => ?_)
      · refine G.bipush (v := 7) C dX4_dueBehindLengthDigit_37 (by decide) ?_
        refine G.sub C [] (lv' := []) rfl ?_
        exact hj39 _ hf
      · refine G.bipush (v := 6) C dX4_dueBehindLengthDigit_32 (by decide) ?_
        refine G.goto (tgt := 39) C dX4_dueBehindLengthDigit_34 (by decide) ?_
        refine G.sub C [] (lv' := []) rfl ?_
        exact hj39 _ hf
    · refine G.iconst (v := 4) C dX4_dueBehindLengthDigit_19 (by decide) ?_
      cases hf
      exact G.iret C rfl dX4_dueBehindLengthDigit_20
  · refine G.iconst (v := 5) C dX4_dueBehindLengthDigit_6 (by decide) ?_
    cases hf
    exact G.iret C rfl dX4_dueBehindLengthDigit_7
theorem kd_X4_dueBehindPhaseDigit : yX4_dueBehindPhaseDigit.cls ≠ "java/lang/invoke/MethodHandle" ∧ yX4_dueBehindPhaseDigit.cls ≠ "java/lang/invoke/VarHandle" ∧ (parseMethodDescriptor yX4_dueBehindPhaseDigit.desc).map (fun d => d.parameters.length) = some 1 := by decide +kernel
set_option maxRecDepth 20000 in
set_option maxHeartbeats 4000000 in
theorem ct_X4_dueBehindPhaseDigit {l : Launch} {h : PH} {a0 : Int32} {r : Int32} (hf : f_X4_dueBehindPhaseDigit h a0 = some r) : CT l yX4_dueBehindPhaseDigit cX4_dueBehindPhaseDigit 1 (some .int) 1 22 [.int (a0)] h (some (.int r)) h := by
  refine CT.of (own := RX4) rfl (by decide) (Nat.le_of_ble_eq_true rfl) ?_
  intro p e R s m args below meth c g X hR C
  subst hR
  unfold f_X4_dueBehindPhaseDigit at hf
  have hj26 : ∀ (k0 : Int32), f_X4_dueBehindPhaseDigit_J26 h k0 = some r → G p l e ({ frames := 1, cells := 0, slots := 0, locals := 22 } : Room) s m args below meth c 1 g X h 0 0 (MQ below (QW g X h s.heap.size (some (.int r)) h) args s 0 0 (AF X h s.heap.size)) 26 [] [.int (k0)] h := by
    intro k0 hf
    unfold f_X4_dueBehindPhaseDigit_J26 at hf
    cases hf
    exact G.iret C rfl dX4_dueBehindPhaseDigit_26
  refine G.sub C [0] (lv' := [(0, .int (a0))]) rfl ?_
  refine G.iload_n C 0 dX4_dueBehindPhaseDigit_0 rfl rfl ?_
  refine G.bipush (v := 49) C dX4_dueBehindPhaseDigit_1 (by decide) ?_
  refine G.icmp_ne (tgt := 8) C dX4_dueBehindPhaseDigit_3 (by decide) hf (fun c3 hf => ?_) (fun c3 hf => ?_)
  · refine G.iload_n C 0 dX4_dueBehindPhaseDigit_8 rfl rfl ?_
    refine G.bipush (v := 48) C dX4_dueBehindPhaseDigit_9 (by decide) ?_
    refine G.bipush (v := 57) C dX4_dueBehindPhaseDigit_11 (by decide) ?_
    obtain ⟨v1, hv1, hf⟩ := bind_some hf
    try dsimp only at hf
    refine G.callS C (st := []) (st2 := [.int (v1)]) (ct_X4_isBetween hv1) m9_559 m9_560 m9_24 m9_561 kd_X4_isBetween ⟨Nat.le_of_ble_eq_true rfl, Nat.le_of_ble_eq_true rfl⟩ ⟨Nat.zero_le _, Nat.zero_le _⟩ (Nat.le_of_ble_eq_true rfl) rfl rfl dX4_dueBehindPhaseDigit_13 ?_
    refine G.if_eq (tgt := 24) C dX4_dueBehindPhaseDigit_16 (by decide) hf (fun c2 hf => ?_) (fun c2 hf => ?_)
    · refine G.bipush (v := 7) C dX4_dueBehindPhaseDigit_24 (by decide) ?_
      refine G.sub C [] (lv' := []) rfl ?_
      exact hj26 _ hf
    · refine G.bipush (v := 6) C dX4_dueBehindPhaseDigit_19 (by decide) ?_
      refine G.goto (tgt := 26) C dX4_dueBehindPhaseDigit_21 (by decide) ?_
      refine G.sub C [] (lv' := []) rfl ?_
      exact hj26 _ hf
  · refine G.iconst (v := 4) C dX4_dueBehindPhaseDigit_6 (by decide) ?_
    cases hf
    exact G.iret C rfl dX4_dueBehindPhaseDigit_7
theorem kd_X4_dueBehindComma : yX4_dueBehindComma.cls ≠ "java/lang/invoke/MethodHandle" ∧ yX4_dueBehindComma.cls ≠ "java/lang/invoke/VarHandle" ∧ (parseMethodDescriptor yX4_dueBehindComma.desc).map (fun d => d.parameters.length) = some 1 := by decide +kernel
set_option maxRecDepth 20000 in
set_option maxHeartbeats 4000000 in
theorem ct_X4_dueBehindComma {l : Launch} {h : PH} {a0 : Int32} {r : Int32} (hf : f_X4_dueBehindComma h a0 = some r) : CT l yX4_dueBehindComma cX4_dueBehindComma 1 (some .int) 0 0 [.int (a0)] h (some (.int r)) h := by
  refine CT.of (own := RX4) rfl (by decide) (Nat.le_of_ble_eq_true rfl) ?_
  intro p e R s m args below meth c g X hR C
  subst hR
  unfold f_X4_dueBehindComma at hf
  have hj12 : ∀ (k0 : Int32), f_X4_dueBehindComma_J12 h k0 = some r → G p l e ({ frames := 0, cells := 0, slots := 0, locals := 0 } : Room) s m args below meth c 1 g X h 0 0 (MQ below (QW g X h s.heap.size (some (.int r)) h) args s 0 0 (AF X h s.heap.size)) 12 [] [.int (k0)] h := by
    intro k0 hf
    unfold f_X4_dueBehindComma_J12 at hf
    cases hf
    exact G.iret C rfl dX4_dueBehindComma_12
  refine G.sub C [0] (lv' := [(0, .int (a0))]) rfl ?_
  refine G.iload_n C 0 dX4_dueBehindComma_0 rfl rfl ?_
  refine G.bipush (v := 44) C dX4_dueBehindComma_1 (by decide) ?_
  refine G.icmp_ne (tgt := 10) C dX4_dueBehindComma_3 (by decide) hf (fun c1 hf => ?_) (fun c1 hf => ?_)
  · refine G.bipush (v := 7) C dX4_dueBehindComma_10 (by decide) ?_
    refine G.sub C [] (lv' := []) rfl ?_
    exact hj12 _ hf
  · refine G.iconst (v := 0) C dX4_dueBehindComma_6 (by decide) ?_
    refine G.goto (tgt := 12) C dX4_dueBehindComma_7 (by decide) ?_
    refine G.sub C [] (lv' := []) rfl ?_
    exact hj12 _ hf
theorem kd_X4_dueBehind : yX4_dueBehind.cls ≠ "java/lang/invoke/MethodHandle" ∧ yX4_dueBehind.cls ≠ "java/lang/invoke/VarHandle" ∧ (parseMethodDescriptor yX4_dueBehind.desc).map (fun d => d.parameters.length) = some 2 := by decide +kernel
set_option maxRecDepth 20000 in
set_option maxHeartbeats 4000000 in
theorem ct_X4_dueBehind {l : Launch} {h : PH} {a0 : Int32} {a1 : Int32} {r : Int32} (hf : f_X4_dueBehind h a0 a1 = some r) : CT l yX4_dueBehind cX4_dueBehind 2 (some .int) 3 62 [.int (a0), .int (a1)] h (some (.int r)) h := by
  refine CT.of (own := RX4) rfl (by decide) (Nat.le_of_ble_eq_true rfl) ?_
  intro p e R s m args below meth c g X hR C
  subst hR
  unfold f_X4_dueBehind at hf
  have hj73 : ∀ (k0 : Int32), f_X4_dueBehind_J73 h k0 = some r → G p l e ({ frames := 3, cells := 0, slots := 0, locals := 62 } : Room) s m args below meth c 2 g X h 0 0 (MQ below (QW g X h s.heap.size (some (.int r)) h) args s 0 0 (AF X h s.heap.size)) 73 [] [.int (k0)] h := by
    intro k0 hf
    unfold f_X4_dueBehind_J73 at hf
    cases hf
    exact G.iret C rfl dX4_dueBehind_73
  have hj94 : ∀ (k0 : Int32), f_X4_dueBehind_J94 h k0 = some r → G p l e ({ frames := 3, cells := 0, slots := 0, locals := 62 } : Room) s m args below meth c 2 g X h 0 0 (MQ below (QW g X h s.heap.size (some (.int r)) h) args s 0 0 (AF X h s.heap.size)) 94 [] [.int (k0)] h := by
    intro k0 hf
    unfold f_X4_dueBehind_J94 at hf
    cases hf
    exact G.iret C rfl dX4_dueBehind_94
  have hj110 : ∀ (k0 : Int32), f_X4_dueBehind_J110 h k0 = some r → G p l e ({ frames := 3, cells := 0, slots := 0, locals := 62 } : Room) s m args below meth c 2 g X h 0 0 (MQ below (QW g X h s.heap.size (some (.int r)) h) args s 0 0 (AF X h s.heap.size)) 110 [] [.int (k0)] h := by
    intro k0 hf
    unfold f_X4_dueBehind_J110 at hf
    cases hf
    exact G.iret C rfl dX4_dueBehind_110
  refine G.sub C [0, 1] (lv' := [(0, .int (a0)), (1, .int (a1))]) rfl ?_
  refine G.iload_n C 0 dX4_dueBehind_0 rfl rfl ?_
  by_cases c1 : a0 = 0
  · rw [if_pos c1] at hf
    refine G.tswIn (tgt := 44) (off := 43) C c1 dX4_dueBehind_1 (by decide) (by decide) rfl (by decide) ?_
    refine G.iload_n C 1 dX4_dueBehind_44 rfl rfl ?_
    obtain ⟨v2, hv2, hf⟩ := bind_some hf
    try dsimp only at hf
    refine G.callS C (st := []) (st2 := [.int (v2)]) (ct_X4_dueBehindFirst hv2) m9_553 m9_554 m9_24 m9_555 kd_X4_dueBehindFirst ⟨Nat.le_of_ble_eq_true rfl, Nat.le_of_ble_eq_true rfl⟩ ⟨Nat.zero_le _, Nat.zero_le _⟩ (Nat.le_of_ble_eq_true rfl) rfl rfl dX4_dueBehind_45 ?_
    cases hf
    exact G.iret C rfl dX4_dueBehind_48
  · rw [if_neg c1] at hf
    by_cases c3 : a0 = 1
    · rw [if_pos c3] at hf
      refine G.tswIn (tgt := 49) (off := 48) C c3 dX4_dueBehind_1 (by decide) (by decide) rfl (by decide) ?_
      refine G.iload_n C 1 dX4_dueBehind_49 rfl rfl ?_
      obtain ⟨v4, hv4, hf⟩ := bind_some hf
      try dsimp only at hf
      refine G.callS C (st := []) (st2 := [.int (v4)]) (ct_X4_dueBehindLengthDigit hv4) m9_562 m9_563 m9_24 m9_564 kd_X4_dueBehindLengthDigit ⟨Nat.le_of_ble_eq_true rfl, Nat.le_of_ble_eq_true rfl⟩ ⟨Nat.zero_le _, Nat.zero_le _⟩ (Nat.le_of_ble_eq_true rfl) rfl rfl dX4_dueBehind_50 ?_
      cases hf
      exact G.iret C rfl dX4_dueBehind_53
    · rw [if_neg c3] at hf
      by_cases c5 : a0 = 2
      · rw [if_pos c5] at hf
        refine G.tswIn (tgt := 54) (off := 53) C c5 dX4_dueBehind_1 (by decide) (by decide) rfl (by decide) ?_
        refine G.iload_n C 1 dX4_dueBehind_54 rfl rfl ?_
        obtain ⟨v6, hv6, hf⟩ := bind_some hf
        try dsimp only at hf
        refine G.callS C (st := []) (st2 := [.int (v6)]) (ct_X4_dueBehindPhaseDigit hv6) m9_565 m9_566 m9_24 m9_567 kd_X4_dueBehindPhaseDigit ⟨Nat.le_of_ble_eq_true rfl, Nat.le_of_ble_eq_true rfl⟩ ⟨Nat.zero_le _, Nat.zero_le _⟩ (Nat.le_of_ble_eq_true rfl) rfl rfl dX4_dueBehind_55 ?_
        cases hf
        exact G.iret C rfl dX4_dueBehind_58
      · rw [if_neg c5] at hf
        by_cases c7 : a0 = 3
        · rw [if_pos c7] at hf
          refine G.tswIn (tgt := 59) (off := 58) C c7 dX4_dueBehind_1 (by decide) (by decide) rfl (by decide) ?_
          refine G.iload_n C 1 dX4_dueBehind_59 rfl rfl ?_
          obtain ⟨v8, hv8, hf⟩ := bind_some hf
          try dsimp only at hf
          refine G.callS C (st := []) (st2 := [.int (v8)]) (ct_X4_isHue hv8) m9_556 m9_557 m9_24 m9_558 kd_X4_isHue ⟨Nat.le_of_ble_eq_true rfl, Nat.le_of_ble_eq_true rfl⟩ ⟨Nat.zero_le _, Nat.zero_le _⟩ (Nat.le_of_ble_eq_true rfl) rfl rfl dX4_dueBehind_60 ?_
          refine G.if_eq (tgt := 71) C dX4_dueBehind_63 (by decide) hf (fun c9 hf => ?_) (fun c9 hf => ?_)
          · refine G.bipush (v := 7) C dX4_dueBehind_71 (by decide) ?_
            refine G.sub C [] (lv' := []) rfl ?_
            exact hj73 _ hf
          · refine G.bipush (v := 6) C dX4_dueBehind_66 (by decide) ?_
            refine G.goto (tgt := 73) C dX4_dueBehind_68 (by decide) ?_
            refine G.sub C [] (lv' := []) rfl ?_
            exact hj73 _ hf
        · rw [if_neg c7] at hf
          by_cases c10 : a0 = 4
          · rw [if_pos c10] at hf
            refine G.tswIn (tgt := 74) (off := 73) C c10 dX4_dueBehind_1 (by decide) (by decide) rfl (by decide) ?_
            refine G.iload_n C 1 dX4_dueBehind_74 rfl rfl ?_
            refine G.bipush (v := 48) C dX4_dueBehind_75 (by decide) ?_
            refine G.bipush (v := 57) C dX4_dueBehind_77 (by decide) ?_
            obtain ⟨v11, hv11, hf⟩ := bind_some hf
            try dsimp only at hf
            refine G.callS C (st := []) (st2 := [.int (v11)]) (ct_X4_isBetween hv11) m9_559 m9_560 m9_24 m9_561 kd_X4_isBetween ⟨Nat.le_of_ble_eq_true rfl, Nat.le_of_ble_eq_true rfl⟩ ⟨Nat.zero_le _, Nat.zero_le _⟩ (Nat.le_of_ble_eq_true rfl) rfl rfl dX4_dueBehind_79 ?_
            refine G.if_eq (tgt := 90) C dX4_dueBehind_82 (by decide) hf (fun c13 hf => ?_) (fun c13 hf => ?_)
            · refine G.iload_n C 1 dX4_dueBehind_90 rfl rfl ?_
              obtain ⟨v12, hv12, hf⟩ := bind_some hf
              try dsimp only at hf
              refine G.callS C (st := []) (st2 := [.int (v12)]) (ct_X4_dueBehindComma hv12) m9_568 m9_569 m9_24 m9_570 kd_X4_dueBehindComma ⟨Nat.le_of_ble_eq_true rfl, Nat.le_of_ble_eq_true rfl⟩ ⟨Nat.zero_le _, Nat.zero_le _⟩ (Nat.le_of_ble_eq_true rfl) rfl rfl dX4_dueBehind_91 ?_
              refine G.sub C [] (lv' := []) rfl ?_
              exact hj94 _ hf
            · refine G.bipush (v := 6) C dX4_dueBehind_85 (by decide) ?_
              refine G.goto (tgt := 94) C dX4_dueBehind_87 (by decide) ?_
              refine G.sub C [] (lv' := []) rfl ?_
              exact hj94 _ hf
          · rw [if_neg c10] at hf
            by_cases c14 : a0 = 5
            · rw [if_pos c14] at hf
              refine G.tswIn (tgt := 95) (off := 94) C c14 dX4_dueBehind_1 (by decide) (by decide) rfl (by decide) ?_
              refine G.iload_n C 1 dX4_dueBehind_95 rfl rfl ?_
              refine G.bipush (v := 48) C dX4_dueBehind_96 (by decide) ?_
              refine G.icmp_ne (tgt := 106) C dX4_dueBehind_98 (by decide) hf (fun c16 hf => ?_) (fun c16 hf => ?_)
              · refine G.iload_n C 1 dX4_dueBehind_106 rfl rfl ?_
                obtain ⟨v15, hv15, hf⟩ := bind_some hf
                try dsimp only at hf
                refine G.callS C (st := []) (st2 := [.int (v15)]) (ct_X4_dueBehindComma hv15) m9_568 m9_569 m9_24 m9_570 kd_X4_dueBehindComma ⟨Nat.le_of_ble_eq_true rfl, Nat.le_of_ble_eq_true rfl⟩ ⟨Nat.zero_le _, Nat.zero_le _⟩ (Nat.le_of_ble_eq_true rfl) rfl rfl dX4_dueBehind_107 ?_
                refine G.sub C [] (lv' := []) rfl ?_
                exact hj110 _ hf
              · refine G.bipush (v := 6) C dX4_dueBehind_101 (by decide) ?_
                refine G.goto (tgt := 110) C dX4_dueBehind_103 (by decide) ?_
                refine G.sub C [] (lv' := []) rfl ?_
                exact hj110 _ hf
            · rw [if_neg c14] at hf
              by_cases c17 : a0 = 6
              · rw [if_pos c17] at hf
                refine G.tswIn (tgt := 111) (off := 110) C c17 dX4_dueBehind_1 (by decide) (by decide) rfl (by decide) ?_
                refine G.iload_n C 1 dX4_dueBehind_111 rfl rfl ?_
                obtain ⟨v18, hv18, hf⟩ := bind_some hf
                try dsimp only at hf
                refine G.callS C (st := []) (st2 := [.int (v18)]) (ct_X4_dueBehindComma hv18) m9_568 m9_569 m9_24 m9_570 kd_X4_dueBehindComma ⟨Nat.le_of_ble_eq_true rfl, Nat.le_of_ble_eq_true rfl⟩ ⟨Nat.zero_le _, Nat.zero_le _⟩ (Nat.le_of_ble_eq_true rfl) rfl rfl dX4_dueBehind_112 ?_
                cases hf
                exact G.iret C rfl dX4_dueBehind_115
              · rw [if_neg c17] at hf
                refine G.tswOut (tgt := 116) C dX4_dueBehind_1 (by have q0 := lv_neT (a := 0) c1 (by decide); have q1 := lv_neT (a := 1) c3 (by decide); have q2 := lv_neT (a := 2) c5 (by decide); have q3 := lv_neT (a := 3) c7 (by decide); have q4 := lv_neT (a := 4) c10 (by decide); have q5 := lv_neT (a := 5) c14 (by decide); have q6 := lv_neT (a := 6) c17 (by decide); omega) (by decide) ?_
                refine G.bipush (v := 7) C dX4_dueBehind_116 (by decide) ?_
                cases hf
                exact G.iret C rfl dX4_dueBehind_118
theorem ko_X4_firstWrong {h : PH} {a0 : Nat} {r : Int32} (hf : f_X4_firstWrong h a0 = some r) : kO h a0 3 := by
  unfold f_X4_firstWrong at hf
  exact okO_k (gd_ok hf).1
theorem kd_X4_firstWrong : yX4_firstWrong.cls = RX4 ∧ yX4_firstWrong.cls ≠ "java/lang/invoke/MethodHandle" ∧ yX4_firstWrong.cls ≠ "java/lang/invoke/VarHandle" ∧ (parseMethodDescriptor yX4_firstWrong.desc).map (fun d => d.parameters.length) = some 0 := by decide +kernel
set_option maxRecDepth 20000 in
set_option maxHeartbeats 4000000 in
theorem ct_X4_firstWrong {l : Launch} {h : PH} {a0 : Nat} {r : Int32} (hf : f_X4_firstWrong h a0 = some r) : CT l yX4_firstWrong cX4_firstWrong 3 (some .int) 4 83 [.ref (a0)] h (some (.int r)) h := by
  refine CT.of (own := RX4) rfl (by decide) (Nat.le_of_ble_eq_true rfl) ?_
  intro p e R s m args below meth c g X hR C
  subst hR
  unfold f_X4_firstWrong at hf
  obtain ⟨hok, hf⟩ := gd_ok hf
  have hj28 : ∀ (x2 : Int32), f_X4_firstWrong_J28 h (x2) = some r → G p l e ({ frames := 4, cells := 0, slots := 0, locals := 83 } : Room) s m args below meth c 3 g X h 0 0 (MQ below (QW g X h s.heap.size (some (.int r)) h) args s 0 0 (AF X h s.heap.size)) 28 [(2, .int (x2))] [] h := by
    intro x2 hf
    unfold f_X4_firstWrong_J28 at hf
    refine G.iload_n C 0 dX4_firstWrong_28 rfl rfl ?_
    cases hf
    exact G.iret C rfl dX4_firstWrong_29
  have hj36 : ∀ (x0 : Nat), f_X4_firstWrong_J36 h (x0) = some r → G p l e ({ frames := 4, cells := 0, slots := 0, locals := 83 } : Room) s m args below meth c 3 g X h 0 0 (MQ below (QW g X h s.heap.size (some (.int r)) h) args s 0 0 (AF X h s.heap.size)) 36 [(0, .ref (x0))] [] h := by
    intro x0 hf
    unfold f_X4_firstWrong_J36 at hf
    refine G.aload_n C 0 dX4_firstWrong_36 rfl rfl ?_
    refine G.getI (ci := 3) (k := 1) C rfl inlX4 (by decide) m9_64 rfl hf dX4_firstWrong_37 (fun v6 hv6 hf => ?_)
    try dsimp only at hf
    cases hf
    exact G.iret C rfl dX4_firstWrong_40
  refine G.sub C [0] (lv' := [(0, .ref (a0))]) rfl ?_
  refine G.iconst (v := 0) C dX4_firstWrong_0 (by decide) ?_
  refine G.istore_n (lv' := [(1, .int ((0 : Int32))), (0, .ref (a0))]) C dX4_firstWrong_1 rfl (by decide) rfl ?_
  refine G.iconst (v := 0) C dX4_firstWrong_2 (by decide) ?_
  refine G.istore_n (lv' := [(2, .int ((0 : Int32))), (1, .int ((0 : Int32))), (0, .ref (a0))]) C dX4_firstWrong_3 rfl (by decide) rfl ?_
  obtain ⟨z1, hlp1, hfo1⟩ := bind_some hf
  clear hf
  have hloop1 : ∀ (k : Nat), ∀ (x1 : Int32) (x2 : Int32), (lpn (f_X4_firstWrong_L4 (h) (a0)) k (x1, x2)) = some z1 → G p l e ({ frames := 4, cells := 0, slots := 0, locals := 83 } : Room) s m args below meth c 3 g X h 0 0 (MQ below (QW g X h s.heap.size (some (.int r)) h) args s 0 0 (AF X h s.heap.size)) 4 [(0, .ref (a0)), (1, .int (x1)), (2, .int (x2))] [] h := by
    intro k
    induction k with
    | zero => intro x1 x2 hlp1; exact (lpn_0 hlp1).elim
    | succ k ih1 =>
      intro x1 x2 hlp1
      obtain ⟨y1, hf, hlp1⟩ := lpn_s hlp1
      unfold f_X4_firstWrong_L4 at hf
      try dsimp only at hf
      refine G.iload_n C 2 dX4_firstWrong_4 rfl rfl ?_
      refine G.aload_n C 0 dX4_firstWrong_5 rfl rfl ?_
      refine G.getI (ci := 3) (k := 1) C rfl inlX4 (by decide) m9_64 rfl hf dX4_firstWrong_6 (fun v2 hv2 hf => ?_)
      try dsimp only at hf
      refine G.icmp_ge (tgt := 36) C dX4_firstWrong_9 (by decide) hf (fun c6 hf => ?_) (fun c6 hf => ?_)
      · cases hf
        change some _ = some _ at hlp1
        have hf := hfo1
        try rw [← Option.some.inj hlp1] at hf
        try dsimp only at hf
        refine G.sub C [0] (lv' := [(0, .ref (a0))]) rfl ?_
        exact hj36 _ hf
      · refine G.iload_n C 1 dX4_firstWrong_12 rfl rfl ?_
        refine G.aload_n C 0 dX4_firstWrong_13 rfl rfl ?_
        refine G.iload_n C 2 dX4_firstWrong_14 rfl rfl ?_
        obtain ⟨v3, hv3, hf⟩ := bind_some hf
        try dsimp only at hf
        refine G.callV C (st := [.int (x1)]) (st2 := [.int (v3), .int (x1)]) (ct_X4_codeAt hv3) (ko_X4_codeAt hv3) rfl m9_546 m9_547 m9_548 m9_24 m9_549 kd_X4_codeAt ⟨Nat.le_of_ble_eq_true rfl, Nat.le_of_ble_eq_true rfl⟩ ⟨Nat.zero_le _, Nat.zero_le _⟩ (Nat.le_of_ble_eq_true rfl) rfl rfl dX4_firstWrong_15 ?_
        obtain ⟨v4, hv4, hf⟩ := bind_some hf
        try dsimp only at hf
        refine G.callS C (st := []) (st2 := [.int (v4)]) (ct_X4_dueBehind hv4) m9_550 m9_551 m9_24 m9_552 kd_X4_dueBehind ⟨Nat.le_of_ble_eq_true rfl, Nat.le_of_ble_eq_true rfl⟩ ⟨Nat.zero_le _, Nat.zero_le _⟩ (Nat.le_of_ble_eq_true rfl) rfl rfl dX4_firstWrong_18 ?_
        refine G.istore_n (lv' := [(1, .int (v4)), (0, .ref (a0)), (2, .int (x2))]) C dX4_firstWrong_21 rfl (by decide) rfl ?_
        refine G.iload_n C 0 dX4_firstWrong_22 rfl rfl ?_
        refine G.bipush (v := 7) C dX4_firstWrong_23 (by decide) ?_
        refine G.icmp_ne (tgt := 30) C dX4_firstWrong_25 (by decide) hf (fun c5 hf => ?_) (fun c5 hf => ?_)
        · refine G.iinc (k := 2) (v := (x2 + 1)) (lv' := [(2, .int ((x2 + 1))), (1, .int (v4)), (0, .ref (a0))]) C dX4_firstWrong_30 rfl rfl (by decide) rfl ?_
          refine G.goto (tgt := 4) C dX4_firstWrong_33 (by decide) ?_
          cases hf
          refine G.sub C [2, 1, 0] (lv' := [(0, .ref (a0)), (1, .int (v4)), (2, .int ((x2 + 1)))]) rfl ?_
          exact ih1 _ _ hlp1
        · cases hf
          change some _ = some _ at hlp1
          have hf := hfo1
          try rw [← Option.some.inj hlp1] at hf
          try dsimp only at hf
          refine G.sub C [2] (lv' := [(2, .int (x2))]) rfl ?_
          exact hj28 _ hf
  refine G.sub C [2, 1, 0] (lv' := [(0, .ref (a0)), (1, .int ((0 : Int32))), (2, .int ((0 : Int32)))]) rfl ?_
  exact hloop1 LF _ _ hlp1
theorem ko_X4_isComplete {h : PH} {a0 : Nat} {r : Int32} (hf : f_X4_isComplete h a0 = some r) : kO h a0 3 := by
  unfold f_X4_isComplete at hf
  exact okO_k (gd_ok hf).1
theorem kd_X4_isComplete : yX4_isComplete.cls = RX4 ∧ yX4_isComplete.cls ≠ "java/lang/invoke/MethodHandle" ∧ yX4_isComplete.cls ≠ "java/lang/invoke/VarHandle" ∧ (parseMethodDescriptor yX4_isComplete.desc).map (fun d => d.parameters.length) = some 0 := by decide +kernel
set_option maxRecDepth 20000 in
set_option maxHeartbeats 4000000 in
theorem ct_X4_isComplete {l : Launch} {h : PH} {a0 : Nat} {r : Int32} (hf : f_X4_isComplete h a0 = some r) : CT l yX4_isComplete cX4_isComplete 3 (some .boolean) 4 83 [.ref (a0)] h (some (.int r)) h := by
  refine CT.of (own := RX4) rfl (by decide) (Nat.le_of_ble_eq_true rfl) ?_
  intro p e R s m args below meth c g X hR C
  subst hR
  unfold f_X4_isComplete at hf
  obtain ⟨hok, hf⟩ := gd_ok hf
  have hj49 : ∀ (k0 : Int32), f_X4_isComplete_J49 h k0 = some r → G p l e ({ frames := 4, cells := 0, slots := 0, locals := 83 } : Room) s m args below meth c 3 g X h 0 0 (MQ below (QW g X h s.heap.size (some (.int r)) h) args s 0 0 (AF X h s.heap.size)) 49 [] [.int (k0)] h := by
    intro k0 hf
    unfold f_X4_isComplete_J49 at hf
    obtain ⟨c6, hf⟩ := gd_ok hf
    cases hf
    exact G.zret C rfl (z01_n c6) dX4_isComplete_49
  have hj44 : f_X4_isComplete_J44 h = some r → G p l e ({ frames := 4, cells := 0, slots := 0, locals := 83 } : Room) s m args below meth c 3 g X h 0 0 (MQ below (QW g X h s.heap.size (some (.int r)) h) args s 0 0 (AF X h s.heap.size)) 44 [] [] h := by
    intro hf
    unfold f_X4_isComplete_J44 at hf
    refine G.iconst (v := 1) C dX4_isComplete_44 (by decide) ?_
    refine G.goto (tgt := 49) C dX4_isComplete_45 (by decide) ?_
    refine G.sub C [] (lv' := []) rfl ?_
    exact hj49 _ hf
  have hj28 : ∀ (x1 : Int32), f_X4_isComplete_J28 h (x1) = some r → G p l e ({ frames := 4, cells := 0, slots := 0, locals := 83 } : Room) s m args below meth c 3 g X h 0 0 (MQ below (QW g X h s.heap.size (some (.int r)) h) args s 0 0 (AF X h s.heap.size)) 28 [(1, .int (x1))] [] h := by
    intro x1 hf
    unfold f_X4_isComplete_J28 at hf
    refine G.iload_n C 0 dX4_isComplete_28 rfl rfl ?_
    refine G.iconst (v := 4) C dX4_isComplete_29 (by decide) ?_
    refine G.icmp_eq (tgt := 44) C dX4_isComplete_30 (by decide) hf (fun c9 hf => ?_) (fun c9 hf => ?_)
    · refine G.sub C [] (lv' := []) rfl ?_
      exact hj44  hf
    · refine G.iload_n C 0 dX4_isComplete_33 rfl rfl ?_
      refine G.iconst (v := 5) C dX4_isComplete_34 (by decide) ?_
      refine G.icmp_eq (tgt := 44) C dX4_isComplete_35 (by decide) hf (fun c8 hf => ?_) (fun c8 hf => ?_)
      · refine G.sub C [] (lv' := []) rfl ?_
        exact hj44  hf
      · refine G.iload_n C 0 dX4_isComplete_38 rfl rfl ?_
        refine G.bipush (v := 6) C dX4_isComplete_39 (by decide) ?_
        refine G.icmp_ne (tgt := 48) C dX4_isComplete_41 (by decide) hf (fun c7 hf => ?_) (fun c7 hf => ?_)
        · refine G.iconst (v := 0) C dX4_isComplete_48 (by decide) ?_
          refine G.sub C [] (lv' := []) rfl ?_
          exact hj49 _ hf
        · refine G.sub C [] (lv' := []) rfl ?_
          exact hj44  hf
  refine G.sub C [0] (lv' := [(0, .ref (a0))]) rfl ?_
  refine G.iconst (v := 0) C dX4_isComplete_0 (by decide) ?_
  refine G.istore_n (lv' := [(1, .int ((0 : Int32))), (0, .ref (a0))]) C dX4_isComplete_1 rfl (by decide) rfl ?_
  refine G.iconst (v := 0) C dX4_isComplete_2 (by decide) ?_
  refine G.istore_n (lv' := [(2, .int ((0 : Int32))), (1, .int ((0 : Int32))), (0, .ref (a0))]) C dX4_isComplete_3 rfl (by decide) rfl ?_
  obtain ⟨z1, hlp1, hfo1⟩ := bind_some hf
  clear hf
  have hloop1 : ∀ (k : Nat), ∀ (x1 : Int32) (x2 : Int32), (lpn (f_X4_isComplete_L4 (h) (a0)) k (x1, x2)) = some z1 → G p l e ({ frames := 4, cells := 0, slots := 0, locals := 83 } : Room) s m args below meth c 3 g X h 0 0 (MQ below (QW g X h s.heap.size (some (.int r)) h) args s 0 0 (AF X h s.heap.size)) 4 [(0, .ref (a0)), (1, .int (x1)), (2, .int (x2))] [] h := by
    intro k
    induction k with
    | zero => intro x1 x2 hlp1; exact (lpn_0 hlp1).elim
    | succ k ih1 =>
      intro x1 x2 hlp1
      obtain ⟨y1, hf, hlp1⟩ := lpn_s hlp1
      unfold f_X4_isComplete_L4 at hf
      try dsimp only at hf
      refine G.iload_n C 2 dX4_isComplete_4 rfl rfl ?_
      refine G.aload_n C 0 dX4_isComplete_5 rfl rfl ?_
      refine G.getI (ci := 3) (k := 1) C rfl inlX4 (by decide) m9_64 rfl hf dX4_isComplete_6 (fun v2 hv2 hf => ?_)
      try dsimp only at hf
      refine G.icmp_ge (tgt := 28) C dX4_isComplete_9 (by decide) hf (fun c5 hf => ?_) (fun c5 hf => ?_)
      · cases hf
        change some _ = some _ at hlp1
        have hf := hfo1
        try rw [← Option.some.inj hlp1] at hf
        try dsimp only at hf
        refine G.sub C [1] (lv' := [(1, .int (x1))]) rfl ?_
        exact hj28 _ hf
      · refine G.iload_n C 1 dX4_isComplete_12 rfl rfl ?_
        refine G.aload_n C 0 dX4_isComplete_13 rfl rfl ?_
        refine G.iload_n C 2 dX4_isComplete_14 rfl rfl ?_
        obtain ⟨v3, hv3, hf⟩ := bind_some hf
        try dsimp only at hf
        refine G.callV C (st := [.int (x1)]) (st2 := [.int (v3), .int (x1)]) (ct_X4_codeAt hv3) (ko_X4_codeAt hv3) rfl m9_546 m9_547 m9_548 m9_24 m9_549 kd_X4_codeAt ⟨Nat.le_of_ble_eq_true rfl, Nat.le_of_ble_eq_true rfl⟩ ⟨Nat.zero_le _, Nat.zero_le _⟩ (Nat.le_of_ble_eq_true rfl) rfl rfl dX4_isComplete_15 ?_
        obtain ⟨v4, hv4, hf⟩ := bind_some hf
        try dsimp only at hf
        refine G.callS C (st := []) (st2 := [.int (v4)]) (ct_X4_dueBehind hv4) m9_550 m9_551 m9_24 m9_552 kd_X4_dueBehind ⟨Nat.le_of_ble_eq_true rfl, Nat.le_of_ble_eq_true rfl⟩ ⟨Nat.zero_le _, Nat.zero_le _⟩ (Nat.le_of_ble_eq_true rfl) rfl rfl dX4_isComplete_18 ?_
        refine G.istore_n (lv' := [(1, .int (v4)), (0, .ref (a0)), (2, .int (x2))]) C dX4_isComplete_21 rfl (by decide) rfl ?_
        refine G.iinc (k := 2) (v := (x2 + 1)) (lv' := [(2, .int ((x2 + 1))), (1, .int (v4)), (0, .ref (a0))]) C dX4_isComplete_22 rfl rfl (by decide) rfl ?_
        refine G.goto (tgt := 4) C dX4_isComplete_25 (by decide) ?_
        cases hf
        refine G.sub C [2, 1, 0] (lv' := [(0, .ref (a0)), (1, .int (v4)), (2, .int ((x2 + 1)))]) rfl ?_
        exact ih1 _ _ hlp1
  refine G.sub C [2, 1, 0] (lv' := [(0, .ref (a0)), (1, .int ((0 : Int32))), (2, .int ((0 : Int32)))]) rfl ?_
  exact hloop1 LF _ _ hlp1
theorem ko_X4_partEnd {h : PH} {a0 : Nat} {a1 : Int32} {r : Int32} (hf : f_X4_partEnd h a0 a1 = some r) : kO h a0 3 := by
  unfold f_X4_partEnd at hf
  exact okO_k (gd_ok hf).1
theorem kd_X4_partEnd : yX4_partEnd.cls = RX4 ∧ yX4_partEnd.cls ≠ "java/lang/invoke/MethodHandle" ∧ yX4_partEnd.cls ≠ "java/lang/invoke/VarHandle" ∧ (parseMethodDescriptor yX4_partEnd.desc).map (fun d => d.parameters.length) = some 1 := by decide +kernel
set_option maxRecDepth 20000 in
set_option maxHeartbeats 4000000 in
theorem ct_X4_partEnd {l : Launch} {h : PH} {a0 : Nat} {a1 : Int32} {r : Int32} (hf : f_X4_partEnd h a0 a1 = some r) : CT l yX4_partEnd cX4_partEnd 3 (some .int) 1 21 [.ref (a0), .int (a1)] h (some (.int r)) h := by
  refine CT.of (own := RX4) rfl (by decide) (Nat.le_of_ble_eq_true rfl) ?_
  intro p e R s m args below meth c g X hR C
  subst hR
  unfold f_X4_partEnd at hf
  obtain ⟨hok, hf⟩ := gd_ok hf
  have hj20 : ∀ (x2 : Int32), f_X4_partEnd_J20 h (x2) = some r → G p l e ({ frames := 1, cells := 0, slots := 0, locals := 21 } : Room) s m args below meth c 3 g X h 0 0 (MQ below (QW g X h s.heap.size (some (.int r)) h) args s 0 0 (AF X h s.heap.size)) 20 [(2, .int (x2))] [] h := by
    intro x2 hf
    unfold f_X4_partEnd_J20 at hf
    refine G.iload_n C 0 dX4_partEnd_20 rfl rfl ?_
    cases hf
    exact G.iret C rfl dX4_partEnd_21
  have hj28 : ∀ (x0 : Nat), f_X4_partEnd_J28 h (x0) = some r → G p l e ({ frames := 1, cells := 0, slots := 0, locals := 21 } : Room) s m args below meth c 3 g X h 0 0 (MQ below (QW g X h s.heap.size (some (.int r)) h) args s 0 0 (AF X h s.heap.size)) 28 [(0, .ref (x0))] [] h := by
    intro x0 hf
    unfold f_X4_partEnd_J28 at hf
    refine G.aload_n C 0 dX4_partEnd_28 rfl rfl ?_
    refine G.getI (ci := 3) (k := 1) C rfl inlX4 (by decide) m9_64 rfl hf dX4_partEnd_29 (fun v5 hv5 hf => ?_)
    try dsimp only at hf
    cases hf
    exact G.iret C rfl dX4_partEnd_32
  refine G.sub C [0, 1] (lv' := [(0, .ref (a0)), (1, .int (a1))]) rfl ?_
  refine G.iload_n C 1 dX4_partEnd_0 rfl rfl ?_
  refine G.istore_n (lv' := [(2, .int (a1)), (0, .ref (a0)), (1, .int (a1))]) C dX4_partEnd_1 rfl (by decide) rfl ?_
  obtain ⟨z1, hlp1, hfo1⟩ := bind_some hf
  clear hf
  have hloop1 : ∀ (k : Nat), ∀ (x2 : Int32), (lpn (f_X4_partEnd_L2 (h) (a0)) k (x2)) = some z1 → G p l e ({ frames := 1, cells := 0, slots := 0, locals := 21 } : Room) s m args below meth c 3 g X h 0 0 (MQ below (QW g X h s.heap.size (some (.int r)) h) args s 0 0 (AF X h s.heap.size)) 2 [(0, .ref (a0)), (2, .int (x2))] [] h := by
    intro k
    induction k with
    | zero => intro x2 hlp1; exact (lpn_0 hlp1).elim
    | succ k ih1 =>
      intro x2 hlp1
      obtain ⟨y1, hf, hlp1⟩ := lpn_s hlp1
      unfold f_X4_partEnd_L2 at hf
      try dsimp only at hf
      refine G.iload_n C 1 dX4_partEnd_2 rfl rfl ?_
      refine G.aload_n C 0 dX4_partEnd_3 rfl rfl ?_
      refine G.getI (ci := 3) (k := 1) C rfl inlX4 (by decide) m9_64 rfl hf dX4_partEnd_4 (fun v2 hv2 hf => ?_)
      try dsimp only at hf
      refine G.icmp_ge (tgt := 28) C dX4_partEnd_7 (by decide) hf (fun c5 hf => ?_) (fun c5 hf => ?_)
      · cases hf
        change some _ = some _ at hlp1
        have hf := hfo1
        try rw [← Option.some.inj hlp1] at hf
        try dsimp only at hf
        refine G.sub C [0] (lv' := [(0, .ref (a0))]) rfl ?_
        exact hj28 _ hf
      · refine G.aload_n C 0 dX4_partEnd_10 rfl rfl ?_
        refine G.iload_n C 1 dX4_partEnd_11 rfl rfl ?_
        obtain ⟨v3, hv3, hf⟩ := bind_some hf
        try dsimp only at hf
        refine G.callV C (st := []) (st2 := [.int (v3)]) (ct_X4_codeAt hv3) (ko_X4_codeAt hv3) rfl m9_546 m9_547 m9_548 m9_24 m9_549 kd_X4_codeAt ⟨Nat.le_of_ble_eq_true rfl, Nat.le_of_ble_eq_true rfl⟩ ⟨Nat.zero_le _, Nat.zero_le _⟩ (Nat.le_of_ble_eq_true rfl) rfl rfl dX4_partEnd_12 ?_
        refine G.bipush (v := 44) C dX4_partEnd_15 (by decide) ?_
        refine G.icmp_ne (tgt := 22) C dX4_partEnd_17 (by decide) hf (fun c4 hf => ?_) (fun c4 hf => ?_)
        · refine G.iinc (k := 1) (v := (x2 + 1)) (lv' := [(2, .int ((x2 + 1))), (0, .ref (a0))]) C dX4_partEnd_22 rfl rfl (by decide) rfl ?_
          refine G.goto (tgt := 2) C dX4_partEnd_25 (by decide) ?_
          cases hf
          refine G.sub C [1, 0] (lv' := [(0, .ref (a0)), (2, .int ((x2 + 1)))]) rfl ?_
          exact ih1 _ hlp1
        · cases hf
          change some _ = some _ at hlp1
          have hf := hfo1
          try rw [← Option.some.inj hlp1] at hf
          try dsimp only at hf
          refine G.sub C [1] (lv' := [(2, .int (x2))]) rfl ?_
          exact hj20 _ hf
  refine G.sub C [1, 0] (lv' := [(0, .ref (a0)), (2, .int (a1))]) rfl ?_
  exact hloop1 LF _ hlp1
theorem ko_X4_numberIn {h : PH} {a0 : Nat} {a1 : Int32} {a2 : Int32} {r : Int32} (hf : f_X4_numberIn h a0 a1 a2 = some r) : kO h a0 3 := by
  unfold f_X4_numberIn at hf
  exact okO_k (gd_ok hf).1
theorem kd_X4_numberIn : yX4_numberIn.cls = RX4 ∧ yX4_numberIn.cls ≠ "java/lang/invoke/MethodHandle" ∧ yX4_numberIn.cls ≠ "java/lang/invoke/VarHandle" ∧ (parseMethodDescriptor yX4_numberIn.desc).map (fun d => d.parameters.length) = some 2 := by decide +kernel
set_option maxRecDepth 20000 in
set_option maxHeartbeats 4000000 in
theorem ct_X4_numberIn {l : Launch} {h : PH} {a0 : Nat} {a1 : Int32} {a2 : Int32} {r : Int32} (hf : f_X4_numberIn h a0 a1 a2 = some r) : CT l yX4_numberIn cX4_numberIn 5 (some .int) 1 21 [.ref (a0), .int (a1), .int (a2)] h (some (.int r)) h := by
  refine CT.of (own := RX4) rfl (by decide) (Nat.le_of_ble_eq_true rfl) ?_
  intro p e R s m args below meth c g X hR C
  subst hR
  unfold f_X4_numberIn at hf
  obtain ⟨hok, hf⟩ := gd_ok hf
  have hj32 : ∀ (x3 : Int32), f_X4_numberIn_J32 h (x3) = some r → G p l e ({ frames := 1, cells := 0, slots := 0, locals := 21 } : Room) s m args below meth c 5 g X h 0 0 (MQ below (QW g X h s.heap.size (some (.int r)) h) args s 0 0 (AF X h s.heap.size)) 32 [(3, .int (x3))] [] h := by
    intro x3 hf
    unfold f_X4_numberIn_J32 at hf
    refine G.iload_n C 0 dX4_numberIn_32 rfl rfl ?_
    cases hf
    exact G.iret C rfl dX4_numberIn_33
  refine G.sub C [0, 1, 2] (lv' := [(0, .ref (a0)), (1, .int (a1)), (2, .int (a2))]) rfl ?_
  refine G.iconst (v := 0) C dX4_numberIn_0 (by decide) ?_
  refine G.istore_n (lv' := [(3, .int ((0 : Int32))), (0, .ref (a0)), (1, .int (a1)), (2, .int (a2))]) C dX4_numberIn_1 rfl (by decide) rfl ?_
  refine G.iload_n C 2 dX4_numberIn_2 rfl rfl ?_
  refine G.istore (lv' := [(4, .int (a1)), (3, .int ((0 : Int32))), (0, .ref (a0)), (1, .int (a1)), (2, .int (a2))]) C dX4_numberIn_3 (by decide) rfl ?_
  obtain ⟨z1, hlp1, hfo1⟩ := bind_some hf
  clear hf
  have hloop1 : ∀ (k : Nat), ∀ (x3 : Int32) (x4 : Int32), (lpn (f_X4_numberIn_L5 (h) (a0) (a2)) k (x3, x4)) = some z1 → G p l e ({ frames := 1, cells := 0, slots := 0, locals := 21 } : Room) s m args below meth c 5 g X h 0 0 (MQ below (QW g X h s.heap.size (some (.int r)) h) args s 0 0 (AF X h s.heap.size)) 5 [(0, .ref (a0)), (2, .int (a2)), (3, .int (x3)), (4, .int (x4))] [] h := by
    intro k
    induction k with
    | zero => intro x3 x4 hlp1; exact (lpn_0 hlp1).elim
    | succ k ih1 =>
      intro x3 x4 hlp1
      obtain ⟨y1, hf, hlp1⟩ := lpn_s hlp1
      unfold f_X4_numberIn_L5 at hf
      try dsimp only at hf
      refine G.iload C 3 dX4_numberIn_5 rfl ?_
      refine G.iload_n C 1 dX4_numberIn_7 rfl rfl ?_
      refine G.icmp_ge (tgt := 32) C dX4_numberIn_8 (by decide) hf (fun c3 hf => ?_) (fun c3 hf => ?_)
      · cases hf
        change some _ = some _ at hlp1
        have hf := hfo1
        try rw [← Option.some.inj hlp1] at hf
        try dsimp only at hf
        refine G.sub C [2] (lv' := [(3, .int (x3))]) rfl ?_
        exact hj32 _ hf
      · refine G.bipush (v := 10) C dX4_numberIn_11 (by decide) ?_
        refine G.iload_n C 2 dX4_numberIn_13 rfl rfl ?_
        refine G.imul C dX4_numberIn_14 ?_
        refine G.aload_n C 0 dX4_numberIn_15 rfl rfl ?_
        refine G.iload C 3 dX4_numberIn_16 rfl ?_
        obtain ⟨v2, hv2, hf⟩ := bind_some hf
        try dsimp only at hf
        refine G.callV C (st := [.int (((10 : Int32) * x3))]) (st2 := [.int (v2), .int (((10 : Int32) * x3))]) (ct_X4_codeAt hv2) (ko_X4_codeAt hv2) rfl m9_546 m9_547 m9_548 m9_24 m9_549 kd_X4_codeAt ⟨Nat.le_of_ble_eq_true rfl, Nat.le_of_ble_eq_true rfl⟩ ⟨Nat.zero_le _, Nat.zero_le _⟩ (Nat.le_of_ble_eq_true rfl) rfl rfl dX4_numberIn_18 ?_
        refine G.iadd C dX4_numberIn_21 ?_
        refine G.bipush (v := 48) C dX4_numberIn_22 (by decide) ?_
        refine G.isub C dX4_numberIn_24 ?_
        refine G.istore_n (lv' := [(3, .int (((((10 : Int32) * x3) + v2) - (48 : Int32)))), (0, .ref (a0)), (2, .int (a2)), (4, .int (x4))]) C dX4_numberIn_25 rfl (by decide) rfl ?_
        refine G.iinc (k := 3) (v := (x4 + 1)) (lv' := [(4, .int ((x4 + 1))), (3, .int (((((10 : Int32) * x3) + v2) - (48 : Int32)))), (0, .ref (a0)), (2, .int (a2))]) C dX4_numberIn_26 rfl rfl (by decide) rfl ?_
        refine G.goto (tgt := 5) C dX4_numberIn_29 (by decide) ?_
        cases hf
        refine G.sub C [2, 3, 1, 0] (lv' := [(0, .ref (a0)), (2, .int (a2)), (3, .int (((((10 : Int32) * x3) + v2) - (48 : Int32)))), (4, .int ((x4 + 1)))]) rfl ?_
        exact ih1 _ _ hlp1
  refine G.sub C [2, 4, 1, 0] (lv' := [(0, .ref (a0)), (2, .int (a2)), (3, .int ((0 : Int32))), (4, .int (a1))]) rfl ?_
  exact hloop1 LF _ _ hlp1
