theorem ko_X3_ropeAt {h : PH} {a0 : Nat} {a1 : Int32} {r : (Option Nat)} (hf : f_X3_ropeAt h a0 a1 = some r) : kO h a0 2 := by
  unfold f_X3_ropeAt at hf
  exact okO_k (gd_ok hf).1
theorem kd_X3_ropeAt : yX3_ropeAt.cls = RX3 ∧ yX3_ropeAt.cls ≠ "java/lang/invoke/MethodHandle" ∧ yX3_ropeAt.cls ≠ "java/lang/invoke/VarHandle" ∧ (parseMethodDescriptor yX3_ropeAt.desc).map (fun d => d.parameters.length) = some 1 := by decide +kernel
set_option maxRecDepth 20000 in
set_option maxHeartbeats 4000000 in
theorem ct_X3_ropeAt {l : Launch} {h : PH} {a0 : Nat} {a1 : Int32} {r : (Option Nat)} (hf : f_X3_ropeAt h a0 a1 = some r) : CT l yX3_ropeAt cX3_ropeAt 2 (some (.object "PennantRopes$Rope")) 0 0 [.ref (a0), .int (a1)] h (some (va_rf r)) h := by
  refine CT.of (own := RX3) rfl (by decide) (Nat.le_of_ble_eq_true rfl) ?_
  intro p e R s m args below meth c g X hR C
  subst hR
  unfold f_X3_ropeAt at hf
  obtain ⟨hok, hf⟩ := gd_ok hf
  have hj31 : ∀ (k0 : (Option Nat)), f_X3_ropeAt_J31 h k0 = some r → G p l e ({ frames := 0, cells := 0, slots := 0, locals := 0 } : Room) s m args below meth c 2 g X h 0 0 (MQ below (QW g X h s.heap.size (some (va_rf r)) h) args s 0 0 (AF X h s.heap.size)) 31 [] [va_rf (k0)] h := by
    intro k0 hf
    unfold f_X3_ropeAt_J31 at hf
    cases hf
    exact G.aret C rfl (Or.inl ⟨_, rfl⟩) dX3_ropeAt_31
  have hj30 : f_X3_ropeAt_J30 h = some r → G p l e ({ frames := 0, cells := 0, slots := 0, locals := 0 } : Room) s m args below meth c 2 g X h 0 0 (MQ below (QW g X h s.heap.size (some (va_rf r)) h) args s 0 0 (AF X h s.heap.size)) 30 [] [] h := by
    intro hf
    unfold f_X3_ropeAt_J30 at hf
    refine G.null C dX3_ropeAt_30 ?_
    refine G.sub C [] (lv' := []) rfl ?_
    exact hj31 _ hf
  refine G.sub C [0, 1] (lv' := [(0, .ref (a0)), (1, .int (a1))]) rfl ?_
  refine G.iload_n C 1 dX3_ropeAt_0 rfl rfl ?_
  refine G.if_lt (tgt := 30) C dX3_ropeAt_1 (by decide) hf (fun c8 hf => ?_) (fun c8 hf => ?_)
  · refine G.sub C [] (lv' := []) rfl ?_
    exact hj30  hf
  · refine G.iload_n C 1 dX3_ropeAt_4 rfl rfl ?_
    refine G.aload_n C 0 dX3_ropeAt_5 rfl rfl ?_
    refine G.getI (ci := 2) (k := 2) C rfl inlX3 (by decide) m9_35 rfl hf dX3_ropeAt_6 (fun v1 hv1 hf => ?_)
    try dsimp only at hf
    refine G.icmp_ge (tgt := 30) C dX3_ropeAt_9 (by decide) hf (fun c7 hf => ?_) (fun c7 hf => ?_)
    · refine G.sub C [] (lv' := []) rfl ?_
      exact hj30  hf
    · refine G.iload_n C 1 dX3_ropeAt_12 rfl rfl ?_
      refine G.aload_n C 0 dX3_ropeAt_13 rfl rfl ?_
      refine G.getR (ci := 2) (k := 1) C rfl inlX3 (by decide) m9_34 rfl hf dX3_ropeAt_14 (fun v2 hv2 hf => ?_)
      try dsimp only at hf
      refine G.alen C hf dX3_ropeAt_17 (fun v3 hv3 hf => ?_)
      try dsimp only at hf
      refine G.icmp_ge (tgt := 30) C dX3_ropeAt_18 (by decide) hf (fun c6 hf => ?_) (fun c6 hf => ?_)
      · refine G.sub C [] (lv' := []) rfl ?_
        exact hj30  hf
      · refine G.aload_n C 0 dX3_ropeAt_21 rfl rfl ?_
        refine G.getR (ci := 2) (k := 1) C rfl inlX3 (by decide) m9_34 rfl hf dX3_ropeAt_22 (fun v4 hv4 hf => ?_)
        try dsimp only at hf
        refine G.iload_n C 1 dX3_ropeAt_25 rfl rfl ?_
        refine G.aald C hf dX3_ropeAt_26 (fun v5 hv5 hf => ?_)
        try dsimp only at hf
        refine G.goto (tgt := 31) C dX3_ropeAt_27 (by decide) ?_
        refine G.sub C [] (lv' := []) rfl ?_
        exact hj31 _ hf
theorem ko_X3_isLaidOnSome {h : PH} {a0 : Nat} {a1 : Int32} {r : Int32} (hf : f_X3_isLaidOnSome h a0 a1 = some r) : kO h a0 2 := by
  unfold f_X3_isLaidOnSome at hf
  exact okO_k (gd_ok hf).1
theorem kd_X3_isLaidOnSome : yX3_isLaidOnSome.cls = RX3 ∧ yX3_isLaidOnSome.cls ≠ "java/lang/invoke/MethodHandle" ∧ yX3_isLaidOnSome.cls ≠ "java/lang/invoke/VarHandle" ∧ (parseMethodDescriptor yX3_isLaidOnSome.desc).map (fun d => d.parameters.length) = some 1 := by decide +kernel
set_option maxRecDepth 20000 in
set_option maxHeartbeats 4000000 in
theorem ct_X3_isLaidOnSome {l : Launch} {h : PH} {a0 : Nat} {a1 : Int32} {r : Int32} (hf : f_X3_isLaidOnSome h a0 a1 = some r) : CT l yX3_isLaidOnSome cX3_isLaidOnSome 4 (some .boolean) 1 22 [.ref (a0), .int (a1)] h (some (.int r)) h := by
  refine CT.of (own := RX3) rfl (by decide) (Nat.le_of_ble_eq_true rfl) ?_
  intro p e R s m args below meth c g X hR C
  subst hR
  unfold f_X3_isLaidOnSome at hf
  obtain ⟨hok, hf⟩ := gd_ok hf
  have hj29 : f_X3_isLaidOnSome_J29 h = some r → G p l e ({ frames := 1, cells := 0, slots := 0, locals := 22 } : Room) s m args below meth c 4 g X h 0 0 (MQ below (QW g X h s.heap.size (some (.int r)) h) args s 0 0 (AF X h s.heap.size)) 29 [] [] h := by
    intro hf
    unfold f_X3_isLaidOnSome_J29 at hf
    refine G.iconst (v := 1) C dX3_isLaidOnSome_29 (by decide) ?_
    cases hf
    exact G.zret (v := (1 : Int32)) C rfl rfl dX3_isLaidOnSome_30
  have hj37 : f_X3_isLaidOnSome_J37 h = some r → G p l e ({ frames := 1, cells := 0, slots := 0, locals := 22 } : Room) s m args below meth c 4 g X h 0 0 (MQ below (QW g X h s.heap.size (some (.int r)) h) args s 0 0 (AF X h s.heap.size)) 37 [] [] h := by
    intro hf
    unfold f_X3_isLaidOnSome_J37 at hf
    refine G.iconst (v := 0) C dX3_isLaidOnSome_37 (by decide) ?_
    cases hf
    exact G.zret (v := (0 : Int32)) C rfl rfl dX3_isLaidOnSome_38
  refine G.sub C [0, 1] (lv' := [(0, .ref (a0)), (1, .int (a1))]) rfl ?_
  refine G.iconst (v := 0) C dX3_isLaidOnSome_0 (by decide) ?_
  refine G.istore_n (lv' := [(2, .int ((0 : Int32))), (0, .ref (a0)), (1, .int (a1))]) C dX3_isLaidOnSome_1 rfl (by decide) rfl ?_
  obtain ⟨z1, hlp1, hfo1⟩ := bind_some hf
  clear hf
  have hloop1 : ∀ (k : Nat), ∀ (x2 : Int32), (lpn (f_X3_isLaidOnSome_L2 (h) (a0) (a1)) k (x2)) = some z1 → G p l e ({ frames := 1, cells := 0, slots := 0, locals := 22 } : Room) s m args below meth c 4 g X h 0 0 (MQ below (QW g X h s.heap.size (some (.int r)) h) args s 0 0 (AF X h s.heap.size)) 2 [(0, .ref (a0)), (1, .int (a1)), (2, .int (x2))] [] h := by
    intro k
    induction k with
    | zero => intro x2 hlp1; exact (lpn_0 hlp1).elim
    | succ k ih1 =>
      intro x2 hlp1
      obtain ⟨y1, hf, hlp1⟩ := lpn_s hlp1
      unfold f_X3_isLaidOnSome_L2 at hf
      try dsimp only at hf
      have hj31 : ∀ (x2 : Int32), f_X3_isLaidOnSome_J31 h (a0) (a1) (x2) = some y1 → G p l e ({ frames := 1, cells := 0, slots := 0, locals := 22 } : Room) s m args below meth c 4 g X h 0 0 (MQ below (QW g X h s.heap.size (some (.int r)) h) args s 0 0 (AF X h s.heap.size)) 31 [(0, .ref (a0)), (1, .int (a1)), (2, .int (x2))] [] h := by
        intro x2 hf
        unfold f_X3_isLaidOnSome_J31 at hf
        refine G.iinc (k := 2) (v := (x2 + 1)) (lv' := [(2, .int ((x2 + 1))), (0, .ref (a0)), (1, .int (a1))]) C dX3_isLaidOnSome_31 rfl rfl (by decide) rfl ?_
        refine G.goto (tgt := 2) C dX3_isLaidOnSome_34 (by decide) ?_
        cases hf
        refine G.sub C [1, 2, 0] (lv' := [(0, .ref (a0)), (1, .int (a1)), (2, .int ((x2 + 1)))]) rfl ?_
        exact ih1 _ hlp1
      refine G.iload_n C 2 dX3_isLaidOnSome_2 rfl rfl ?_
      refine G.aload_n C 0 dX3_isLaidOnSome_3 rfl rfl ?_
      refine G.getI (ci := 2) (k := 2) C rfl inlX3 (by decide) m9_35 rfl hf dX3_isLaidOnSome_4 (fun v2 hv2 hf => ?_)
      try dsimp only at hf
      refine G.icmp_ge (tgt := 37) C dX3_isLaidOnSome_7 (by decide) hf (fun c8 hf => ?_) (fun c8 hf => ?_)
      · cases hf
        change some _ = some _ at hlp1
        have hf := hfo1
        try rw [← Option.some.inj hlp1] at hf
        try dsimp only at hf
        refine G.sub C [] (lv' := []) rfl ?_
        exact hj37  hf
      · refine G.aload_n C 0 dX3_isLaidOnSome_10 rfl rfl ?_
        refine G.iload_n C 2 dX3_isLaidOnSome_11 rfl rfl ?_
        obtain ⟨v3, hv3, hf⟩ := bind_some hf
        try dsimp only at hf
        refine G.callV C (st := []) (st2 := [va_rf (v3)]) (ct_X3_ropeAt hv3) (ko_X3_ropeAt hv3) rfl m9_88 m9_89 m9_90 m9_11 m9_91 kd_X3_ropeAt ⟨Nat.le_of_ble_eq_true rfl, Nat.le_of_ble_eq_true rfl⟩ ⟨Nat.zero_le _, Nat.zero_le _⟩ (Nat.le_of_ble_eq_true rfl) rfl rfl dX3_isLaidOnSome_12 ?_
        refine G.qstore_n (lv' := [(3, va_rf (v3)), (0, .ref (a0)), (1, .int (a1)), (2, .int (x2))]) C dX3_isLaidOnSome_15 rfl (by decide) rfl ?_
        refine G.qload_n C 0 dX3_isLaidOnSome_16 rfl rfl ?_
        refine G.ifnull (tgt := 31) C dX3_isLaidOnSome_17 (by decide) (fun e7 => ?_) (fun a4 e7 => ?_)
        · subst e7
          try dsimp only at hf
          refine G.sub C [1, 2, 3] (lv' := [(0, .ref (a0)), (1, .int (a1)), (2, .int (x2))]) rfl ?_
          exact hj31 _ hf
        · subst e7
          try dsimp only at hf
          refine G.aload_n C 0 dX3_isLaidOnSome_20 rfl rfl ?_
          refine G.iload_n C 2 dX3_isLaidOnSome_21 rfl rfl ?_
          obtain ⟨v5, hv5, hf⟩ := bind_some hf
          try dsimp only at hf
          refine G.callV C (st := []) (st2 := [.int (v5)]) (ct_X2_orderOf hv5) (ko_X2_orderOf hv5) rfl m9_116 m9_117 m9_118 m9_24 m9_119 kd_X2_orderOf ⟨Nat.le_of_ble_eq_true rfl, Nat.le_of_ble_eq_true rfl⟩ ⟨Nat.zero_le _, Nat.zero_le _⟩ (Nat.le_of_ble_eq_true rfl) rfl rfl dX3_isLaidOnSome_22 ?_
          refine G.iconst (v := (-1)) C dX3_isLaidOnSome_25 (by decide) ?_
          refine G.icmp_eq (tgt := 31) C dX3_isLaidOnSome_26 (by decide) hf (fun c6 hf => ?_) (fun c6 hf => ?_)
          · refine G.sub C [1, 2, 3] (lv' := [(0, .ref (a0)), (1, .int (a1)), (2, .int (x2))]) rfl ?_
            exact hj31 _ hf
          · cases hf
            change some _ = some _ at hlp1
            have hf := hfo1
            try rw [← Option.some.inj hlp1] at hf
            try dsimp only at hf
            refine G.sub C [] (lv' := []) rfl ?_
            exact hj29  hf
  refine G.sub C [1, 2, 0] (lv' := [(0, .ref (a0)), (1, .int (a1)), (2, .int ((0 : Int32)))]) rfl ?_
  exact hloop1 LF _ hlp1
theorem ko_X0_rowAt {h : PH} {a0 : Nat} {a1 : Int32} {r : (Option Nat)} (hf : f_X0_rowAt h a0 a1 = some r) : kO h a0 0 := by
  unfold f_X0_rowAt at hf
  exact okO_k (gd_ok hf).1
theorem kd_X0_rowAt : yX0_rowAt.cls = RX0 ∧ yX0_rowAt.cls ≠ "java/lang/invoke/MethodHandle" ∧ yX0_rowAt.cls ≠ "java/lang/invoke/VarHandle" ∧ (parseMethodDescriptor yX0_rowAt.desc).map (fun d => d.parameters.length) = some 1 := by decide +kernel
set_option maxRecDepth 20000 in
set_option maxHeartbeats 4000000 in
theorem ct_X0_rowAt {l : Launch} {h : PH} {a0 : Nat} {a1 : Int32} {r : (Option Nat)} (hf : f_X0_rowAt h a0 a1 = some r) : CT l yX0_rowAt cX0_rowAt 2 (some (.object "PennantRopes$State")) 0 0 [.ref (a0), .int (a1)] h (some (va_rf r)) h := by
  refine CT.of (own := RX0) rfl (by decide) (Nat.le_of_ble_eq_true rfl) ?_
  intro p e R s m args below meth c g X hR C
  subst hR
  unfold f_X0_rowAt at hf
  obtain ⟨hok, hf⟩ := gd_ok hf
  have hj23 : ∀ (k0 : (Option Nat)), f_X0_rowAt_J23 h k0 = some r → G p l e ({ frames := 0, cells := 0, slots := 0, locals := 0 } : Room) s m args below meth c 2 g X h 0 0 (MQ below (QW g X h s.heap.size (some (va_rf r)) h) args s 0 0 (AF X h s.heap.size)) 23 [] [va_rf (k0)] h := by
    intro k0 hf
    unfold f_X0_rowAt_J23 at hf
    cases hf
    exact G.aret C rfl (Or.inl ⟨_, rfl⟩) dX0_rowAt_23
  have hj22 : f_X0_rowAt_J22 h = some r → G p l e ({ frames := 0, cells := 0, slots := 0, locals := 0 } : Room) s m args below meth c 2 g X h 0 0 (MQ below (QW g X h s.heap.size (some (va_rf r)) h) args s 0 0 (AF X h s.heap.size)) 22 [] [] h := by
    intro hf
    unfold f_X0_rowAt_J22 at hf
    refine G.null C dX0_rowAt_22 ?_
    refine G.sub C [] (lv' := []) rfl ?_
    exact hj23 _ hf
  refine G.sub C [0, 1] (lv' := [(0, .ref (a0)), (1, .int (a1))]) rfl ?_
  refine G.iload_n C 1 dX0_rowAt_0 rfl rfl ?_
  refine G.if_lt (tgt := 22) C dX0_rowAt_1 (by decide) hf (fun c6 hf => ?_) (fun c6 hf => ?_)
  · refine G.sub C [] (lv' := []) rfl ?_
    exact hj22  hf
  · refine G.iload_n C 1 dX0_rowAt_4 rfl rfl ?_
    refine G.aload_n C 0 dX0_rowAt_5 rfl rfl ?_
    refine G.getR (ci := 0) (k := 0) C rfl inlX0 (by decide) m9_52 rfl hf dX0_rowAt_6 (fun v1 hv1 hf => ?_)
    try dsimp only at hf
    refine G.alen C hf dX0_rowAt_9 (fun v2 hv2 hf => ?_)
    try dsimp only at hf
    refine G.icmp_ge (tgt := 22) C dX0_rowAt_10 (by decide) hf (fun c5 hf => ?_) (fun c5 hf => ?_)
    · refine G.sub C [] (lv' := []) rfl ?_
      exact hj22  hf
    · refine G.aload_n C 0 dX0_rowAt_13 rfl rfl ?_
      refine G.getR (ci := 0) (k := 0) C rfl inlX0 (by decide) m9_52 rfl hf dX0_rowAt_14 (fun v3 hv3 hf => ?_)
      try dsimp only at hf
      refine G.iload_n C 1 dX0_rowAt_17 rfl rfl ?_
      refine G.aald C hf dX0_rowAt_18 (fun v4 hv4 hf => ?_)
      try dsimp only at hf
      refine G.goto (tgt := 23) C dX0_rowAt_19 (by decide) ?_
      refine G.sub C [] (lv' := []) rfl ?_
      exact hj23 _ hf
theorem ko_X0_dropOldest {h : PH} {a0 : Nat} {r : PH} (hf : f_X0_dropOldest h a0 = some r) : kO h a0 0 := by
  unfold f_X0_dropOldest at hf
  exact okO_k (gd_ok hf).1
theorem kd_X0_dropOldest : yX0_dropOldest.cls = RX0 ∧ yX0_dropOldest.cls ≠ "java/lang/invoke/MethodHandle" ∧ yX0_dropOldest.cls ≠ "java/lang/invoke/VarHandle" ∧ (parseMethodDescriptor yX0_dropOldest.desc).map (fun d => d.parameters.length) = some 0 := by decide +kernel
set_option maxRecDepth 20000 in
set_option maxHeartbeats 4000000 in
theorem ct_X0_dropOldest {l : Launch} {h : PH} {a0 : Nat} {r : PH} (hf : f_X0_dropOldest h a0 = some r) : CT l yX0_dropOldest cX0_dropOldest 3 none 1 21 [.ref (a0)] h none r := by
  refine CT.of (own := RX0) rfl (by decide) (Nat.le_of_ble_eq_true rfl) ?_
  intro p e R s m args below meth c g X hR C
  subst hR
  unfold f_X0_dropOldest at hf
  obtain ⟨hok, hf⟩ := gd_ok hf
  have hj77 : ∀ (hh : PH), f_X0_dropOldest_J77 hh = some r → G p l e ({ frames := 1, cells := 0, slots := 0, locals := 21 } : Room) s m args below meth c 3 g X h 0 0 (MQ below (QW g X h s.heap.size none r) args s 0 0 (AF X h s.heap.size)) 77 [] [] hh := by
    intro hh hf
    unfold f_X0_dropOldest_J77 at hf
    cases hf
    exact G.vret C rfl dX0_dropOldest_77
  have hj37 : ∀ (hh : PH) (x0 : Nat) (x1 : (Option Nat)), f_X0_dropOldest_J37 hh (x0) (x1) = some r → G p l e ({ frames := 1, cells := 0, slots := 0, locals := 21 } : Room) s m args below meth c 3 g X h 0 0 (MQ below (QW g X h s.heap.size none r) args s 0 0 (AF X h s.heap.size)) 37 [(0, .ref (x0)), (1, va_rf (x1))] [] hh := by
    intro hh x0 x1 hf
    unfold f_X0_dropOldest_J37 at hf
    refine G.aload_n C 0 dX0_dropOldest_37 rfl rfl ?_
    refine G.aload_n C 0 dX0_dropOldest_38 rfl rfl ?_
    refine G.getR (ci := 0) (k := 0) C rfl inlX0 (by decide) m9_52 rfl hf dX0_dropOldest_39 (fun v21 hv21 hf => ?_)
    try dsimp only at hf
    refine G.alen C hf dX0_dropOldest_42 (fun v22 hv22 hf => ?_)
    try dsimp only at hf
    refine G.iconst (v := 1) C dX0_dropOldest_43 (by decide) ?_
    refine G.isub C dX0_dropOldest_44 ?_
    refine G.put (ci := 0) (k := 1) C rfl inlX0 (by decide) m9_53 rfl tyX0 tyX0_ok nmX0 rfl rfl rfl hf dX0_dropOldest_45 (fun h23 hh23 hf => ?_)
    try dsimp only at hf
    refine G.aload_n C 0 dX0_dropOldest_48 rfl rfl ?_
    refine G.getI (ci := 0) (k := 1) C rfl inlX0 (by decide) m9_53 rfl hf dX0_dropOldest_49 (fun v24 hv24 hf => ?_)
    try dsimp only at hf
    refine G.if_lt (tgt := 77) C dX0_dropOldest_52 (by decide) hf (fun c33 hf => ?_) (fun c33 hf => ?_)
    · refine G.sub C [] (lv' := []) rfl ?_
      exact hj77 _ hf
    · refine G.aload_n C 0 dX0_dropOldest_55 rfl rfl ?_
      refine G.getI (ci := 0) (k := 1) C rfl inlX0 (by decide) m9_53 rfl hf dX0_dropOldest_56 (fun v25 hv25 hf => ?_)
      try dsimp only at hf
      refine G.aload_n C 0 dX0_dropOldest_59 rfl rfl ?_
      refine G.getR (ci := 0) (k := 0) C rfl inlX0 (by decide) m9_52 rfl hf dX0_dropOldest_60 (fun v26 hv26 hf => ?_)
      try dsimp only at hf
      refine G.alen C hf dX0_dropOldest_63 (fun v27 hv27 hf => ?_)
      try dsimp only at hf
      refine G.icmp_ge (tgt := 77) C dX0_dropOldest_64 (by decide) hf (fun c32 hf => ?_) (fun c32 hf => ?_)
      · refine G.sub C [] (lv' := []) rfl ?_
        exact hj77 _ hf
      · refine G.aload_n C 0 dX0_dropOldest_67 rfl rfl ?_
        refine G.getR (ci := 0) (k := 0) C rfl inlX0 (by decide) m9_52 rfl hf dX0_dropOldest_68 (fun v28 hv28 hf => ?_)
        try dsimp only at hf
        refine G.aload_n C 0 dX0_dropOldest_71 rfl rfl ?_
        refine G.getI (ci := 0) (k := 1) C rfl inlX0 (by decide) m9_53 rfl hf dX0_dropOldest_72 (fun v29 hv29 hf => ?_)
        try dsimp only at hf
        refine G.qload_n C 1 dX0_dropOldest_75 rfl rfl ?_
        obtain ⟨w31, ew31, hf⟩ := bind_some hf
        subst ew31
        try dsimp only at hf
        refine G.aast (v := w31) C hf dX0_dropOldest_76 (fun h30 hh30 hf => ?_)
        try dsimp only at hf
        refine G.sub C [] (lv' := []) rfl ?_
        exact hj77 _ hf
  refine G.sub C [0] (lv' := [(0, .ref (a0))]) rfl ?_
  refine G.aload_n C 0 dX0_dropOldest_0 rfl rfl ?_
  refine G.iconst (v := 0) C dX0_dropOldest_1 (by decide) ?_
  obtain ⟨v1, hv1, hf⟩ := bind_some hf
  try dsimp only at hf
  refine G.callV C (st := []) (st2 := [va_rf (v1)]) (ct_X0_rowAt hv1) (ko_X0_rowAt hv1) rfl m9_356 m9_357 m9_358 m9_16 m9_359 kd_X0_rowAt ⟨Nat.le_of_ble_eq_true rfl, Nat.le_of_ble_eq_true rfl⟩ ⟨Nat.zero_le _, Nat.zero_le _⟩ (Nat.le_of_ble_eq_true rfl) rfl rfl dX0_dropOldest_2 ?_
  refine G.qstore_n (lv' := [(1, va_rf (v1)), (0, .ref (a0))]) C dX0_dropOldest_5 rfl (by decide) rfl ?_
  refine G.iconst (v := 1) C dX0_dropOldest_6 (by decide) ?_
  refine G.istore_n (lv' := [(2, .int ((1 : Int32))), (1, va_rf (v1)), (0, .ref (a0))]) C dX0_dropOldest_7 rfl (by decide) (by cases v1 <;> rfl) ?_
  obtain ⟨z2, hlp2, hfo2⟩ := bind_some hf
  clear hf
  have hloop2 : ∀ (k : Nat), ∀ (x2 : Int32) (hh : PH), (lpn (f_X0_dropOldest_L8 (a0) (v1)) k (x2, hh)) = some z2 → G p l e ({ frames := 1, cells := 0, slots := 0, locals := 21 } : Room) s m args below meth c 3 g X h 0 0 (MQ below (QW g X h s.heap.size none r) args s 0 0 (AF X h s.heap.size)) 8 [(0, .ref (a0)), (1, va_rf (v1)), (2, .int (x2))] [] hh := by
    intro k
    induction k with
    | zero => intro x2 hh hlp2; exact (lpn_0 hlp2).elim
    | succ k ih2 =>
      intro x2 hh hlp2
      obtain ⟨y2, hf, hlp2⟩ := lpn_s hlp2
      unfold f_X0_dropOldest_L8 at hf
      try dsimp only at hf
      refine G.iload_n C 2 dX0_dropOldest_8 rfl rfl ?_
      refine G.aload_n C 0 dX0_dropOldest_9 rfl rfl ?_
      refine G.getR (ci := 0) (k := 0) C rfl inlX0 (by decide) m9_52 rfl hf dX0_dropOldest_10 (fun v3 hv3 hf => ?_)
      try dsimp only at hf
      refine G.alen C hf dX0_dropOldest_13 (fun v4 hv4 hf => ?_)
      try dsimp only at hf
      refine G.icmp_ge (tgt := 37) C dX0_dropOldest_14 (by decide) hf (fun c10 hf => ?_) (fun c10 hf => ?_)
      · cases hf
        change some _ = some _ at hlp2
        have hf := hfo2
        try rw [← Option.some.inj hlp2] at hf
        try dsimp only at hf
        refine G.sub C [0, 1] (lv' := [(0, .ref (a0)), (1, va_rf (v1))]) rfl ?_
        exact hj37 _ _ _ hf
      · refine G.aload_n C 0 dX0_dropOldest_17 rfl rfl ?_
        refine G.getR (ci := 0) (k := 0) C rfl inlX0 (by decide) m9_52 rfl hf dX0_dropOldest_18 (fun v5 hv5 hf => ?_)
        try dsimp only at hf
        refine G.iload_n C 2 dX0_dropOldest_21 rfl rfl ?_
        refine G.iconst (v := 1) C dX0_dropOldest_22 (by decide) ?_
        refine G.isub C dX0_dropOldest_23 ?_
        refine G.aload_n C 0 dX0_dropOldest_24 rfl rfl ?_
        refine G.getR (ci := 0) (k := 0) C rfl inlX0 (by decide) m9_52 rfl hf dX0_dropOldest_25 (fun v6 hv6 hf => ?_)
        try dsimp only at hf
        refine G.iload_n C 2 dX0_dropOldest_28 rfl rfl ?_
        refine G.aald C hf dX0_dropOldest_29 (fun v7 hv7 hf => ?_)
        try dsimp only at hf
        obtain ⟨w9, ew9, hf⟩ := bind_some hf
        subst ew9
        try dsimp only at hf
        refine G.aast (v := w9) C hf dX0_dropOldest_30 (fun h8 hh8 hf => ?_)
        try dsimp only at hf
        refine G.iinc (k := 2) (v := (x2 + 1)) (lv' := [(2, .int ((x2 + 1))), (0, .ref (a0)), (1, va_rf (v1))]) C dX0_dropOldest_31 rfl rfl (by decide) (by cases v1 <;> rfl) ?_
        refine G.goto (tgt := 8) C dX0_dropOldest_34 (by decide) ?_
        cases hf
        refine G.sub C [1, 2, 0] (lv' := [(0, .ref (a0)), (1, va_rf (v1)), (2, .int ((x2 + 1)))]) rfl ?_
        exact ih2 _ _ hlp2
  refine G.sub C [2, 1, 0] (lv' := [(0, .ref (a0)), (1, va_rf (v1)), (2, .int ((1 : Int32)))]) rfl ?_
  exact hloop2 LF _ _ hlp2
theorem ko_X3_copyFrom {h : PH} {a0 : Nat} {a1 : Nat} {r : PH} (hf : f_X3_copyFrom h a0 a1 = some r) : kO h a0 2 := by
  unfold f_X3_copyFrom at hf
  exact okO_k (gd_ok hf).1
theorem kd_X3_copyFrom : yX3_copyFrom.cls = RX3 ∧ yX3_copyFrom.cls ≠ "java/lang/invoke/MethodHandle" ∧ yX3_copyFrom.cls ≠ "java/lang/invoke/VarHandle" ∧ (parseMethodDescriptor yX3_copyFrom.desc).map (fun d => d.parameters.length) = some 1 := by decide +kernel
set_option maxRecDepth 20000 in
set_option maxHeartbeats 4000000 in
theorem ct_X3_copyFrom {l : Launch} {h : PH} {a0 : Nat} {a1 : Nat} {r : PH} (hf : f_X3_copyFrom h a0 a1 = some r) : CT l yX3_copyFrom cX3_copyFrom 5 none 1 22 [.ref (a0), .ref (a1)] h none r := by
  refine CT.of (own := RX3) rfl (by decide) (Nat.le_of_ble_eq_true rfl) ?_
  intro p e R s m args below meth c g X hR C
  subst hR
  unfold f_X3_copyFrom at hf
  obtain ⟨hok, hf⟩ := gd_ok hf
  have hj90 : ∀ (hh : PH) (x0 : Nat) (x1 : Nat), f_X3_copyFrom_J90 hh (x0) (x1) = some r → G p l e ({ frames := 1, cells := 0, slots := 0, locals := 22 } : Room) s m args below meth c 5 g X h 0 0 (MQ below (QW g X h s.heap.size none r) args s 0 0 (AF X h s.heap.size)) 90 [(0, .ref (x0)), (1, .ref (x1))] [] hh := by
    intro hh x0 x1 hf
    unfold f_X3_copyFrom_J90 at hf
    refine G.aload_n C 0 dX3_copyFrom_90 rfl rfl ?_
    refine G.aload_n C 1 dX3_copyFrom_91 rfl rfl ?_
    refine G.getI (ci := 2) (k := 3) C rfl inlX3 (by decide) m9_36 rfl hf dX3_copyFrom_92 (fun v25 hv25 hf => ?_)
    try dsimp only at hf
    refine G.put (ci := 2) (k := 3) C rfl inlX3 (by decide) m9_36 rfl tyX3 tyX3_ok nmX3 rfl rfl rfl hf dX3_copyFrom_95 (fun h26 hh26 hf => ?_)
    try dsimp only at hf
    refine G.aload_n C 0 dX3_copyFrom_98 rfl rfl ?_
    refine G.aload_n C 1 dX3_copyFrom_99 rfl rfl ?_
    refine G.getI (ci := 2) (k := 4) C rfl inlX3 (by decide) m9_37 rfl hf dX3_copyFrom_100 (fun v27 hv27 hf => ?_)
    try dsimp only at hf
    refine G.put (ci := 2) (k := 4) C rfl inlX3 (by decide) m9_37 rfl tyX3 tyX3_ok nmX3 rfl rfl rfl hf dX3_copyFrom_103 (fun h28 hh28 hf => ?_)
    try dsimp only at hf
    refine G.aload_n C 0 dX3_copyFrom_106 rfl rfl ?_
    refine G.aload_n C 1 dX3_copyFrom_107 rfl rfl ?_
    refine G.getI (ci := 2) (k := 5) C rfl inlX3 (by decide) m9_38 rfl hf dX3_copyFrom_108 (fun v29 hv29 hf => ?_)
    try dsimp only at hf
    refine G.put (ci := 2) (k := 5) C rfl inlX3 (by decide) m9_38 rfl tyX3 tyX3_ok nmX3 rfl rfl rfl hf dX3_copyFrom_111 (fun h30 hh30 hf => ?_)
    try dsimp only at hf
    cases hf
    exact G.vret C rfl dX3_copyFrom_114
  have hj38 : ∀ (hh : PH) (x0 : Nat) (x1 : Nat), f_X3_copyFrom_J38 hh (x0) (x1) = some r → G p l e ({ frames := 1, cells := 0, slots := 0, locals := 22 } : Room) s m args below meth c 5 g X h 0 0 (MQ below (QW g X h s.heap.size none r) args s 0 0 (AF X h s.heap.size)) 38 [(0, .ref (x0)), (1, .ref (x1))] [] hh := by
    intro hh x0 x1 hf
    unfold f_X3_copyFrom_J38 at hf
    refine G.aload_n C 0 dX3_copyFrom_38 rfl rfl ?_
    refine G.aload_n C 1 dX3_copyFrom_39 rfl rfl ?_
    refine G.getI (ci := 2) (k := 2) C rfl inlX3 (by decide) m9_35 rfl hf dX3_copyFrom_40 (fun v31 hv31 hf => ?_)
    try dsimp only at hf
    refine G.put (ci := 2) (k := 2) C rfl inlX3 (by decide) m9_35 rfl tyX3 tyX3_ok nmX3 rfl rfl rfl hf dX3_copyFrom_43 (fun h32 hh32 hf => ?_)
    try dsimp only at hf
    refine G.iconst (v := 0) C dX3_copyFrom_46 (by decide) ?_
    refine G.istore_n (lv' := [(2, .int ((0 : Int32))), (0, .ref (x0)), (1, .ref (x1))]) C dX3_copyFrom_47 rfl (by decide) rfl ?_
    obtain ⟨z33, hlp33, hfo33⟩ := bind_some hf
    clear hf
    have hloop33 : ∀ (k : Nat), ∀ (x2 : Int32) (hh : PH), (lpn (f_X3_copyFrom_L48 (x0) (x1)) k (x2, hh)) = some z33 → G p l e ({ frames := 1, cells := 0, slots := 0, locals := 22 } : Room) s m args below meth c 5 g X h 0 0 (MQ below (QW g X h s.heap.size none r) args s 0 0 (AF X h s.heap.size)) 48 [(0, .ref (x0)), (1, .ref (x1)), (2, .int (x2))] [] hh := by
      intro k
      induction k with
      | zero => intro x2 hh hlp33; exact (lpn_0 hlp33).elim
      | succ k ih33 =>
        intro x2 hh hlp33
        obtain ⟨y33, hf, hlp33⟩ := lpn_s hlp33
        unfold f_X3_copyFrom_L48 at hf
        try dsimp only at hf
        have hj84 : ∀ (hh : PH) (x2 : Int32), f_X3_copyFrom_J84 hh (x0) (x1) (x2) = some y33 → G p l e ({ frames := 1, cells := 0, slots := 0, locals := 22 } : Room) s m args below meth c 5 g X h 0 0 (MQ below (QW g X h s.heap.size none r) args s 0 0 (AF X h s.heap.size)) 84 [(0, .ref (x0)), (1, .ref (x1)), (2, .int (x2))] [] hh := by
          intro hh x2 hf
          unfold f_X3_copyFrom_J84 at hf
          refine G.iinc (k := 2) (v := (x2 + 1)) (lv' := [(2, .int ((x2 + 1))), (0, .ref (x0)), (1, .ref (x1))]) C dX3_copyFrom_84 rfl rfl (by decide) rfl ?_
          refine G.goto (tgt := 48) C dX3_copyFrom_87 (by decide) ?_
          cases hf
          refine G.sub C [1, 2, 0] (lv' := [(0, .ref (x0)), (1, .ref (x1)), (2, .int ((x2 + 1)))]) rfl ?_
          exact ih33 _ _ hlp33
        refine G.iload_n C 2 dX3_copyFrom_48 rfl rfl ?_
        refine G.aload_n C 0 dX3_copyFrom_49 rfl rfl ?_
        refine G.getI (ci := 2) (k := 2) C rfl inlX3 (by decide) m9_35 rfl hf dX3_copyFrom_50 (fun v34 hv34 hf => ?_)
        try dsimp only at hf
        refine G.icmp_ge (tgt := 90) C dX3_copyFrom_53 (by decide) hf (fun c42 hf => ?_) (fun c42 hf => ?_)
        · cases hf
          change some _ = some _ at hlp33
          have hf := hfo33
          try rw [← Option.some.inj hlp33] at hf
          try dsimp only at hf
          refine G.sub C [0, 1] (lv' := [(0, .ref (x0)), (1, .ref (x1))]) rfl ?_
          exact hj90 _ _ _ hf
        · refine G.aload_n C 0 dX3_copyFrom_56 rfl rfl ?_
          refine G.iload_n C 2 dX3_copyFrom_57 rfl rfl ?_
          obtain ⟨v35, hv35, hf⟩ := bind_some hf
          try dsimp only at hf
          refine G.callV C (st := []) (st2 := [va_rf (v35)]) (ct_X3_ropeAt hv35) (ko_X3_ropeAt hv35) rfl m9_88 m9_89 m9_90 m9_11 m9_91 kd_X3_ropeAt ⟨Nat.le_of_ble_eq_true rfl, Nat.le_of_ble_eq_true rfl⟩ ⟨Nat.zero_le _, Nat.zero_le _⟩ (Nat.le_of_ble_eq_true rfl) rfl rfl dX3_copyFrom_58 ?_
          refine G.qstore_n (lv' := [(3, va_rf (v35)), (0, .ref (x0)), (1, .ref (x1)), (2, .int (x2))]) C dX3_copyFrom_61 rfl (by decide) rfl ?_
          refine G.aload_n C 2 dX3_copyFrom_62 rfl rfl ?_
          refine G.iload_n C 3 dX3_copyFrom_63 rfl rfl ?_
          obtain ⟨v36, hv36, hf⟩ := bind_some hf
          try dsimp only at hf
          refine G.callV C (st := []) (st2 := [va_rf (v36)]) (ct_X3_ropeAt hv36) (ko_X3_ropeAt hv36) rfl m9_88 m9_89 m9_90 m9_11 m9_91 kd_X3_ropeAt ⟨Nat.le_of_ble_eq_true rfl, Nat.le_of_ble_eq_true rfl⟩ ⟨Nat.zero_le _, Nat.zero_le _⟩ (Nat.le_of_ble_eq_true rfl) rfl rfl dX3_copyFrom_64 ?_
          refine G.qstore (lv' := [(4, va_rf (v36)), (3, va_rf (v35)), (0, .ref (x0)), (1, .ref (x1)), (2, .int (x2))]) C dX3_copyFrom_67 (by decide) (by cases v35 <;> rfl) ?_
          refine G.qload_n C 1 dX3_copyFrom_69 rfl rfl ?_
          refine G.ifnull (tgt := 84) C dX3_copyFrom_70 (by decide) (fun e41 => ?_) (fun a37 e41 => ?_)
          · subst e41
            try dsimp only at hf
            refine G.sub C [2, 3, 4] (lv' := [(0, .ref (x0)), (1, .ref (x1)), (2, .int (x2))]) rfl ?_
            exact hj84 _ _ hf
          · subst e41
            try dsimp only at hf
            refine G.qload C 0 dX3_copyFrom_73 rfl ?_
            refine G.ifnull (tgt := 84) C dX3_copyFrom_75 (by decide) (fun e40 => ?_) (fun a38 e40 => ?_)
            · subst e40
              try dsimp only at hf
              refine G.sub C [2, 3, 4] (lv' := [(0, .ref (x0)), (1, .ref (x1)), (2, .int (x2))]) rfl ?_
              exact hj84 _ _ hf
            · subst e40
              try dsimp only at hf
              refine G.aload_n C 1 dX3_copyFrom_78 rfl rfl ?_
              refine G.aload C 0 dX3_copyFrom_79 rfl ?_
              obtain ⟨h39, hh39, hf⟩ := bind_some hf
              try dsimp only at hf
              refine G.callV C (st := []) (st2 := []) (ct_X2_copyFrom hh39) (ko_X2_copyFrom hh39) rfl m9_319 m9_320 m9_321 m9_24 m9_322 kd_X2_copyFrom ⟨Nat.le_of_ble_eq_true rfl, Nat.le_of_ble_eq_true rfl⟩ ⟨Nat.zero_le _, Nat.zero_le _⟩ (Nat.le_of_ble_eq_true rfl) rfl rfl dX3_copyFrom_81 ?_
              refine G.sub C [2, 3, 4] (lv' := [(0, .ref (x0)), (1, .ref (x1)), (2, .int (x2))]) rfl ?_
              exact hj84 _ _ hf
    refine G.sub C [1, 2, 0] (lv' := [(0, .ref (x0)), (1, .ref (x1)), (2, .int ((0 : Int32)))]) rfl ?_
    exact hloop33 LF _ _ hlp33
  refine G.sub C [0, 1] (lv' := [(0, .ref (a0)), (1, .ref (a1))]) rfl ?_
  refine G.iconst (v := 0) C dX3_copyFrom_0 (by decide) ?_
  refine G.istore_n (lv' := [(2, .int ((0 : Int32))), (0, .ref (a0)), (1, .ref (a1))]) C dX3_copyFrom_1 rfl (by decide) rfl ?_
  obtain ⟨z1, hlp1, hfo1⟩ := bind_some hf
  clear hf
  have hloop1 : ∀ (k : Nat), ∀ (x2 : Int32) (hh : PH), (lpn (f_X3_copyFrom_L2 (a0) (a1)) k (x2, hh)) = some z1 → G p l e ({ frames := 1, cells := 0, slots := 0, locals := 22 } : Room) s m args below meth c 5 g X h 0 0 (MQ below (QW g X h s.heap.size none r) args s 0 0 (AF X h s.heap.size)) 2 [(0, .ref (a0)), (1, .ref (a1)), (2, .int (x2))] [] hh := by
    intro k
    induction k with
    | zero => intro x2 hh hlp1; exact (lpn_0 hlp1).elim
    | succ k ih1 =>
      intro x2 hh hlp1
      obtain ⟨y1, hf, hlp1⟩ := lpn_s hlp1
      unfold f_X3_copyFrom_L2 at hf
      try dsimp only at hf
      refine G.iload_n C 2 dX3_copyFrom_2 rfl rfl ?_
      refine G.aload_n C 0 dX3_copyFrom_3 rfl rfl ?_
      refine G.getR (ci := 2) (k := 0) C rfl inlX3 (by decide) m9_32 rfl hf dX3_copyFrom_4 (fun v2 hv2 hf => ?_)
      try dsimp only at hf
      refine G.alen C hf dX3_copyFrom_7 (fun v3 hv3 hf => ?_)
      try dsimp only at hf
      refine G.icmp_ge (tgt := 38) C dX3_copyFrom_8 (by decide) hf (fun c11 hf => ?_) (fun c11 hf => ?_)
      · cases hf
        change some _ = some _ at hlp1
        have hf := hfo1
        try rw [← Option.some.inj hlp1] at hf
        try dsimp only at hf
        refine G.sub C [0, 1] (lv' := [(0, .ref (a0)), (1, .ref (a1))]) rfl ?_
        exact hj38 _ _ _ hf
      · refine G.iload_n C 2 dX3_copyFrom_11 rfl rfl ?_
        refine G.aload_n C 1 dX3_copyFrom_12 rfl rfl ?_
        refine G.getR (ci := 2) (k := 0) C rfl inlX3 (by decide) m9_32 rfl hf dX3_copyFrom_13 (fun v4 hv4 hf => ?_)
        try dsimp only at hf
        refine G.alen C hf dX3_copyFrom_16 (fun v5 hv5 hf => ?_)
        try dsimp only at hf
        refine G.icmp_ge (tgt := 38) C dX3_copyFrom_17 (by decide) hf (fun c10 hf => ?_) (fun c10 hf => ?_)
        · cases hf
          change some _ = some _ at hlp1
          have hf := hfo1
          try rw [← Option.some.inj hlp1] at hf
          try dsimp only at hf
          refine G.sub C [0, 1] (lv' := [(0, .ref (a0)), (1, .ref (a1))]) rfl ?_
          exact hj38 _ _ _ hf
        · refine G.aload_n C 0 dX3_copyFrom_20 rfl rfl ?_
          refine G.getR (ci := 2) (k := 0) C rfl inlX3 (by decide) m9_32 rfl hf dX3_copyFrom_21 (fun v6 hv6 hf => ?_)
          try dsimp only at hf
          refine G.iload_n C 2 dX3_copyFrom_24 rfl rfl ?_
          refine G.aload_n C 1 dX3_copyFrom_25 rfl rfl ?_
          refine G.getR (ci := 2) (k := 0) C rfl inlX3 (by decide) m9_32 rfl hf dX3_copyFrom_26 (fun v7 hv7 hf => ?_)
          try dsimp only at hf
          refine G.iload_n C 2 dX3_copyFrom_29 rfl rfl ?_
          refine G.iald C hf dX3_copyFrom_30 (fun v8 hv8 hf => ?_)
          try dsimp only at hf
          refine G.iast C hf dX3_copyFrom_31 (fun h9 hh9 hf => ?_)
          try dsimp only at hf
          refine G.iinc (k := 2) (v := (x2 + 1)) (lv' := [(2, .int ((x2 + 1))), (0, .ref (a0)), (1, .ref (a1))]) C dX3_copyFrom_32 rfl rfl (by decide) rfl ?_
          refine G.goto (tgt := 2) C dX3_copyFrom_35 (by decide) ?_
          cases hf
          refine G.sub C [1, 2, 0] (lv' := [(0, .ref (a0)), (1, .ref (a1)), (2, .int ((x2 + 1)))]) rfl ?_
          exact ih1 _ _ hlp1
  refine G.sub C [1, 2, 0] (lv' := [(0, .ref (a0)), (1, .ref (a1)), (2, .int ((0 : Int32)))]) rfl ?_
  exact hloop1 LF _ _ hlp1
theorem ko_X0_save {h : PH} {a0 : Nat} {a1 : Nat} {r : PH} (hf : f_X0_save h a0 a1 = some r) : kO h a0 0 := by
  unfold f_X0_save at hf
  exact okO_k (gd_ok hf).1
theorem kd_X0_save : yX0_save.cls = RX0 ∧ yX0_save.cls ≠ "java/lang/invoke/MethodHandle" ∧ yX0_save.cls ≠ "java/lang/invoke/VarHandle" ∧ (parseMethodDescriptor yX0_save.desc).map (fun d => d.parameters.length) = some 1 := by decide +kernel
set_option maxRecDepth 20000 in
set_option maxHeartbeats 4000000 in
theorem ct_X0_save {l : Launch} {h : PH} {a0 : Nat} {a1 : Nat} {r : PH} (hf : f_X0_save h a0 a1 = some r) : CT l yX0_save cX0_save 3 none 2 46 [.ref (a0), .ref (a1)] h none r := by
  refine CT.of (own := RX0) rfl (by decide) (Nat.le_of_ble_eq_true rfl) ?_
  intro p e R s m args below meth c g X hR C
  subst hR
  unfold f_X0_save at hf
  obtain ⟨hok, hf⟩ := gd_ok hf
  have hj44 : ∀ (hh : PH), f_X0_save_J44 hh = some r → G p l e ({ frames := 2, cells := 0, slots := 0, locals := 46 } : Room) s m args below meth c 3 g X h 0 0 (MQ below (QW g X h s.heap.size none r) args s 0 0 (AF X h s.heap.size)) 44 [] [] hh := by
    intro hh hf
    unfold f_X0_save_J44 at hf
    cases hf
    exact G.vret C rfl dX0_save_44
  have hj16 : ∀ (hh : PH) (x0 : Nat) (x1 : Nat), f_X0_save_J16 hh (x0) (x1) = some r → G p l e ({ frames := 2, cells := 0, slots := 0, locals := 46 } : Room) s m args below meth c 3 g X h 0 0 (MQ below (QW g X h s.heap.size none r) args s 0 0 (AF X h s.heap.size)) 16 [(0, .ref (x0)), (1, .ref (x1))] [] hh := by
    intro hh x0 x1 hf
    unfold f_X0_save_J16 at hf
    refine G.aload_n C 0 dX0_save_16 rfl rfl ?_
    refine G.aload_n C 0 dX0_save_17 rfl rfl ?_
    refine G.getI (ci := 0) (k := 1) C rfl inlX0 (by decide) m9_53 rfl hf dX0_save_18 (fun v11 hv11 hf => ?_)
    try dsimp only at hf
    obtain ⟨v12, hv12, hf⟩ := bind_some hf
    try dsimp only at hf
    refine G.callV C (st := []) (st2 := [va_rf (v12)]) (ct_X0_rowAt hv12) (ko_X0_rowAt hv12) rfl m9_356 m9_357 m9_358 m9_16 m9_359 kd_X0_rowAt ⟨Nat.le_of_ble_eq_true rfl, Nat.le_of_ble_eq_true rfl⟩ ⟨Nat.zero_le _, Nat.zero_le _⟩ (Nat.le_of_ble_eq_true rfl) rfl rfl dX0_save_21 ?_
    refine G.qstore_n (lv' := [(2, va_rf (v12)), (0, .ref (x0)), (1, .ref (x1))]) C dX0_save_24 rfl (by decide) rfl ?_
    refine G.qload_n C 0 dX0_save_25 rfl rfl ?_
    refine G.ifnull (tgt := 44) C dX0_save_26 (by decide) (fun e17 => ?_) (fun a13 e17 => ?_)
    · subst e17
      try dsimp only at hf
      refine G.sub C [] (lv' := []) rfl ?_
      exact hj44 _ hf
    · subst e17
      try dsimp only at hf
      refine G.aload_n C 0 dX0_save_29 rfl rfl ?_
      refine G.aload_n C 2 dX0_save_30 rfl rfl ?_
      obtain ⟨h14, hh14, hf⟩ := bind_some hf
      try dsimp only at hf
      refine G.callV C (st := []) (st2 := []) (ct_X3_copyFrom hh14) (ko_X3_copyFrom hh14) rfl m9_360 m9_316 m9_317 m9_11 m9_318 kd_X3_copyFrom ⟨Nat.le_of_ble_eq_true rfl, Nat.le_of_ble_eq_true rfl⟩ ⟨Nat.zero_le _, Nat.zero_le _⟩ (Nat.le_of_ble_eq_true rfl) rfl rfl dX0_save_31 ?_
      refine G.aload_n C 1 dX0_save_34 rfl rfl ?_
      refine G.dup C dX0_save_35 rfl ?_
      refine G.getI (ci := 0) (k := 1) C rfl inlX0 (by decide) m9_53 rfl hf dX0_save_36 (fun v15 hv15 hf => ?_)
      try dsimp only at hf
      refine G.iconst (v := 1) C dX0_save_39 (by decide) ?_
      refine G.iadd C dX0_save_40 ?_
      refine G.put (ci := 0) (k := 1) C rfl inlX0 (by decide) m9_53 rfl tyX0 tyX0_ok nmX0 rfl rfl rfl hf dX0_save_41 (fun h16 hh16 hf => ?_)
      try dsimp only at hf
      refine G.sub C [] (lv' := []) rfl ?_
      exact hj44 _ hf
  refine G.sub C [0, 1] (lv' := [(0, .ref (a0)), (1, .ref (a1))]) rfl ?_
  refine G.aload_n C 0 dX0_save_0 rfl rfl ?_
  refine G.getI (ci := 0) (k := 1) C rfl inlX0 (by decide) m9_53 rfl hf dX0_save_1 (fun v1 hv1 hf => ?_)
  try dsimp only at hf
  refine G.aload_n C 0 dX0_save_4 rfl rfl ?_
  refine G.getR (ci := 0) (k := 0) C rfl inlX0 (by decide) m9_52 rfl hf dX0_save_5 (fun v2 hv2 hf => ?_)
  try dsimp only at hf
  refine G.alen C hf dX0_save_8 (fun v3 hv3 hf => ?_)
  try dsimp only at hf
  refine G.icmp_lt (tgt := 16) C dX0_save_9 (by decide) hf (fun c5 hf => ?_) (fun c5 hf => ?_)
  · refine G.sub C [0, 1] (lv' := [(0, .ref (a0)), (1, .ref (a1))]) rfl ?_
    exact hj16 _ _ _ hf
  · refine G.aload_n C 0 dX0_save_12 rfl rfl ?_
    obtain ⟨h4, hh4, hf⟩ := bind_some hf
    try dsimp only at hf
    refine G.callV C (st := []) (st2 := []) (ct_X0_dropOldest hh4) (ko_X0_dropOldest hh4) rfl m9_352 m9_353 m9_354 m9_16 m9_355 kd_X0_dropOldest ⟨Nat.le_of_ble_eq_true rfl, Nat.le_of_ble_eq_true rfl⟩ ⟨Nat.zero_le _, Nat.zero_le _⟩ (Nat.le_of_ble_eq_true rfl) rfl rfl dX0_save_13 ?_
    refine G.sub C [0, 1] (lv' := [(0, .ref (a0)), (1, .ref (a1))]) rfl ?_
    exact hj16 _ _ _ hf
theorem ko_X3_gapAt {h : PH} {a0 : Nat} {a1 : Int32} {r : Int32} (hf : f_X3_gapAt h a0 a1 = some r) : kO h a0 2 := by
  unfold f_X3_gapAt at hf
  exact okO_k (gd_ok hf).1
theorem kd_X3_gapAt : yX3_gapAt.cls = RX3 ∧ yX3_gapAt.cls ≠ "java/lang/invoke/MethodHandle" ∧ yX3_gapAt.cls ≠ "java/lang/invoke/VarHandle" ∧ (parseMethodDescriptor yX3_gapAt.desc).map (fun d => d.parameters.length) = some 1 := by decide +kernel
set_option maxRecDepth 20000 in
set_option maxHeartbeats 4000000 in
theorem ct_X3_gapAt {l : Launch} {h : PH} {a0 : Nat} {a1 : Int32} {r : Int32} (hf : f_X3_gapAt h a0 a1 = some r) : CT l yX3_gapAt cX3_gapAt 2 (some .int) 0 0 [.ref (a0), .int (a1)] h (some (.int r)) h := by
  refine CT.of (own := RX3) rfl (by decide) (Nat.le_of_ble_eq_true rfl) ?_
  intro p e R s m args below meth c g X hR C
  subst hR
  unfold f_X3_gapAt at hf
  obtain ⟨hok, hf⟩ := gd_ok hf
  have hj23 : ∀ (k0 : Int32), f_X3_gapAt_J23 h k0 = some r → G p l e ({ frames := 0, cells := 0, slots := 0, locals := 0 } : Room) s m args below meth c 2 g X h 0 0 (MQ below (QW g X h s.heap.size (some (.int r)) h) args s 0 0 (AF X h s.heap.size)) 23 [] [.int (k0)] h := by
    intro k0 hf
    unfold f_X3_gapAt_J23 at hf
    cases hf
    exact G.iret C rfl dX3_gapAt_23
  have hj22 : f_X3_gapAt_J22 h = some r → G p l e ({ frames := 0, cells := 0, slots := 0, locals := 0 } : Room) s m args below meth c 2 g X h 0 0 (MQ below (QW g X h s.heap.size (some (.int r)) h) args s 0 0 (AF X h s.heap.size)) 22 [] [] h := by
    intro hf
    unfold f_X3_gapAt_J22 at hf
    refine G.iconst (v := 0) C dX3_gapAt_22 (by decide) ?_
    refine G.sub C [] (lv' := []) rfl ?_
    exact hj23 _ hf
  refine G.sub C [0, 1] (lv' := [(0, .ref (a0)), (1, .int (a1))]) rfl ?_
  refine G.iload_n C 1 dX3_gapAt_0 rfl rfl ?_
  refine G.if_lt (tgt := 22) C dX3_gapAt_1 (by decide) hf (fun c6 hf => ?_) (fun c6 hf => ?_)
  · refine G.sub C [] (lv' := []) rfl ?_
    exact hj22  hf
  · refine G.iload_n C 1 dX3_gapAt_4 rfl rfl ?_
    refine G.aload_n C 0 dX3_gapAt_5 rfl rfl ?_
    refine G.getR (ci := 2) (k := 0) C rfl inlX3 (by decide) m9_32 rfl hf dX3_gapAt_6 (fun v1 hv1 hf => ?_)
    try dsimp only at hf
    refine G.alen C hf dX3_gapAt_9 (fun v2 hv2 hf => ?_)
    try dsimp only at hf
    refine G.icmp_ge (tgt := 22) C dX3_gapAt_10 (by decide) hf (fun c5 hf => ?_) (fun c5 hf => ?_)
    · refine G.sub C [] (lv' := []) rfl ?_
      exact hj22  hf
    · refine G.aload_n C 0 dX3_gapAt_13 rfl rfl ?_
      refine G.getR (ci := 2) (k := 0) C rfl inlX3 (by decide) m9_32 rfl hf dX3_gapAt_14 (fun v3 hv3 hf => ?_)
      try dsimp only at hf
      refine G.iload_n C 1 dX3_gapAt_17 rfl rfl ?_
      refine G.iald C hf dX3_gapAt_18 (fun v4 hv4 hf => ?_)
      try dsimp only at hf
      refine G.goto (tgt := 23) C dX3_gapAt_19 (by decide) ?_
      refine G.sub C [] (lv' := []) rfl ?_
      exact hj23 _ hf
theorem ko_X3_setGap {h : PH} {a0 : Nat} {a1 : Int32} {a2 : Int32} {r : PH} (hf : f_X3_setGap h a0 a1 a2 = some r) : kO h a0 2 := by
  unfold f_X3_setGap at hf
  exact okO_k (gd_ok hf).1
theorem kd_X3_setGap : yX3_setGap.cls = RX3 ∧ yX3_setGap.cls ≠ "java/lang/invoke/MethodHandle" ∧ yX3_setGap.cls ≠ "java/lang/invoke/VarHandle" ∧ (parseMethodDescriptor yX3_setGap.desc).map (fun d => d.parameters.length) = some 2 := by decide +kernel
set_option maxRecDepth 20000 in
set_option maxHeartbeats 4000000 in
theorem ct_X3_setGap {l : Launch} {h : PH} {a0 : Nat} {a1 : Int32} {a2 : Int32} {r : PH} (hf : f_X3_setGap h a0 a1 a2 = some r) : CT l yX3_setGap cX3_setGap 3 none 0 0 [.ref (a0), .int (a1), .int (a2)] h none r := by
  refine CT.of (own := RX3) rfl (by decide) (Nat.le_of_ble_eq_true rfl) ?_
  intro p e R s m args below meth c g X hR C
  subst hR
  unfold f_X3_setGap at hf
  obtain ⟨hok, hf⟩ := gd_ok hf
  have hj20 : ∀ (hh : PH), f_X3_setGap_J20 hh = some r → G p l e ({ frames := 0, cells := 0, slots := 0, locals := 0 } : Room) s m args below meth c 3 g X h 0 0 (MQ below (QW g X h s.heap.size none r) args s 0 0 (AF X h s.heap.size)) 20 [] [] hh := by
    intro hh hf
    unfold f_X3_setGap_J20 at hf
    cases hf
    exact G.vret C rfl dX3_setGap_20
  refine G.sub C [0, 1, 2] (lv' := [(0, .ref (a0)), (1, .int (a1)), (2, .int (a2))]) rfl ?_
  refine G.iload_n C 1 dX3_setGap_0 rfl rfl ?_
  refine G.if_lt (tgt := 20) C dX3_setGap_1 (by decide) hf (fun c6 hf => ?_) (fun c6 hf => ?_)
  · refine G.sub C [] (lv' := []) rfl ?_
    exact hj20 _ hf
  · refine G.iload_n C 1 dX3_setGap_4 rfl rfl ?_
    refine G.aload_n C 0 dX3_setGap_5 rfl rfl ?_
    refine G.getR (ci := 2) (k := 0) C rfl inlX3 (by decide) m9_32 rfl hf dX3_setGap_6 (fun v1 hv1 hf => ?_)
    try dsimp only at hf
    refine G.alen C hf dX3_setGap_9 (fun v2 hv2 hf => ?_)
    try dsimp only at hf
    refine G.icmp_ge (tgt := 20) C dX3_setGap_10 (by decide) hf (fun c5 hf => ?_) (fun c5 hf => ?_)
    · refine G.sub C [] (lv' := []) rfl ?_
      exact hj20 _ hf
    · refine G.aload_n C 0 dX3_setGap_13 rfl rfl ?_
      refine G.getR (ci := 2) (k := 0) C rfl inlX3 (by decide) m9_32 rfl hf dX3_setGap_14 (fun v3 hv3 hf => ?_)
      try dsimp only at hf
      refine G.iload_n C 1 dX3_setGap_17 rfl rfl ?_
      refine G.iload_n C 2 dX3_setGap_18 rfl rfl ?_
      refine G.iast C hf dX3_setGap_19 (fun h4 hh4 hf => ?_)
      try dsimp only at hf
      refine G.sub C [] (lv' := []) rfl ?_
      exact hj20 _ hf
theorem ko_X3_ropeCount {h : PH} {a0 : Nat} {r : Int32} (hf : f_X3_ropeCount h a0 = some r) : kO h a0 2 := by
  unfold f_X3_ropeCount at hf
  exact okO_k (gd_ok hf).1
theorem kd_X3_ropeCount : yX3_ropeCount.cls = RX3 ∧ yX3_ropeCount.cls ≠ "java/lang/invoke/MethodHandle" ∧ yX3_ropeCount.cls ≠ "java/lang/invoke/VarHandle" ∧ (parseMethodDescriptor yX3_ropeCount.desc).map (fun d => d.parameters.length) = some 0 := by decide +kernel
set_option maxRecDepth 20000 in
set_option maxHeartbeats 4000000 in
theorem ct_X3_ropeCount {l : Launch} {h : PH} {a0 : Nat} {r : Int32} (hf : f_X3_ropeCount h a0 = some r) : CT l yX3_ropeCount cX3_ropeCount 1 (some .int) 0 0 [.ref (a0)] h (some (.int r)) h := by
  refine CT.of (own := RX3) rfl (by decide) (Nat.le_of_ble_eq_true rfl) ?_
  intro p e R s m args below meth c g X hR C
  subst hR
  unfold f_X3_ropeCount at hf
  obtain ⟨hok, hf⟩ := gd_ok hf
  refine G.sub C [0] (lv' := [(0, .ref (a0))]) rfl ?_
  refine G.aload_n C 0 dX3_ropeCount_0 rfl rfl ?_
  refine G.getI (ci := 2) (k := 2) C rfl inlX3 (by decide) m9_35 rfl hf dX3_ropeCount_1 (fun v1 hv1 hf => ?_)
  try dsimp only at hf
  cases hf
  exact G.iret C rfl dX3_ropeCount_4
theorem ko_X3_addRope {h : PH} {a0 : Nat} {a1 : Int32} {r : ((Option Nat) × PH)} (hf : f_X3_addRope h a0 a1 = some r) : kO h a0 2 := by
  unfold f_X3_addRope at hf
  exact okO_k (gd_ok hf).1
theorem kd_X3_addRope : yX3_addRope.cls = RX3 ∧ yX3_addRope.cls ≠ "java/lang/invoke/MethodHandle" ∧ yX3_addRope.cls ≠ "java/lang/invoke/VarHandle" ∧ (parseMethodDescriptor yX3_addRope.desc).map (fun d => d.parameters.length) = some 1 := by decide +kernel
set_option maxRecDepth 20000 in
set_option maxHeartbeats 4000000 in
theorem ct_X3_addRope {l : Launch} {h : PH} {a0 : Nat} {a1 : Int32} {r : ((Option Nat) × PH)} (hf : f_X3_addRope h a0 a1 = some r) : CT l yX3_addRope cX3_addRope 3 (some (.object "PennantRopes$Rope")) 2 43 [.ref (a0), .int (a1)] h (some (va_rf r.1)) r.2 := by
  refine CT.of (own := RX3) rfl (by decide) (Nat.le_of_ble_eq_true rfl) ?_
  intro p e R s m args below meth c g X hR C
  subst hR
  unfold f_X3_addRope at hf
  obtain ⟨hok, hf⟩ := gd_ok hf
  have hj19 : f_X3_addRope_J19 h = some r → G p l e ({ frames := 2, cells := 0, slots := 0, locals := 43 } : Room) s m args below meth c 3 g X h 0 0 (MQ below (QW g X h s.heap.size (some (va_rf r.1)) r.2) args s 0 0 (AF X h s.heap.size)) 19 [] [] h := by
    intro hf
    unfold f_X3_addRope_J19 at hf
    refine G.null C dX3_addRope_19 ?_
    cases hf
    exact G.aret C rfl (Or.inl ⟨_, rfl⟩) dX3_addRope_20
  have hj51 : ∀ (hh : PH) (x2 : (Option Nat)), f_X3_addRope_J51 hh (x2) = some r → G p l e ({ frames := 2, cells := 0, slots := 0, locals := 43 } : Room) s m args below meth c 3 g X h 0 0 (MQ below (QW g X h s.heap.size (some (va_rf r.1)) r.2) args s 0 0 (AF X h s.heap.size)) 51 [(2, va_rf (x2))] [] hh := by
    intro hh x2 hf
    unfold f_X3_addRope_J51 at hf
    refine G.qload_n C 0 dX3_addRope_51 rfl rfl ?_
    cases hf
    exact G.aret C rfl (Or.inl ⟨_, rfl⟩) dX3_addRope_52
  refine G.sub C [0, 1] (lv' := [(0, .ref (a0)), (1, .int (a1))]) rfl ?_
  refine G.aload_n C 0 dX3_addRope_0 rfl rfl ?_
  refine G.getI (ci := 2) (k := 2) C rfl inlX3 (by decide) m9_35 rfl hf dX3_addRope_1 (fun v1 hv1 hf => ?_)
  try dsimp only at hf
  refine G.if_lt (tgt := 19) C dX3_addRope_4 (by decide) hf (fun c13 hf => ?_) (fun c13 hf => ?_)
  · refine G.sub C [] (lv' := []) rfl ?_
    exact hj19  hf
  · refine G.aload_n C 0 dX3_addRope_7 rfl rfl ?_
    refine G.getI (ci := 2) (k := 2) C rfl inlX3 (by decide) m9_35 rfl hf dX3_addRope_8 (fun v2 hv2 hf => ?_)
    try dsimp only at hf
    refine G.aload_n C 0 dX3_addRope_11 rfl rfl ?_
    refine G.getR (ci := 2) (k := 1) C rfl inlX3 (by decide) m9_34 rfl hf dX3_addRope_12 (fun v3 hv3 hf => ?_)
    try dsimp only at hf
    refine G.alen C hf dX3_addRope_15 (fun v4 hv4 hf => ?_)
    try dsimp only at hf
    refine G.icmp_lt (tgt := 21) C dX3_addRope_16 (by decide) hf (fun c12 hf => ?_) (fun c12 hf => ?_)
    · refine G.aload_n C 0 dX3_addRope_21 rfl rfl ?_
      refine G.dup C dX3_addRope_22 rfl ?_
      refine G.getI (ci := 2) (k := 2) C rfl inlX3 (by decide) m9_35 rfl hf dX3_addRope_23 (fun v5 hv5 hf => ?_)
      try dsimp only at hf
      refine G.iconst (v := 1) C dX3_addRope_26 (by decide) ?_
      refine G.iadd C dX3_addRope_27 ?_
      refine G.put (ci := 2) (k := 2) C rfl inlX3 (by decide) m9_35 rfl tyX3 tyX3_ok nmX3 rfl rfl rfl hf dX3_addRope_28 (fun h6 hh6 hf => ?_)
      try dsimp only at hf
      refine G.aload_n C 0 dX3_addRope_31 rfl rfl ?_
      refine G.aload_n C 0 dX3_addRope_32 rfl rfl ?_
      refine G.getI (ci := 2) (k := 2) C rfl inlX3 (by decide) m9_35 rfl hf dX3_addRope_33 (fun v7 hv7 hf => ?_)
      try dsimp only at hf
      refine G.iconst (v := 1) C dX3_addRope_36 (by decide) ?_
      refine G.isub C dX3_addRope_37 ?_
      obtain ⟨v8, hv8, hf⟩ := bind_some hf
      try dsimp only at hf
      refine G.callV C (st := []) (st2 := [va_rf (v8)]) (ct_X3_ropeAt hv8) (ko_X3_ropeAt hv8) rfl m9_88 m9_89 m9_90 m9_11 m9_91 kd_X3_ropeAt ⟨Nat.le_of_ble_eq_true rfl, Nat.le_of_ble_eq_true rfl⟩ ⟨Nat.zero_le _, Nat.zero_le _⟩ (Nat.le_of_ble_eq_true rfl) rfl rfl dX3_addRope_38 ?_
      refine G.qstore_n (lv' := [(2, va_rf (v8)), (0, .ref (a0)), (1, .int (a1))]) C dX3_addRope_41 rfl (by decide) rfl ?_
      refine G.qload_n C 0 dX3_addRope_42 rfl rfl ?_
      refine G.ifnull (tgt := 51) C dX3_addRope_43 (by decide) (fun e11 => ?_) (fun a9 e11 => ?_)
      · subst e11
        try dsimp only at hf
        refine G.sub C [0] (lv' := [(2, va_rf (none))]) rfl ?_
        exact hj51 _ _ hf
      · subst e11
        try dsimp only at hf
        refine G.aload_n C 0 dX3_addRope_46 rfl rfl ?_
        refine G.iload_n C 2 dX3_addRope_47 rfl rfl ?_
        obtain ⟨h10, hh10, hf⟩ := bind_some hf
        try dsimp only at hf
        refine G.callV C (st := []) (st2 := []) (ct_X2_begin hh10) (ko_X2_begin hh10) rfl m9_365 m9_289 m9_290 m9_24 m9_291 kd_X2_begin ⟨Nat.le_of_ble_eq_true rfl, Nat.le_of_ble_eq_true rfl⟩ ⟨Nat.zero_le _, Nat.zero_le _⟩ (Nat.le_of_ble_eq_true rfl) rfl rfl dX3_addRope_48 ?_
        refine G.sub C [0] (lv' := [(2, .ref (a9))]) rfl ?_
        exact hj51 _ _ hf
    · refine G.sub C [] (lv' := []) rfl ?_
      exact hj19  hf
theorem ko_X3_removeRope {h : PH} {a0 : Nat} {a1 : Int32} {r : PH} (hf : f_X3_removeRope h a0 a1 = some r) : kO h a0 2 := by
  unfold f_X3_removeRope at hf
  exact okO_k (gd_ok hf).1
theorem kd_X3_removeRope : yX3_removeRope.cls = RX3 ∧ yX3_removeRope.cls ≠ "java/lang/invoke/MethodHandle" ∧ yX3_removeRope.cls ≠ "java/lang/invoke/VarHandle" ∧ (parseMethodDescriptor yX3_removeRope.desc).map (fun d => d.parameters.length) = some 1 := by decide +kernel
set_option maxRecDepth 20000 in
set_option maxHeartbeats 4000000 in
theorem ct_X3_removeRope {l : Launch} {h : PH} {a0 : Nat} {a1 : Int32} {r : PH} (hf : f_X3_removeRope h a0 a1 = some r) : CT l yX3_removeRope cX3_removeRope 4 none 1 21 [.ref (a0), .int (a1)] h none r := by
  refine CT.of (own := RX3) rfl (by decide) (Nat.le_of_ble_eq_true rfl) ?_
  intro p e R s m args below meth c g X hR C
  subst hR
  unfold f_X3_removeRope at hf
  obtain ⟨hok, hf⟩ := gd_ok hf
  have hj91 : ∀ (hh : PH), f_X3_removeRope_J91 hh = some r → G p l e ({ frames := 1, cells := 0, slots := 0, locals := 21 } : Room) s m args below meth c 4 g X h 0 0 (MQ below (QW g X h s.heap.size none r) args s 0 0 (AF X h s.heap.size)) 91 [] [] hh := by
    intro hh hf
    unfold f_X3_removeRope_J91 at hf
    cases hf
    exact G.vret C rfl dX3_removeRope_91
  have hj52 : ∀ (hh : PH) (x0 : Nat) (x2 : Nat), f_X3_removeRope_J52 hh (x0) (x2) = some r → G p l e ({ frames := 1, cells := 0, slots := 0, locals := 21 } : Room) s m args below meth c 4 g X h 0 0 (MQ below (QW g X h s.heap.size none r) args s 0 0 (AF X h s.heap.size)) 52 [(0, .ref (x0)), (2, .ref (x2))] [] hh := by
    intro hh x0 x2 hf
    unfold f_X3_removeRope_J52 at hf
    refine G.aload_n C 0 dX3_removeRope_52 rfl rfl ?_
    refine G.dup C dX3_removeRope_53 rfl ?_
    refine G.getI (ci := 2) (k := 2) C rfl inlX3 (by decide) m9_35 rfl hf dX3_removeRope_54 (fun v21 hv21 hf => ?_)
    try dsimp only at hf
    refine G.iconst (v := 1) C dX3_removeRope_57 (by decide) ?_
    refine G.isub C dX3_removeRope_58 ?_
    refine G.put (ci := 2) (k := 2) C rfl inlX3 (by decide) m9_35 rfl tyX3 tyX3_ok nmX3 rfl rfl rfl hf dX3_removeRope_59 (fun h22 hh22 hf => ?_)
    try dsimp only at hf
    refine G.aload_n C 0 dX3_removeRope_62 rfl rfl ?_
    refine G.getI (ci := 2) (k := 2) C rfl inlX3 (by decide) m9_35 rfl hf dX3_removeRope_63 (fun v23 hv23 hf => ?_)
    try dsimp only at hf
    refine G.if_lt (tgt := 91) C dX3_removeRope_66 (by decide) hf (fun c31 hf => ?_) (fun c31 hf => ?_)
    · refine G.sub C [] (lv' := []) rfl ?_
      exact hj91 _ hf
    · refine G.aload_n C 0 dX3_removeRope_69 rfl rfl ?_
      refine G.getI (ci := 2) (k := 2) C rfl inlX3 (by decide) m9_35 rfl hf dX3_removeRope_70 (fun v24 hv24 hf => ?_)
      try dsimp only at hf
      refine G.aload_n C 0 dX3_removeRope_73 rfl rfl ?_
      refine G.getR (ci := 2) (k := 1) C rfl inlX3 (by decide) m9_34 rfl hf dX3_removeRope_74 (fun v25 hv25 hf => ?_)
      try dsimp only at hf
      refine G.alen C hf dX3_removeRope_77 (fun v26 hv26 hf => ?_)
      try dsimp only at hf
      refine G.icmp_ge (tgt := 91) C dX3_removeRope_78 (by decide) hf (fun c30 hf => ?_) (fun c30 hf => ?_)
      · refine G.sub C [] (lv' := []) rfl ?_
        exact hj91 _ hf
      · refine G.aload_n C 0 dX3_removeRope_81 rfl rfl ?_
        refine G.getR (ci := 2) (k := 1) C rfl inlX3 (by decide) m9_34 rfl hf dX3_removeRope_82 (fun v27 hv27 hf => ?_)
        try dsimp only at hf
        refine G.aload_n C 0 dX3_removeRope_85 rfl rfl ?_
        refine G.getI (ci := 2) (k := 2) C rfl inlX3 (by decide) m9_35 rfl hf dX3_removeRope_86 (fun v28 hv28 hf => ?_)
        try dsimp only at hf
        refine G.aload_n C 1 dX3_removeRope_89 rfl rfl ?_
        refine G.aast (v := x2) C hf dX3_removeRope_90 (fun h29 hh29 hf => ?_)
        try dsimp only at hf
        refine G.sub C [] (lv' := []) rfl ?_
        exact hj91 _ hf
  refine G.sub C [0, 1] (lv' := [(0, .ref (a0)), (1, .int (a1))]) rfl ?_
  refine G.aload_n C 0 dX3_removeRope_0 rfl rfl ?_
  refine G.iload_n C 1 dX3_removeRope_1 rfl rfl ?_
  obtain ⟨v1, hv1, hf⟩ := bind_some hf
  try dsimp only at hf
  refine G.callV C (st := []) (st2 := [va_rf (v1)]) (ct_X3_ropeAt hv1) (ko_X3_ropeAt hv1) rfl m9_88 m9_89 m9_90 m9_11 m9_91 kd_X3_ropeAt ⟨Nat.le_of_ble_eq_true rfl, Nat.le_of_ble_eq_true rfl⟩ ⟨Nat.zero_le _, Nat.zero_le _⟩ (Nat.le_of_ble_eq_true rfl) rfl rfl dX3_removeRope_2 ?_
  refine G.qstore_n (lv' := [(2, va_rf (v1)), (0, .ref (a0)), (1, .int (a1))]) C dX3_removeRope_5 rfl (by decide) rfl ?_
  refine G.qload_n C 0 dX3_removeRope_6 rfl rfl ?_
  refine G.ifnonnull (tgt := 11) C dX3_removeRope_7 (by decide) (fun a2 e14 => ?_) (fun e14 => ?_)
  · subst e14
    try dsimp only at hf
    refine G.iload_n C 2 dX3_removeRope_11 rfl rfl ?_
    refine G.iconst (v := 1) C dX3_removeRope_12 (by decide) ?_
    refine G.iadd C dX3_removeRope_13 ?_
    refine G.istore_n (lv' := [(3, .int ((a1 + (1 : Int32)))), (2, .ref (a2)), (0, .ref (a0)), (1, .int (a1))]) C dX3_removeRope_14 rfl (by decide) rfl ?_
    obtain ⟨z3, hlp3, hfo3⟩ := bind_some hf
    clear hf
    have hloop3 : ∀ (k : Nat), ∀ (x3 : Int32) (hh : PH), (lpn (f_X3_removeRope_L15 (a0) (a2)) k (x3, hh)) = some z3 → G p l e ({ frames := 1, cells := 0, slots := 0, locals := 21 } : Room) s m args below meth c 4 g X h 0 0 (MQ below (QW g X h s.heap.size none r) args s 0 0 (AF X h s.heap.size)) 15 [(0, .ref (a0)), (2, .ref (a2)), (3, .int (x3))] [] hh := by
      intro k
      induction k with
      | zero => intro x3 hh hlp3; exact (lpn_0 hlp3).elim
      | succ k ih3 =>
        intro x3 hh hlp3
        obtain ⟨y3, hf, hlp3⟩ := lpn_s hlp3
        unfold f_X3_removeRope_L15 at hf
        try dsimp only at hf
        refine G.iload_n C 2 dX3_removeRope_15 rfl rfl ?_
        refine G.aload_n C 0 dX3_removeRope_16 rfl rfl ?_
        refine G.getI (ci := 2) (k := 2) C rfl inlX3 (by decide) m9_35 rfl hf dX3_removeRope_17 (fun v4 hv4 hf => ?_)
        try dsimp only at hf
        refine G.icmp_ge (tgt := 52) C dX3_removeRope_20 (by decide) hf (fun c13 hf => ?_) (fun c13 hf => ?_)
        · cases hf
          change some _ = some _ at hlp3
          have hf := hfo3
          try rw [← Option.some.inj hlp3] at hf
          try dsimp only at hf
          refine G.sub C [0, 1] (lv' := [(0, .ref (a0)), (2, .ref (a2))]) rfl ?_
          exact hj52 _ _ _ hf
        · refine G.iload_n C 2 dX3_removeRope_23 rfl rfl ?_
          refine G.aload_n C 0 dX3_removeRope_24 rfl rfl ?_
          refine G.getR (ci := 2) (k := 1) C rfl inlX3 (by decide) m9_34 rfl hf dX3_removeRope_25 (fun v5 hv5 hf => ?_)
          try dsimp only at hf
          refine G.alen C hf dX3_removeRope_28 (fun v6 hv6 hf => ?_)
          try dsimp only at hf
          refine G.icmp_ge (tgt := 52) C dX3_removeRope_29 (by decide) hf (fun c12 hf => ?_) (fun c12 hf => ?_)
          · cases hf
            change some _ = some _ at hlp3
            have hf := hfo3
            try rw [← Option.some.inj hlp3] at hf
            try dsimp only at hf
            refine G.sub C [0, 1] (lv' := [(0, .ref (a0)), (2, .ref (a2))]) rfl ?_
            exact hj52 _ _ _ hf
          · refine G.aload_n C 0 dX3_removeRope_32 rfl rfl ?_
            refine G.getR (ci := 2) (k := 1) C rfl inlX3 (by decide) m9_34 rfl hf dX3_removeRope_33 (fun v7 hv7 hf => ?_)
            try dsimp only at hf
            refine G.iload_n C 2 dX3_removeRope_36 rfl rfl ?_
            refine G.iconst (v := 1) C dX3_removeRope_37 (by decide) ?_
            refine G.isub C dX3_removeRope_38 ?_
            refine G.aload_n C 0 dX3_removeRope_39 rfl rfl ?_
            refine G.getR (ci := 2) (k := 1) C rfl inlX3 (by decide) m9_34 rfl hf dX3_removeRope_40 (fun v8 hv8 hf => ?_)
            try dsimp only at hf
            refine G.iload_n C 2 dX3_removeRope_43 rfl rfl ?_
            refine G.aald C hf dX3_removeRope_44 (fun v9 hv9 hf => ?_)
            try dsimp only at hf
            obtain ⟨w11, ew11, hf⟩ := bind_some hf
            subst ew11
            try dsimp only at hf
            refine G.aast (v := w11) C hf dX3_removeRope_45 (fun h10 hh10 hf => ?_)
            try dsimp only at hf
            refine G.iinc (k := 2) (v := (x3 + 1)) (lv' := [(3, .int ((x3 + 1))), (0, .ref (a0)), (2, .ref (a2))]) C dX3_removeRope_46 rfl rfl (by decide) rfl ?_
            refine G.goto (tgt := 15) C dX3_removeRope_49 (by decide) ?_
            cases hf
            refine G.sub C [1, 2, 0] (lv' := [(0, .ref (a0)), (2, .ref (a2)), (3, .int ((x3 + 1)))]) rfl ?_
            exact ih3 _ _ hlp3
    refine G.sub C [2, 1, 0] (lv' := [(0, .ref (a0)), (2, .ref (a2)), (3, .int ((a1 + (1 : Int32))))]) rfl ?_
    exact hloop3 LF _ _ hlp3
  · subst e14
    try dsimp only at hf
    cases hf
    exact G.vret C rfl dX3_removeRope_10
theorem ko_X3_layOn {h : PH} {a0 : Nat} {a1 : Nat} {a2 : Int32} {a3 : Int32} {r : (Int32 × PH)} (hf : f_X3_layOn h a0 a1 a2 a3 = some r) : kO h a0 2 := by
  unfold f_X3_layOn at hf
  exact okO_k (gd_ok hf).1
theorem kd_X3_layOn : yX3_layOn.cls = RX3 ∧ yX3_layOn.cls ≠ "java/lang/invoke/MethodHandle" ∧ yX3_layOn.cls ≠ "java/lang/invoke/VarHandle" ∧ (parseMethodDescriptor yX3_layOn.desc).map (fun d => d.parameters.length) = some 3 := by decide +kernel
set_option maxRecDepth 20000 in
set_option maxHeartbeats 4000000 in
theorem ct_X3_layOn {l : Launch} {h : PH} {a0 : Nat} {a1 : Nat} {a2 : Int32} {a3 : Int32} {r : (Int32 × PH)} (hf : f_X3_layOn h a0 a1 a2 a3 = some r) : CT l yX3_layOn cX3_layOn 4 (some .int) 2 48 [.ref (a0), .ref (a1), .int (a2), .int (a3)] h (some (.int r.1)) r.2 := by
  refine CT.of (own := RX3) rfl (by decide) (Nat.le_of_ble_eq_true rfl) ?_
  intro p e R s m args below meth c g X hR C
  subst hR
  unfold f_X3_layOn at hf
  obtain ⟨hok, hf⟩ := gd_ok hf
  refine G.sub C [0, 1, 2, 3] (lv' := [(0, .ref (a0)), (1, .ref (a1)), (2, .int (a2)), (3, .int (a3))]) rfl ?_
  refine G.aload_n C 0 dX3_layOn_0 rfl rfl ?_
  refine G.dup C dX3_layOn_1 rfl ?_
  refine G.getI (ci := 2) (k := 3) C rfl inlX3 (by decide) m9_36 rfl hf dX3_layOn_2 (fun v1 hv1 hf => ?_)
  try dsimp only at hf
  refine G.iconst (v := 1) C dX3_layOn_5 (by decide) ?_
  refine G.iadd C dX3_layOn_6 ?_
  refine G.put (ci := 2) (k := 3) C rfl inlX3 (by decide) m9_36 rfl tyX3 tyX3_ok nmX3 rfl rfl rfl hf dX3_layOn_7 (fun h2 hh2 hf => ?_)
  try dsimp only at hf
  refine G.aload_n C 1 dX3_layOn_10 rfl rfl ?_
  refine G.iload_n C 2 dX3_layOn_11 rfl rfl ?_
  refine G.iload_n C 3 dX3_layOn_12 rfl rfl ?_
  refine G.aload_n C 0 dX3_layOn_13 rfl rfl ?_
  refine G.iload_n C 2 dX3_layOn_14 rfl rfl ?_
  obtain ⟨v3, hv3, hf⟩ := bind_some hf
  try dsimp only at hf
  refine G.callV C (st := [.int (a3), .int (a2), .ref (a1)]) (st2 := [.int (v3), .int (a3), .int (a2), .ref (a1)]) (ct_X3_gapAt hv3) (ko_X3_gapAt hv3) rfl m9_377 m9_181 m9_182 m9_11 m9_183 kd_X3_gapAt ⟨Nat.le_of_ble_eq_true rfl, Nat.le_of_ble_eq_true rfl⟩ ⟨Nat.zero_le _, Nat.zero_le _⟩ (Nat.le_of_ble_eq_true rfl) rfl rfl dX3_layOn_15 ?_
  obtain ⟨⟨v4, h5⟩, hv4, hf⟩ := bind_some hf
  try dsimp only at hf
  refine G.callV C (st := []) (st2 := [.int (v4)]) (ct_X2_put hv4) (ko_X2_put hv4) rfl m9_378 m9_300 m9_301 m9_24 m9_302 kd_X2_put ⟨Nat.le_of_ble_eq_true rfl, Nat.le_of_ble_eq_true rfl⟩ ⟨Nat.zero_le _, Nat.zero_le _⟩ (Nat.le_of_ble_eq_true rfl) rfl rfl dX3_layOn_18 ?_
  cases hf
  exact G.iret C rfl dX3_layOn_21
theorem ko_X3_countCut {h : PH} {a0 : Nat} {r : PH} (hf : f_X3_countCut h a0 = some r) : kO h a0 2 := by
  unfold f_X3_countCut at hf
  exact okO_k (gd_ok hf).1
theorem kd_X3_countCut : yX3_countCut.cls = RX3 ∧ yX3_countCut.cls ≠ "java/lang/invoke/MethodHandle" ∧ yX3_countCut.cls ≠ "java/lang/invoke/VarHandle" ∧ (parseMethodDescriptor yX3_countCut.desc).map (fun d => d.parameters.length) = some 0 := by decide +kernel
set_option maxRecDepth 20000 in
set_option maxHeartbeats 4000000 in
theorem ct_X3_countCut {l : Launch} {h : PH} {a0 : Nat} {r : PH} (hf : f_X3_countCut h a0 = some r) : CT l yX3_countCut cX3_countCut 1 none 0 0 [.ref (a0)] h none r := by
  refine CT.of (own := RX3) rfl (by decide) (Nat.le_of_ble_eq_true rfl) ?_
  intro p e R s m args below meth c g X hR C
  subst hR
  unfold f_X3_countCut at hf
  obtain ⟨hok, hf⟩ := gd_ok hf
  refine G.sub C [0] (lv' := [(0, .ref (a0))]) rfl ?_
  refine G.aload_n C 0 dX3_countCut_0 rfl rfl ?_
  refine G.dup C dX3_countCut_1 rfl ?_
  refine G.getI (ci := 2) (k := 5) C rfl inlX3 (by decide) m9_38 rfl hf dX3_countCut_2 (fun v1 hv1 hf => ?_)
  try dsimp only at hf
  refine G.iconst (v := 1) C dX3_countCut_5 (by decide) ?_
  refine G.iadd C dX3_countCut_6 ?_
  refine G.put (ci := 2) (k := 5) C rfl inlX3 (by decide) m9_38 rfl tyX3 tyX3_ok nmX3 rfl rfl rfl hf dX3_countCut_7 (fun h2 hh2 hf => ?_)
  try dsimp only at hf
  cases hf
  exact G.vret C rfl dX3_countCut_10
theorem ko_X3_countJoin {h : PH} {a0 : Nat} {r : PH} (hf : f_X3_countJoin h a0 = some r) : kO h a0 2 := by
  unfold f_X3_countJoin at hf
  exact okO_k (gd_ok hf).1
theorem kd_X3_countJoin : yX3_countJoin.cls = RX3 ∧ yX3_countJoin.cls ≠ "java/lang/invoke/MethodHandle" ∧ yX3_countJoin.cls ≠ "java/lang/invoke/VarHandle" ∧ (parseMethodDescriptor yX3_countJoin.desc).map (fun d => d.parameters.length) = some 0 := by decide +kernel
set_option maxRecDepth 20000 in
set_option maxHeartbeats 4000000 in
theorem ct_X3_countJoin {l : Launch} {h : PH} {a0 : Nat} {r : PH} (hf : f_X3_countJoin h a0 = some r) : CT l yX3_countJoin cX3_countJoin 1 none 0 0 [.ref (a0)] h none r := by
  refine CT.of (own := RX3) rfl (by decide) (Nat.le_of_ble_eq_true rfl) ?_
  intro p e R s m args below meth c g X hR C
  subst hR
  unfold f_X3_countJoin at hf
  obtain ⟨hok, hf⟩ := gd_ok hf
  refine G.sub C [0] (lv' := [(0, .ref (a0))]) rfl ?_
  refine G.aload_n C 0 dX3_countJoin_0 rfl rfl ?_
  refine G.dup C dX3_countJoin_1 rfl ?_
  refine G.getI (ci := 2) (k := 4) C rfl inlX3 (by decide) m9_37 rfl hf dX3_countJoin_2 (fun v1 hv1 hf => ?_)
  try dsimp only at hf
  refine G.iconst (v := 1) C dX3_countJoin_5 (by decide) ?_
  refine G.iadd C dX3_countJoin_6 ?_
  refine G.put (ci := 2) (k := 4) C rfl inlX3 (by decide) m9_37 rfl tyX3 tyX3_ok nmX3 rfl rfl rfl hf dX3_countJoin_7 (fun h2 hh2 hf => ?_)
  try dsimp only at hf
  cases hf
  exact G.vret C rfl dX3_countJoin_10
theorem ko_X0_size {h : PH} {a0 : Nat} {r : Int32} (hf : f_X0_size h a0 = some r) : kO h a0 0 := by
  unfold f_X0_size at hf
  exact okO_k (gd_ok hf).1
theorem kd_X0_size : yX0_size.cls = RX0 ∧ yX0_size.cls ≠ "java/lang/invoke/MethodHandle" ∧ yX0_size.cls ≠ "java/lang/invoke/VarHandle" ∧ (parseMethodDescriptor yX0_size.desc).map (fun d => d.parameters.length) = some 0 := by decide +kernel
set_option maxRecDepth 20000 in
set_option maxHeartbeats 4000000 in
theorem ct_X0_size {l : Launch} {h : PH} {a0 : Nat} {r : Int32} (hf : f_X0_size h a0 = some r) : CT l yX0_size cX0_size 1 (some .int) 0 0 [.ref (a0)] h (some (.int r)) h := by
  refine CT.of (own := RX0) rfl (by decide) (Nat.le_of_ble_eq_true rfl) ?_
  intro p e R s m args below meth c g X hR C
  subst hR
  unfold f_X0_size at hf
  obtain ⟨hok, hf⟩ := gd_ok hf
  refine G.sub C [0] (lv' := [(0, .ref (a0))]) rfl ?_
  refine G.aload_n C 0 dX0_size_0 rfl rfl ?_
  refine G.getI (ci := 0) (k := 1) C rfl inlX0 (by decide) m9_53 rfl hf dX0_size_1 (fun v1 hv1 hf => ?_)
  try dsimp only at hf
  cases hf
  exact G.iret C rfl dX0_size_4
theorem ko_X0_restoreLatest {h : PH} {a0 : Nat} {a1 : Nat} {r : PH} (hf : f_X0_restoreLatest h a0 a1 = some r) : kO h a0 0 := by
  unfold f_X0_restoreLatest at hf
  exact okO_k (gd_ok hf).1
theorem kd_X0_restoreLatest : yX0_restoreLatest.cls = RX0 ∧ yX0_restoreLatest.cls ≠ "java/lang/invoke/MethodHandle" ∧ yX0_restoreLatest.cls ≠ "java/lang/invoke/VarHandle" ∧ (parseMethodDescriptor yX0_restoreLatest.desc).map (fun d => d.parameters.length) = some 1 := by decide +kernel
set_option maxRecDepth 20000 in
set_option maxHeartbeats 4000000 in
theorem ct_X0_restoreLatest {l : Launch} {h : PH} {a0 : Nat} {a1 : Nat} {r : PH} (hf : f_X0_restoreLatest h a0 a1 = some r) : CT l yX0_restoreLatest cX0_restoreLatest 3 none 2 46 [.ref (a0), .ref (a1)] h none r := by
  refine CT.of (own := RX0) rfl (by decide) (Nat.le_of_ble_eq_true rfl) ?_
  intro p e R s m args below meth c g X hR C
  subst hR
  unfold f_X0_restoreLatest at hf
  obtain ⟨hok, hf⟩ := gd_ok hf
  have hj30 : ∀ (hh : PH), f_X0_restoreLatest_J30 hh = some r → G p l e ({ frames := 2, cells := 0, slots := 0, locals := 46 } : Room) s m args below meth c 3 g X h 0 0 (MQ below (QW g X h s.heap.size none r) args s 0 0 (AF X h s.heap.size)) 30 [] [] hh := by
    intro hh hf
    unfold f_X0_restoreLatest_J30 at hf
    cases hf
    exact G.vret C rfl dX0_restoreLatest_30
  refine G.sub C [0, 1] (lv' := [(0, .ref (a0)), (1, .ref (a1))]) rfl ?_
  refine G.aload_n C 0 dX0_restoreLatest_0 rfl rfl ?_
  refine G.aload_n C 0 dX0_restoreLatest_1 rfl rfl ?_
  refine G.getI (ci := 0) (k := 1) C rfl inlX0 (by decide) m9_53 rfl hf dX0_restoreLatest_2 (fun v1 hv1 hf => ?_)
  try dsimp only at hf
  refine G.iconst (v := 1) C dX0_restoreLatest_5 (by decide) ?_
  refine G.isub C dX0_restoreLatest_6 ?_
  obtain ⟨v2, hv2, hf⟩ := bind_some hf
  try dsimp only at hf
  refine G.callV C (st := []) (st2 := [va_rf (v2)]) (ct_X0_rowAt hv2) (ko_X0_rowAt hv2) rfl m9_356 m9_357 m9_358 m9_16 m9_359 kd_X0_rowAt ⟨Nat.le_of_ble_eq_true rfl, Nat.le_of_ble_eq_true rfl⟩ ⟨Nat.zero_le _, Nat.zero_le _⟩ (Nat.le_of_ble_eq_true rfl) rfl rfl dX0_restoreLatest_7 ?_
  refine G.qstore_n (lv' := [(2, va_rf (v2)), (0, .ref (a0)), (1, .ref (a1))]) C dX0_restoreLatest_10 rfl (by decide) rfl ?_
  refine G.qload_n C 0 dX0_restoreLatest_11 rfl rfl ?_
  refine G.ifnull (tgt := 30) C dX0_restoreLatest_12 (by decide) (fun e7 => ?_) (fun a3 e7 => ?_)
  · subst e7
    try dsimp only at hf
    refine G.sub C [] (lv' := []) rfl ?_
    exact hj30 _ hf
  · subst e7
    try dsimp only at hf
    refine G.aload_n C 2 dX0_restoreLatest_15 rfl rfl ?_
    refine G.aload_n C 0 dX0_restoreLatest_16 rfl rfl ?_
    obtain ⟨h4, hh4, hf⟩ := bind_some hf
    try dsimp only at hf
    refine G.callV C (st := []) (st2 := []) (ct_X3_copyFrom hh4) (ko_X3_copyFrom hh4) rfl m9_360 m9_316 m9_317 m9_11 m9_318 kd_X3_copyFrom ⟨Nat.le_of_ble_eq_true rfl, Nat.le_of_ble_eq_true rfl⟩ ⟨Nat.zero_le _, Nat.zero_le _⟩ (Nat.le_of_ble_eq_true rfl) rfl rfl dX0_restoreLatest_17 ?_
    refine G.aload_n C 1 dX0_restoreLatest_20 rfl rfl ?_
    refine G.dup C dX0_restoreLatest_21 rfl ?_
    refine G.getI (ci := 0) (k := 1) C rfl inlX0 (by decide) m9_53 rfl hf dX0_restoreLatest_22 (fun v5 hv5 hf => ?_)
    try dsimp only at hf
    refine G.iconst (v := 1) C dX0_restoreLatest_25 (by decide) ?_
    refine G.isub C dX0_restoreLatest_26 ?_
    refine G.put (ci := 0) (k := 1) C rfl inlX0 (by decide) m9_53 rfl tyX0 tyX0_ok nmX0 rfl rfl rfl hf dX0_restoreLatest_27 (fun h6 hh6 hf => ?_)
    try dsimp only at hf
    refine G.sub C [] (lv' := []) rfl ?_
    exact hj30 _ hf
theorem ko_X3_places {h : PH} {a0 : Nat} {r : Int32} (hf : f_X3_places h a0 = some r) : kO h a0 2 := by
  unfold f_X3_places at hf
  exact okO_k (gd_ok hf).1
theorem kd_X3_places : yX3_places.cls = RX3 ∧ yX3_places.cls ≠ "java/lang/invoke/MethodHandle" ∧ yX3_places.cls ≠ "java/lang/invoke/VarHandle" ∧ (parseMethodDescriptor yX3_places.desc).map (fun d => d.parameters.length) = some 0 := by decide +kernel
set_option maxRecDepth 20000 in
set_option maxHeartbeats 4000000 in
theorem ct_X3_places {l : Launch} {h : PH} {a0 : Nat} {r : Int32} (hf : f_X3_places h a0 = some r) : CT l yX3_places cX3_places 4 (some .int) 1 21 [.ref (a0)] h (some (.int r)) h := by
  refine CT.of (own := RX3) rfl (by decide) (Nat.le_of_ble_eq_true rfl) ?_
  intro p e R s m args below meth c g X hR C
  subst hR
  unfold f_X3_places at hf
  obtain ⟨hok, hf⟩ := gd_ok hf
  have hj39 : ∀ (x1 : Int32), f_X3_places_J39 h (x1) = some r → G p l e ({ frames := 1, cells := 0, slots := 0, locals := 21 } : Room) s m args below meth c 4 g X h 0 0 (MQ below (QW g X h s.heap.size (some (.int r)) h) args s 0 0 (AF X h s.heap.size)) 39 [(1, .int (x1))] [] h := by
    intro x1 hf
    unfold f_X3_places_J39 at hf
    refine G.iload_n C 0 dX3_places_39 rfl rfl ?_
    cases hf
    exact G.iret C rfl dX3_places_40
  refine G.sub C [0] (lv' := [(0, .ref (a0))]) rfl ?_
  refine G.iconst (v := 0) C dX3_places_0 (by decide) ?_
  refine G.istore_n (lv' := [(1, .int ((0 : Int32))), (0, .ref (a0))]) C dX3_places_1 rfl (by decide) rfl ?_
  refine G.iconst (v := 0) C dX3_places_2 (by decide) ?_
  refine G.istore_n (lv' := [(2, .int ((0 : Int32))), (1, .int ((0 : Int32))), (0, .ref (a0))]) C dX3_places_3 rfl (by decide) rfl ?_
  obtain ⟨z1, hlp1, hfo1⟩ := bind_some hf
  clear hf
  have hloop1 : ∀ (k : Nat), ∀ (x1 : Int32) (x2 : Int32), (lpn (f_X3_places_L4 (h) (a0)) k (x1, x2)) = some z1 → G p l e ({ frames := 1, cells := 0, slots := 0, locals := 21 } : Room) s m args below meth c 4 g X h 0 0 (MQ below (QW g X h s.heap.size (some (.int r)) h) args s 0 0 (AF X h s.heap.size)) 4 [(0, .ref (a0)), (1, .int (x1)), (2, .int (x2))] [] h := by
    intro k
    induction k with
    | zero => intro x1 x2 hlp1; exact (lpn_0 hlp1).elim
    | succ k ih1 =>
      intro x1 x2 hlp1
      obtain ⟨y1, hf, hlp1⟩ := lpn_s hlp1
      unfold f_X3_places_L4 at hf
      try dsimp only at hf
      have hj31 : ∀ (x2 : Int32) (k0 : Int32) (k1 : Int32), f_X3_places_J31 h (a0) (x2) k0 k1 = some y1 → G p l e ({ frames := 1, cells := 0, slots := 0, locals := 21 } : Room) s m args below meth c 4 g X h 0 0 (MQ below (QW g X h s.heap.size (some (.int r)) h) args s 0 0 (AF X h s.heap.size)) 31 [(0, .ref (a0)), (2, .int (x2))] [.int (k1), .int (k0)] h := by
        intro x2 k0 k1 hf
        unfold f_X3_places_J31 at hf
        refine G.iadd C dX3_places_31 ?_
        refine G.istore_n (lv' := [(1, .int ((k0 + k1))), (0, .ref (a0)), (2, .int (x2))]) C dX3_places_32 rfl (by decide) rfl ?_
        refine G.iinc (k := 2) (v := (x2 + 1)) (lv' := [(2, .int ((x2 + 1))), (1, .int ((k0 + k1))), (0, .ref (a0))]) C dX3_places_33 rfl rfl (by decide) rfl ?_
        refine G.goto (tgt := 4) C dX3_places_36 (by decide) ?_
        cases hf
        refine G.sub C [2, 1, 0] (lv' := [(0, .ref (a0)), (1, .int ((k0 + k1))), (2, .int ((x2 + 1)))]) rfl ?_
        exact ih1 _ _ hlp1
      refine G.iload_n C 2 dX3_places_4 rfl rfl ?_
      refine G.aload_n C 0 dX3_places_5 rfl rfl ?_
      refine G.getI (ci := 2) (k := 2) C rfl inlX3 (by decide) m9_35 rfl hf dX3_places_6 (fun v2 hv2 hf => ?_)
      try dsimp only at hf
      refine G.icmp_ge (tgt := 39) C dX3_places_9 (by decide) hf (fun c7 hf => ?_) (fun c7 hf => ?_)
      · cases hf
        change some _ = some _ at hlp1
        have hf := hfo1
        try rw [← Option.some.inj hlp1] at hf
        try dsimp only at hf
        refine G.sub C [1] (lv' := [(1, .int (x1))]) rfl ?_
        exact hj39 _ hf
      · refine G.aload_n C 0 dX3_places_12 rfl rfl ?_
        refine G.iload_n C 2 dX3_places_13 rfl rfl ?_
        obtain ⟨v3, hv3, hf⟩ := bind_some hf
        try dsimp only at hf
        refine G.callV C (st := []) (st2 := [va_rf (v3)]) (ct_X3_ropeAt hv3) (ko_X3_ropeAt hv3) rfl m9_88 m9_89 m9_90 m9_11 m9_91 kd_X3_ropeAt ⟨Nat.le_of_ble_eq_true rfl, Nat.le_of_ble_eq_true rfl⟩ ⟨Nat.zero_le _, Nat.zero_le _⟩ (Nat.le_of_ble_eq_true rfl) rfl rfl dX3_places_14 ?_
        refine G.qstore_n (lv' := [(3, va_rf (v3)), (0, .ref (a0)), (1, .int (x1)), (2, .int (x2))]) C dX3_places_17 rfl (by decide) rfl ?_
        refine G.iload_n C 2 dX3_places_18 rfl rfl ?_
        refine G.qload_n C 0 dX3_places_19 rfl rfl ?_
        refine G.ifnonnull (tgt := 27) C dX3_places_20 (by decide) (fun a4 e6 => ?_) (fun e6 => ?_)
        · subst e6
          try dsimp only at hf
          refine G.aload_n C 0 dX3_places_27 rfl rfl ?_
          obtain ⟨v5, hv5, hf⟩ := bind_some hf
          try dsimp only at hf
          refine G.callV C (st := [.int (x1)]) (st2 := [.int (v5), .int (x1)]) (ct_X2_length hv5) (ko_X2_length hv5) rfl m9_92 m9_93 m9_94 m9_24 m9_95 kd_X2_length ⟨Nat.le_of_ble_eq_true rfl, Nat.le_of_ble_eq_true rfl⟩ ⟨Nat.zero_le _, Nat.zero_le _⟩ (Nat.le_of_ble_eq_true rfl) rfl rfl dX3_places_28 ?_
          refine G.sub C [1, 3] (lv' := [(0, .ref (a0)), (2, .int (x2))]) rfl ?_
          exact hj31 _ _ _ hf
        · subst e6
          try dsimp only at hf
          refine G.iconst (v := 0) C dX3_places_23 (by decide) ?_
          refine G.goto (tgt := 31) C dX3_places_24 (by decide) ?_
          refine G.sub C [1, 3] (lv' := [(0, .ref (a0)), (2, .int (x2))]) rfl ?_
          exact hj31 _ _ _ hf
  refine G.sub C [2, 1, 0] (lv' := [(0, .ref (a0)), (1, .int ((0 : Int32))), (2, .int ((0 : Int32)))]) rfl ?_
  exact hloop1 LF _ _ hlp1
theorem ko_X3_holes {h : PH} {a0 : Nat} {r : Int32} (hf : f_X3_holes h a0 = some r) : kO h a0 2 := by
  unfold f_X3_holes at hf
  exact okO_k (gd_ok hf).1
theorem kd_X3_holes : yX3_holes.cls = RX3 ∧ yX3_holes.cls ≠ "java/lang/invoke/MethodHandle" ∧ yX3_holes.cls ≠ "java/lang/invoke/VarHandle" ∧ (parseMethodDescriptor yX3_holes.desc).map (fun d => d.parameters.length) = some 0 := by decide +kernel
set_option maxRecDepth 20000 in
set_option maxHeartbeats 4000000 in
theorem ct_X3_holes {l : Launch} {h : PH} {a0 : Nat} {r : Int32} (hf : f_X3_holes h a0 = some r) : CT l yX3_holes cX3_holes 4 (some .int) 2 44 [.ref (a0)] h (some (.int r)) h := by
  refine CT.of (own := RX3) rfl (by decide) (Nat.le_of_ble_eq_true rfl) ?_
  intro p e R s m args below meth c g X hR C
  subst hR
  unfold f_X3_holes at hf
  obtain ⟨hok, hf⟩ := gd_ok hf
  have hj40 : ∀ (x1 : Int32), f_X3_holes_J40 h (x1) = some r → G p l e ({ frames := 2, cells := 0, slots := 0, locals := 44 } : Room) s m args below meth c 4 g X h 0 0 (MQ below (QW g X h s.heap.size (some (.int r)) h) args s 0 0 (AF X h s.heap.size)) 40 [(1, .int (x1))] [] h := by
    intro x1 hf
    unfold f_X3_holes_J40 at hf
    refine G.iload_n C 0 dX3_holes_40 rfl rfl ?_
    cases hf
    exact G.iret C rfl dX3_holes_41
  refine G.sub C [0] (lv' := [(0, .ref (a0))]) rfl ?_
  refine G.iconst (v := 0) C dX3_holes_0 (by decide) ?_
  refine G.istore_n (lv' := [(1, .int ((0 : Int32))), (0, .ref (a0))]) C dX3_holes_1 rfl (by decide) rfl ?_
  refine G.iconst (v := 0) C dX3_holes_2 (by decide) ?_
  refine G.istore_n (lv' := [(2, .int ((0 : Int32))), (1, .int ((0 : Int32))), (0, .ref (a0))]) C dX3_holes_3 rfl (by decide) rfl ?_
  obtain ⟨z1, hlp1, hfo1⟩ := bind_some hf
  clear hf
  have hloop1 : ∀ (k : Nat), ∀ (x1 : Int32) (x2 : Int32), (lpn (f_X3_holes_L4 (h) (a0)) k (x1, x2)) = some z1 → G p l e ({ frames := 2, cells := 0, slots := 0, locals := 44 } : Room) s m args below meth c 4 g X h 0 0 (MQ below (QW g X h s.heap.size (some (.int r)) h) args s 0 0 (AF X h s.heap.size)) 4 [(0, .ref (a0)), (1, .int (x1)), (2, .int (x2))] [] h := by
    intro k
    induction k with
    | zero => intro x1 x2 hlp1; exact (lpn_0 hlp1).elim
    | succ k ih1 =>
      intro x1 x2 hlp1
      obtain ⟨y1, hf, hlp1⟩ := lpn_s hlp1
      unfold f_X3_holes_L4 at hf
      try dsimp only at hf
      have hj32 : ∀ (x2 : Int32) (k0 : Int32) (k1 : Int32), f_X3_holes_J32 h (a0) (x2) k0 k1 = some y1 → G p l e ({ frames := 2, cells := 0, slots := 0, locals := 44 } : Room) s m args below meth c 4 g X h 0 0 (MQ below (QW g X h s.heap.size (some (.int r)) h) args s 0 0 (AF X h s.heap.size)) 32 [(0, .ref (a0)), (2, .int (x2))] [.int (k1), .int (k0)] h := by
        intro x2 k0 k1 hf
        unfold f_X3_holes_J32 at hf
        refine G.iadd C dX3_holes_32 ?_
        refine G.istore_n (lv' := [(1, .int ((k0 + k1))), (0, .ref (a0)), (2, .int (x2))]) C dX3_holes_33 rfl (by decide) rfl ?_
        refine G.iinc (k := 2) (v := (x2 + 1)) (lv' := [(2, .int ((x2 + 1))), (1, .int ((k0 + k1))), (0, .ref (a0))]) C dX3_holes_34 rfl rfl (by decide) rfl ?_
        refine G.goto (tgt := 4) C dX3_holes_37 (by decide) ?_
        cases hf
        refine G.sub C [2, 1, 0] (lv' := [(0, .ref (a0)), (1, .int ((k0 + k1))), (2, .int ((x2 + 1)))]) rfl ?_
        exact ih1 _ _ hlp1
      refine G.iload_n C 2 dX3_holes_4 rfl rfl ?_
      refine G.aload_n C 0 dX3_holes_5 rfl rfl ?_
      refine G.getI (ci := 2) (k := 2) C rfl inlX3 (by decide) m9_35 rfl hf dX3_holes_6 (fun v2 hv2 hf => ?_)
      try dsimp only at hf
      refine G.icmp_ge (tgt := 40) C dX3_holes_9 (by decide) hf (fun c7 hf => ?_) (fun c7 hf => ?_)
      · cases hf
        change some _ = some _ at hlp1
        have hf := hfo1
        try rw [← Option.some.inj hlp1] at hf
        try dsimp only at hf
        refine G.sub C [1] (lv' := [(1, .int (x1))]) rfl ?_
        exact hj40 _ hf
      · refine G.aload_n C 0 dX3_holes_12 rfl rfl ?_
        refine G.iload_n C 2 dX3_holes_13 rfl rfl ?_
        obtain ⟨v3, hv3, hf⟩ := bind_some hf
        try dsimp only at hf
        refine G.callV C (st := []) (st2 := [va_rf (v3)]) (ct_X3_ropeAt hv3) (ko_X3_ropeAt hv3) rfl m9_88 m9_89 m9_90 m9_11 m9_91 kd_X3_ropeAt ⟨Nat.le_of_ble_eq_true rfl, Nat.le_of_ble_eq_true rfl⟩ ⟨Nat.zero_le _, Nat.zero_le _⟩ (Nat.le_of_ble_eq_true rfl) rfl rfl dX3_holes_14 ?_
        refine G.qstore_n (lv' := [(3, va_rf (v3)), (0, .ref (a0)), (1, .int (x1)), (2, .int (x2))]) C dX3_holes_17 rfl (by decide) rfl ?_
        refine G.iload_n C 2 dX3_holes_18 rfl rfl ?_
        refine G.qload_n C 0 dX3_holes_19 rfl rfl ?_
        refine G.ifnonnull (tgt := 27) C dX3_holes_20 (by decide) (fun a4 e6 => ?_) (fun e6 => ?_)
        · subst e6
          try dsimp only at hf
          refine G.aload_n C 0 dX3_holes_27 rfl rfl ?_
          refine G.iconst (v := (-1)) C dX3_holes_28 (by decide) ?_
          obtain ⟨v5, hv5, hf⟩ := bind_some hf
          try dsimp only at hf
          refine G.callV C (st := [.int (x1)]) (st2 := [.int (v5), .int (x1)]) (ct_X2_placesOf hv5) (ko_X2_placesOf hv5) rfl m9_100 m9_101 m9_102 m9_24 m9_103 kd_X2_placesOf ⟨Nat.le_of_ble_eq_true rfl, Nat.le_of_ble_eq_true rfl⟩ ⟨Nat.zero_le _, Nat.zero_le _⟩ (Nat.le_of_ble_eq_true rfl) rfl rfl dX3_holes_29 ?_
          refine G.sub C [1, 3] (lv' := [(0, .ref (a0)), (2, .int (x2))]) rfl ?_
          exact hj32 _ _ _ hf
        · subst e6
          try dsimp only at hf
          refine G.iconst (v := 0) C dX3_holes_23 (by decide) ?_
          refine G.goto (tgt := 32) C dX3_holes_24 (by decide) ?_
          refine G.sub C [1, 3] (lv' := [(0, .ref (a0)), (2, .int (x2))]) rfl ?_
          exact hj32 _ _ _ hf
  refine G.sub C [2, 1, 0] (lv' := [(0, .ref (a0)), (1, .int ((0 : Int32))), (2, .int ((0 : Int32)))]) rfl ?_
  exact hloop1 LF _ _ hlp1
theorem ko_X3_laidHues {h : PH} {a0 : Nat} {r : Int32} (hf : f_X3_laidHues h a0 = some r) : kO h a0 2 := by
  unfold f_X3_laidHues at hf
  exact okO_k (gd_ok hf).1
theorem kd_X3_laidHues : yX3_laidHues.cls = RX3 ∧ yX3_laidHues.cls ≠ "java/lang/invoke/MethodHandle" ∧ yX3_laidHues.cls ≠ "java/lang/invoke/VarHandle" ∧ (parseMethodDescriptor yX3_laidHues.desc).map (fun d => d.parameters.length) = some 0 := by decide +kernel
set_option maxRecDepth 20000 in
set_option maxHeartbeats 4000000 in
theorem ct_X3_laidHues {l : Launch} {h : PH} {a0 : Nat} {r : Int32} (hf : f_X3_laidHues h a0 = some r) : CT l yX3_laidHues cX3_laidHues 3 (some .int) 2 45 [.ref (a0)] h (some (.int r)) h := by
  refine CT.of (own := RX3) rfl (by decide) (Nat.le_of_ble_eq_true rfl) ?_
  intro p e R s m args below meth c g X hR C
  subst hR
  unfold f_X3_laidHues at hf
  obtain ⟨hok, hf⟩ := gd_ok hf
  have hj27 : ∀ (x1 : Int32), f_X3_laidHues_J27 h (x1) = some r → G p l e ({ frames := 2, cells := 0, slots := 0, locals := 45 } : Room) s m args below meth c 3 g X h 0 0 (MQ below (QW g X h s.heap.size (some (.int r)) h) args s 0 0 (AF X h s.heap.size)) 27 [(1, .int (x1))] [] h := by
    intro x1 hf
    unfold f_X3_laidHues_J27 at hf
    refine G.iload_n C 0 dX3_laidHues_27 rfl rfl ?_
    cases hf
    exact G.iret C rfl dX3_laidHues_28
  refine G.sub C [0] (lv' := [(0, .ref (a0))]) rfl ?_
  refine G.iconst (v := 0) C dX3_laidHues_0 (by decide) ?_
  refine G.istore_n (lv' := [(1, .int ((0 : Int32))), (0, .ref (a0))]) C dX3_laidHues_1 rfl (by decide) rfl ?_
  refine G.iconst (v := 0) C dX3_laidHues_2 (by decide) ?_
  refine G.istore_n (lv' := [(2, .int ((0 : Int32))), (1, .int ((0 : Int32))), (0, .ref (a0))]) C dX3_laidHues_3 rfl (by decide) rfl ?_
  obtain ⟨z1, hlp1, hfo1⟩ := bind_some hf
  clear hf
  have hloop1 : ∀ (k : Nat), ∀ (x1 : Int32) (x2 : Int32), (lpn (f_X3_laidHues_L4 (h) (a0)) k (x1, x2)) = some z1 → G p l e ({ frames := 2, cells := 0, slots := 0, locals := 45 } : Room) s m args below meth c 3 g X h 0 0 (MQ below (QW g X h s.heap.size (some (.int r)) h) args s 0 0 (AF X h s.heap.size)) 4 [(0, .ref (a0)), (1, .int (x1)), (2, .int (x2))] [] h := by
    intro k
    induction k with
    | zero => intro x1 x2 hlp1; exact (lpn_0 hlp1).elim
    | succ k ih1 =>
      intro x1 x2 hlp1
      obtain ⟨y1, hf, hlp1⟩ := lpn_s hlp1
      unfold f_X3_laidHues_L4 at hf
      try dsimp only at hf
      have hj21 : ∀ (x1 : Int32) (x2 : Int32), f_X3_laidHues_J21 h (a0) (x1) (x2) = some y1 → G p l e ({ frames := 2, cells := 0, slots := 0, locals := 45 } : Room) s m args below meth c 3 g X h 0 0 (MQ below (QW g X h s.heap.size (some (.int r)) h) args s 0 0 (AF X h s.heap.size)) 21 [(0, .ref (a0)), (1, .int (x1)), (2, .int (x2))] [] h := by
        intro x1 x2 hf
        unfold f_X3_laidHues_J21 at hf
        refine G.iinc (k := 2) (v := (x2 + 1)) (lv' := [(2, .int ((x2 + 1))), (0, .ref (a0)), (1, .int (x1))]) C dX3_laidHues_21 rfl rfl (by decide) rfl ?_
        refine G.goto (tgt := 4) C dX3_laidHues_24 (by decide) ?_
        cases hf
        refine G.sub C [1, 2, 0] (lv' := [(0, .ref (a0)), (1, .int (x1)), (2, .int ((x2 + 1)))]) rfl ?_
        exact ih1 _ _ hlp1
      refine G.iload_n C 2 dX3_laidHues_4 rfl rfl ?_
      refine G.bipush (v := 8) C dX3_laidHues_5 (by decide) ?_
      refine G.icmp_ge (tgt := 27) C dX3_laidHues_7 (by decide) hf (fun c4 hf => ?_) (fun c4 hf => ?_)
      · cases hf
        change some _ = some _ at hlp1
        have hf := hfo1
        try rw [← Option.some.inj hlp1] at hf
        try dsimp only at hf
        refine G.sub C [1] (lv' := [(1, .int (x1))]) rfl ?_
        exact hj27 _ hf
      · refine G.aload_n C 0 dX3_laidHues_10 rfl rfl ?_
        refine G.iload_n C 2 dX3_laidHues_11 rfl rfl ?_
        obtain ⟨v2, hv2, hf⟩ := bind_some hf
        try dsimp only at hf
        refine G.callV C (st := []) (st2 := [.int (v2)]) (ct_X3_isLaidOnSome hv2) (ko_X3_isLaidOnSome hv2) rfl m9_112 m9_113 m9_114 m9_11 m9_115 kd_X3_isLaidOnSome ⟨Nat.le_of_ble_eq_true rfl, Nat.le_of_ble_eq_true rfl⟩ ⟨Nat.zero_le _, Nat.zero_le _⟩ (Nat.le_of_ble_eq_true rfl) rfl rfl dX3_laidHues_12 ?_
        refine G.if_eq (tgt := 21) C dX3_laidHues_15 (by decide) hf (fun c3 hf => ?_) (fun c3 hf => ?_)
        · refine G.sub C [0, 1, 2] (lv' := [(0, .ref (a0)), (1, .int (x1)), (2, .int (x2))]) rfl ?_
          exact hj21 _ _ hf
        · refine G.iinc (k := 1) (v := (x1 + 1)) (lv' := [(1, .int ((x1 + 1))), (0, .ref (a0)), (2, .int (x2))]) C dX3_laidHues_18 rfl rfl (by decide) rfl ?_
          refine G.sub C [1, 0, 2] (lv' := [(0, .ref (a0)), (1, .int ((x1 + 1))), (2, .int (x2))]) rfl ?_
          exact hj21 _ _ hf
  refine G.sub C [2, 1, 0] (lv' := [(0, .ref (a0)), (1, .int ((0 : Int32))), (2, .int ((0 : Int32)))]) rfl ?_
  exact hloop1 LF _ _ hlp1
theorem ko_X3_layings {h : PH} {a0 : Nat} {r : Int32} (hf : f_X3_layings h a0 = some r) : kO h a0 2 := by
  unfold f_X3_layings at hf
  exact okO_k (gd_ok hf).1
theorem kd_X3_layings : yX3_layings.cls = RX3 ∧ yX3_layings.cls ≠ "java/lang/invoke/MethodHandle" ∧ yX3_layings.cls ≠ "java/lang/invoke/VarHandle" ∧ (parseMethodDescriptor yX3_layings.desc).map (fun d => d.parameters.length) = some 0 := by decide +kernel
set_option maxRecDepth 20000 in
set_option maxHeartbeats 4000000 in
theorem ct_X3_layings {l : Launch} {h : PH} {a0 : Nat} {r : Int32} (hf : f_X3_layings h a0 = some r) : CT l yX3_layings cX3_layings 1 (some .int) 0 0 [.ref (a0)] h (some (.int r)) h := by
  refine CT.of (own := RX3) rfl (by decide) (Nat.le_of_ble_eq_true rfl) ?_
  intro p e R s m args below meth c g X hR C
  subst hR
  unfold f_X3_layings at hf
  obtain ⟨hok, hf⟩ := gd_ok hf
  refine G.sub C [0] (lv' := [(0, .ref (a0))]) rfl ?_
  refine G.aload_n C 0 dX3_layings_0 rfl rfl ?_
  refine G.getI (ci := 2) (k := 3) C rfl inlX3 (by decide) m9_36 rfl hf dX3_layings_1 (fun v1 hv1 hf => ?_)
  try dsimp only at hf
  cases hf
  exact G.iret C rfl dX3_layings_4
theorem ko_X3_joins {h : PH} {a0 : Nat} {r : Int32} (hf : f_X3_joins h a0 = some r) : kO h a0 2 := by
  unfold f_X3_joins at hf
  exact okO_k (gd_ok hf).1
theorem kd_X3_joins : yX3_joins.cls = RX3 ∧ yX3_joins.cls ≠ "java/lang/invoke/MethodHandle" ∧ yX3_joins.cls ≠ "java/lang/invoke/VarHandle" ∧ (parseMethodDescriptor yX3_joins.desc).map (fun d => d.parameters.length) = some 0 := by decide +kernel
set_option maxRecDepth 20000 in
set_option maxHeartbeats 4000000 in
theorem ct_X3_joins {l : Launch} {h : PH} {a0 : Nat} {r : Int32} (hf : f_X3_joins h a0 = some r) : CT l yX3_joins cX3_joins 1 (some .int) 0 0 [.ref (a0)] h (some (.int r)) h := by
  refine CT.of (own := RX3) rfl (by decide) (Nat.le_of_ble_eq_true rfl) ?_
  intro p e R s m args below meth c g X hR C
  subst hR
  unfold f_X3_joins at hf
  obtain ⟨hok, hf⟩ := gd_ok hf
  refine G.sub C [0] (lv' := [(0, .ref (a0))]) rfl ?_
  refine G.aload_n C 0 dX3_joins_0 rfl rfl ?_
  refine G.getI (ci := 2) (k := 4) C rfl inlX3 (by decide) m9_37 rfl hf dX3_joins_1 (fun v1 hv1 hf => ?_)
  try dsimp only at hf
  cases hf
  exact G.iret C rfl dX3_joins_4
theorem ko_X3_cuts {h : PH} {a0 : Nat} {r : Int32} (hf : f_X3_cuts h a0 = some r) : kO h a0 2 := by
  unfold f_X3_cuts at hf
  exact okO_k (gd_ok hf).1
theorem kd_X3_cuts : yX3_cuts.cls = RX3 ∧ yX3_cuts.cls ≠ "java/lang/invoke/MethodHandle" ∧ yX3_cuts.cls ≠ "java/lang/invoke/VarHandle" ∧ (parseMethodDescriptor yX3_cuts.desc).map (fun d => d.parameters.length) = some 0 := by decide +kernel
set_option maxRecDepth 20000 in
set_option maxHeartbeats 4000000 in
theorem ct_X3_cuts {l : Launch} {h : PH} {a0 : Nat} {r : Int32} (hf : f_X3_cuts h a0 = some r) : CT l yX3_cuts cX3_cuts 1 (some .int) 0 0 [.ref (a0)] h (some (.int r)) h := by
  refine CT.of (own := RX3) rfl (by decide) (Nat.le_of_ble_eq_true rfl) ?_
  intro p e R s m args below meth c g X hR C
  subst hR
  unfold f_X3_cuts at hf
  obtain ⟨hok, hf⟩ := gd_ok hf
  refine G.sub C [0] (lv' := [(0, .ref (a0))]) rfl ?_
  refine G.aload_n C 0 dX3_cuts_0 rfl rfl ?_
  refine G.getI (ci := 2) (k := 5) C rfl inlX3 (by decide) m9_38 rfl hf dX3_cuts_1 (fun v1 hv1 hf => ?_)
  try dsimp only at hf
  cases hf
  exact G.iret C rfl dX3_cuts_4
