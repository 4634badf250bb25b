theorem ko_X2_orderOf {h : PH} {a0 : Nat} {a1 : Int32} {r : Int32} (hf : f_X2_orderOf h a0 a1 = some r) : kO h a0 1 := by
  unfold f_X2_orderOf at hf
  exact okO_k (gd_ok hf).1
theorem kd_X2_orderOf : yX2_orderOf.cls = RX2 ∧ yX2_orderOf.cls ≠ "java/lang/invoke/MethodHandle" ∧ yX2_orderOf.cls ≠ "java/lang/invoke/VarHandle" ∧ (parseMethodDescriptor yX2_orderOf.desc).map (fun d => d.parameters.length) = some 1 := by decide +kernel
set_option maxRecDepth 20000 in
set_option maxHeartbeats 4000000 in
theorem ct_X2_orderOf {l : Launch} {h : PH} {a0 : Nat} {a1 : Int32} {r : Int32} (hf : f_X2_orderOf h a0 a1 = some r) : CT l yX2_orderOf cX2_orderOf 3 (some .int) 0 0 [.ref (a0), .int (a1)] h (some (.int r)) h := by
  refine CT.of (own := RX2) rfl (by decide) (Nat.le_of_ble_eq_true rfl) ?_
  intro p e R s m args below meth c g X hR C
  subst hR
  unfold f_X2_orderOf at hf
  obtain ⟨hok, hf⟩ := gd_ok hf
  have hj29 : ∀ (x2 : Int32), f_X2_orderOf_J29 h (x2) = some r → G p l e ({ frames := 0, cells := 0, slots := 0, locals := 0 } : Room) s m args below meth c 3 g X h 0 0 (MQ below (QW g X h s.heap.size (some (.int r)) h) args s 0 0 (AF X h s.heap.size)) 29 [(2, .int (x2))] [] h := by
    intro x2 hf
    unfold f_X2_orderOf_J29 at hf
    refine G.iload_n C 0 dX2_orderOf_29 rfl rfl ?_
    cases hf
    exact G.iret C rfl dX2_orderOf_30
  have hj37 : f_X2_orderOf_J37 h = some r → G p l e ({ frames := 0, cells := 0, slots := 0, locals := 0 } : Room) s m args below meth c 3 g X h 0 0 (MQ below (QW g X h s.heap.size (some (.int r)) h) args s 0 0 (AF X h s.heap.size)) 37 [] [] h := by
    intro hf
    unfold f_X2_orderOf_J37 at hf
    refine G.iconst (v := (-1)) C dX2_orderOf_37 (by decide) ?_
    cases hf
    exact G.iret C rfl dX2_orderOf_38
  refine G.sub C [0, 1] (lv' := [(0, .ref (a0)), (1, .int (a1))]) rfl ?_
  refine G.iconst (v := 0) C dX2_orderOf_0 (by decide) ?_
  refine G.istore_n (lv' := [(2, .int ((0 : Int32))), (0, .ref (a0)), (1, .int (a1))]) C dX2_orderOf_1 rfl (by decide) rfl ?_
  obtain ⟨z1, hlp1, hfo1⟩ := bind_some hf
  clear hf
  have hloop1 : ∀ (k : Nat), ∀ (x2 : Int32), (lpn (f_X2_orderOf_L2 (h) (a0) (a1)) k (x2)) = some z1 → G p l e ({ frames := 0, cells := 0, slots := 0, locals := 0 } : Room) s m args below meth c 3 g X h 0 0 (MQ below (QW g X h s.heap.size (some (.int r)) h) args s 0 0 (AF X h s.heap.size)) 2 [(0, .ref (a0)), (1, .int (a1)), (2, .int (x2))] [] h := by
    intro k
    induction k with
    | zero => intro x2 hlp1; exact (lpn_0 hlp1).elim
    | succ k ih1 =>
      intro x2 hlp1
      obtain ⟨y1, hf, hlp1⟩ := lpn_s hlp1
      unfold f_X2_orderOf_L2 at hf
      try dsimp only at hf
      refine G.iload_n C 2 dX2_orderOf_2 rfl rfl ?_
      refine G.aload_n C 0 dX2_orderOf_3 rfl rfl ?_
      refine G.getI (ci := 1) (k := 3) C rfl inlX2 (by decide) m9_46 rfl hf dX2_orderOf_4 (fun v2 hv2 hf => ?_)
      try dsimp only at hf
      refine G.icmp_ge (tgt := 37) C dX2_orderOf_7 (by decide) hf (fun c9 hf => ?_) (fun c9 hf => ?_)
      · cases hf
        change some _ = some _ at hlp1
        have hf := hfo1
        try rw [← Option.some.inj hlp1] at hf
        try dsimp only at hf
        refine G.sub C [] (lv' := []) rfl ?_
        exact hj37  hf
      · refine G.iload_n C 2 dX2_orderOf_10 rfl rfl ?_
        refine G.aload_n C 0 dX2_orderOf_11 rfl rfl ?_
        refine G.getR (ci := 1) (k := 1) C rfl inlX2 (by decide) m9_44 rfl hf dX2_orderOf_12 (fun v3 hv3 hf => ?_)
        try dsimp only at hf
        refine G.alen C hf dX2_orderOf_15 (fun v4 hv4 hf => ?_)
        try dsimp only at hf
        refine G.icmp_ge (tgt := 37) C dX2_orderOf_16 (by decide) hf (fun c8 hf => ?_) (fun c8 hf => ?_)
        · cases hf
          change some _ = some _ at hlp1
          have hf := hfo1
          try rw [← Option.some.inj hlp1] at hf
          try dsimp only at hf
          refine G.sub C [] (lv' := []) rfl ?_
          exact hj37  hf
        · refine G.aload_n C 0 dX2_orderOf_19 rfl rfl ?_
          refine G.getR (ci := 1) (k := 1) C rfl inlX2 (by decide) m9_44 rfl hf dX2_orderOf_20 (fun v5 hv5 hf => ?_)
          try dsimp only at hf
          refine G.iload_n C 2 dX2_orderOf_23 rfl rfl ?_
          refine G.iald C hf dX2_orderOf_24 (fun v6 hv6 hf => ?_)
          try dsimp only at hf
          refine G.iload_n C 1 dX2_orderOf_25 rfl rfl ?_
          refine G.icmp_ne (tgt := 31) C dX2_orderOf_26 (by decide) hf (fun c7 hf => ?_) (fun c7 hf => ?_)
          · refine G.iinc (k := 2) (v := (x2 + 1)) (lv' := [(2, .int ((x2 + 1))), (0, .ref (a0)), (1, .int (a1))]) C dX2_orderOf_31 rfl rfl (by decide) rfl ?_
            refine G.goto (tgt := 2) C dX2_orderOf_34 (by decide) ?_
            cases hf
            refine G.sub C [1, 2, 0] (lv' := [(0, .ref (a0)), (1, .int (a1)), (2, .int ((x2 + 1)))]) rfl ?_
            exact ih1 _ hlp1
          · cases hf
            change some _ = some _ at hlp1
            have hf := hfo1
            try rw [← Option.some.inj hlp1] at hf
            try dsimp only at hf
            refine G.sub C [2] (lv' := [(2, .int (x2))]) rfl ?_
            exact hj29 _ hf
  refine G.sub C [1, 2, 0] (lv' := [(0, .ref (a0)), (1, .int (a1)), (2, .int ((0 : Int32)))]) rfl ?_
  exact hloop1 LF _ hlp1
theorem ko_X2_copyFrom {h : PH} {a0 : Nat} {a1 : Nat} {r : PH} (hf : f_X2_copyFrom h a0 a1 = some r) : kO h a0 1 := by
  unfold f_X2_copyFrom at hf
  exact okO_k (gd_ok hf).1
theorem kd_X2_copyFrom : yX2_copyFrom.cls = RX2 ∧ yX2_copyFrom.cls ≠ "java/lang/invoke/MethodHandle" ∧ yX2_copyFrom.cls ≠ "java/lang/invoke/VarHandle" ∧ (parseMethodDescriptor yX2_copyFrom.desc).map (fun d => d.parameters.length) = some 1 := by decide +kernel
set_option maxRecDepth 20000 in
set_option maxHeartbeats 4000000 in
theorem ct_X2_copyFrom {l : Launch} {h : PH} {a0 : Nat} {a1 : Nat} {r : PH} (hf : f_X2_copyFrom h a0 a1 = some r) : CT l yX2_copyFrom cX2_copyFrom 3 none 0 0 [.ref (a0), .ref (a1)] h none r := by
  refine CT.of (own := RX2) rfl (by decide) (Nat.le_of_ble_eq_true rfl) ?_
  intro p e R s m args below meth c g X hR C
  subst hR
  unfold f_X2_copyFrom at hf
  obtain ⟨hok, hf⟩ := gd_ok hf
  have hj92 : ∀ (hh : PH), f_X2_copyFrom_J92 hh = some r → G p l e ({ frames := 0, cells := 0, slots := 0, locals := 0 } : Room) s m args below meth c 3 g X h 0 0 (MQ below (QW g X h s.heap.size none r) args s 0 0 (AF X h s.heap.size)) 92 [] [] hh := by
    intro hh hf
    unfold f_X2_copyFrom_J92 at hf
    cases hf
    exact G.vret C rfl dX2_copyFrom_92
  have hj54 : ∀ (hh : PH) (x0 : Nat) (x1 : Nat), f_X2_copyFrom_J54 hh (x0) (x1) = some r → G p l e ({ frames := 0, cells := 0, slots := 0, locals := 0 } : Room) s m args below meth c 3 g X h 0 0 (MQ below (QW g X h s.heap.size none r) args s 0 0 (AF X h s.heap.size)) 54 [(0, .ref (x0)), (1, .ref (x1))] [] hh := by
    intro hh x0 x1 hf
    unfold f_X2_copyFrom_J54 at hf
    refine G.iconst (v := 0) C dX2_copyFrom_54 (by decide) ?_
    refine G.istore_n (lv' := [(2, .int ((0 : Int32))), (0, .ref (x0)), (1, .ref (x1))]) C dX2_copyFrom_55 rfl (by decide) rfl ?_
    obtain ⟨z23, hlp23, hfo23⟩ := bind_some hf
    clear hf
    have hloop23 : ∀ (k : Nat), ∀ (x2 : Int32) (hh : PH), (lpn (f_X2_copyFrom_L56 (x0) (x1)) k (x2, hh)) = some z23 → G p l e ({ frames := 0, cells := 0, slots := 0, locals := 0 } : Room) s m args below meth c 3 g X h 0 0 (MQ below (QW g X h s.heap.size none r) args s 0 0 (AF X h s.heap.size)) 56 [(0, .ref (x0)), (1, .ref (x1)), (2, .int (x2))] [] hh := by
      intro k
      induction k with
      | zero => intro x2 hh hlp23; exact (lpn_0 hlp23).elim
      | succ k ih23 =>
        intro x2 hh hlp23
        obtain ⟨y23, hf, hlp23⟩ := lpn_s hlp23
        unfold f_X2_copyFrom_L56 at hf
        try dsimp only at hf
        refine G.iload_n C 2 dX2_copyFrom_56 rfl rfl ?_
        refine G.aload_n C 0 dX2_copyFrom_57 rfl rfl ?_
        refine G.getR (ci := 1) (k := 1) C rfl inlX2 (by decide) m9_44 rfl hf dX2_copyFrom_58 (fun v24 hv24 hf => ?_)
        try dsimp only at hf
        refine G.alen C hf dX2_copyFrom_61 (fun v25 hv25 hf => ?_)
        try dsimp only at hf
        refine G.icmp_ge (tgt := 92) C dX2_copyFrom_62 (by decide) hf (fun c33 hf => ?_) (fun c33 hf => ?_)
        · cases hf
          change some _ = some _ at hlp23
          have hf := hfo23
          try rw [← Option.some.inj hlp23] at hf
          try dsimp only at hf
          refine G.sub C [] (lv' := []) rfl ?_
          exact hj92 _ hf
        · refine G.iload_n C 2 dX2_copyFrom_65 rfl rfl ?_
          refine G.aload_n C 1 dX2_copyFrom_66 rfl rfl ?_
          refine G.getR (ci := 1) (k := 1) C rfl inlX2 (by decide) m9_44 rfl hf dX2_copyFrom_67 (fun v26 hv26 hf => ?_)
          try dsimp only at hf
          refine G.alen C hf dX2_copyFrom_70 (fun v27 hv27 hf => ?_)
          try dsimp only at hf
          refine G.icmp_ge (tgt := 92) C dX2_copyFrom_71 (by decide) hf (fun c32 hf => ?_) (fun c32 hf => ?_)
          · cases hf
            change some _ = some _ at hlp23
            have hf := hfo23
            try rw [← Option.some.inj hlp23] at hf
            try dsimp only at hf
            refine G.sub C [] (lv' := []) rfl ?_
            exact hj92 _ hf
          · refine G.aload_n C 0 dX2_copyFrom_74 rfl rfl ?_
            refine G.getR (ci := 1) (k := 1) C rfl inlX2 (by decide) m9_44 rfl hf dX2_copyFrom_75 (fun v28 hv28 hf => ?_)
            try dsimp only at hf
            refine G.iload_n C 2 dX2_copyFrom_78 rfl rfl ?_
            refine G.aload_n C 1 dX2_copyFrom_79 rfl rfl ?_
            refine G.getR (ci := 1) (k := 1) C rfl inlX2 (by decide) m9_44 rfl hf dX2_copyFrom_80 (fun v29 hv29 hf => ?_)
            try dsimp only at hf
            refine G.iload_n C 2 dX2_copyFrom_83 rfl rfl ?_
            refine G.iald C hf dX2_copyFrom_84 (fun v30 hv30 hf => ?_)
            try dsimp only at hf
            refine G.iast C hf dX2_copyFrom_85 (fun h31 hh31 hf => ?_)
            try dsimp only at hf
            refine G.iinc (k := 2) (v := (x2 + 1)) (lv' := [(2, .int ((x2 + 1))), (0, .ref (x0)), (1, .ref (x1))]) C dX2_copyFrom_86 rfl rfl (by decide) rfl ?_
            refine G.goto (tgt := 56) C dX2_copyFrom_89 (by decide) ?_
            cases hf
            refine G.sub C [1, 2, 0] (lv' := [(0, .ref (x0)), (1, .ref (x1)), (2, .int ((x2 + 1)))]) rfl ?_
            exact ih23 _ _ hlp23
    refine G.sub C [1, 2, 0] (lv' := [(0, .ref (x0)), (1, .ref (x1)), (2, .int ((0 : Int32)))]) rfl ?_
    exact hloop23 LF _ _ hlp23
  refine G.sub C [0, 1] (lv' := [(0, .ref (a0)), (1, .ref (a1))]) rfl ?_
  refine G.aload_n C 0 dX2_copyFrom_0 rfl rfl ?_
  refine G.aload_n C 1 dX2_copyFrom_1 rfl rfl ?_
  refine G.getI (ci := 1) (k := 2) C rfl inlX2 (by decide) m9_45 rfl hf dX2_copyFrom_2 (fun v1 hv1 hf => ?_)
  try dsimp only at hf
  refine G.put (ci := 1) (k := 2) C rfl inlX2 (by decide) m9_45 rfl tyX2 tyX2_ok nmX2 rfl rfl rfl hf dX2_copyFrom_5 (fun h2 hh2 hf => ?_)
  try dsimp only at hf
  refine G.aload_n C 0 dX2_copyFrom_8 rfl rfl ?_
  refine G.aload_n C 1 dX2_copyFrom_9 rfl rfl ?_
  refine G.getI (ci := 1) (k := 3) C rfl inlX2 (by decide) m9_46 rfl hf dX2_copyFrom_10 (fun v3 hv3 hf => ?_)
  try dsimp only at hf
  refine G.put (ci := 1) (k := 3) C rfl inlX2 (by decide) m9_46 rfl tyX2 tyX2_ok nmX2 rfl rfl rfl hf dX2_copyFrom_13 (fun h4 hh4 hf => ?_)
  try dsimp only at hf
  refine G.iconst (v := 0) C dX2_copyFrom_16 (by decide) ?_
  refine G.istore_n (lv' := [(2, .int ((0 : Int32))), (0, .ref (a0)), (1, .ref (a1))]) C dX2_copyFrom_17 rfl (by decide) rfl ?_
  obtain ⟨z5, hlp5, hfo5⟩ := bind_some hf
  clear hf
  have hloop5 : ∀ (k : Nat), ∀ (x2 : Int32) (hh : PH), (lpn (f_X2_copyFrom_L18 (a0) (a1)) k (x2, hh)) = some z5 → G p l e ({ frames := 0, cells := 0, slots := 0, locals := 0 } : Room) s m args below meth c 3 g X h 0 0 (MQ below (QW g X h s.heap.size none r) args s 0 0 (AF X h s.heap.size)) 18 [(0, .ref (a0)), (1, .ref (a1)), (2, .int (x2))] [] hh := by
    intro k
    induction k with
    | zero => intro x2 hh hlp5; exact (lpn_0 hlp5).elim
    | succ k ih5 =>
      intro x2 hh hlp5
      obtain ⟨y5, hf, hlp5⟩ := lpn_s hlp5
      unfold f_X2_copyFrom_L18 at hf
      try dsimp only at hf
      refine G.iload_n C 2 dX2_copyFrom_18 rfl rfl ?_
      refine G.aload_n C 0 dX2_copyFrom_19 rfl rfl ?_
      refine G.getR (ci := 1) (k := 0) C rfl inlX2 (by decide) m9_43 rfl hf dX2_copyFrom_20 (fun v6 hv6 hf => ?_)
      try dsimp only at hf
      refine G.alen C hf dX2_copyFrom_23 (fun v7 hv7 hf => ?_)
      try dsimp only at hf
      refine G.icmp_ge (tgt := 54) C dX2_copyFrom_24 (by decide) hf (fun c15 hf => ?_) (fun c15 hf => ?_)
      · cases hf
        change some _ = some _ at hlp5
        have hf := hfo5
        try rw [← Option.some.inj hlp5] at hf
        try dsimp only at hf
        refine G.sub C [0, 1] (lv' := [(0, .ref (a0)), (1, .ref (a1))]) rfl ?_
        exact hj54 _ _ _ hf
      · refine G.iload_n C 2 dX2_copyFrom_27 rfl rfl ?_
        refine G.aload_n C 1 dX2_copyFrom_28 rfl rfl ?_
        refine G.getR (ci := 1) (k := 0) C rfl inlX2 (by decide) m9_43 rfl hf dX2_copyFrom_29 (fun v8 hv8 hf => ?_)
        try dsimp only at hf
        refine G.alen C hf dX2_copyFrom_32 (fun v9 hv9 hf => ?_)
        try dsimp only at hf
        refine G.icmp_ge (tgt := 54) C dX2_copyFrom_33 (by decide) hf (fun c14 hf => ?_) (fun c14 hf => ?_)
        · cases hf
          change some _ = some _ at hlp5
          have hf := hfo5
          try rw [← Option.some.inj hlp5] at hf
          try dsimp only at hf
          refine G.sub C [0, 1] (lv' := [(0, .ref (a0)), (1, .ref (a1))]) rfl ?_
          exact hj54 _ _ _ hf
        · refine G.aload_n C 0 dX2_copyFrom_36 rfl rfl ?_
          refine G.getR (ci := 1) (k := 0) C rfl inlX2 (by decide) m9_43 rfl hf dX2_copyFrom_37 (fun v10 hv10 hf => ?_)
          try dsimp only at hf
          refine G.iload_n C 2 dX2_copyFrom_40 rfl rfl ?_
          refine G.aload_n C 1 dX2_copyFrom_41 rfl rfl ?_
          refine G.getR (ci := 1) (k := 0) C rfl inlX2 (by decide) m9_43 rfl hf dX2_copyFrom_42 (fun v11 hv11 hf => ?_)
          try dsimp only at hf
          refine G.iload_n C 2 dX2_copyFrom_45 rfl rfl ?_
          refine G.iald C hf dX2_copyFrom_46 (fun v12 hv12 hf => ?_)
          try dsimp only at hf
          refine G.iast C hf dX2_copyFrom_47 (fun h13 hh13 hf => ?_)
          try dsimp only at hf
          refine G.iinc (k := 2) (v := (x2 + 1)) (lv' := [(2, .int ((x2 + 1))), (0, .ref (a0)), (1, .ref (a1))]) C dX2_copyFrom_48 rfl rfl (by decide) rfl ?_
          refine G.goto (tgt := 18) C dX2_copyFrom_51 (by decide) ?_
          cases hf
          refine G.sub C [1, 2, 0] (lv' := [(0, .ref (a0)), (1, .ref (a1)), (2, .int ((x2 + 1)))]) rfl ?_
          exact ih5 _ _ hlp5
  refine G.sub C [1, 2, 0] (lv' := [(0, .ref (a0)), (1, .ref (a1)), (2, .int ((0 : Int32)))]) rfl ?_
  exact hloop5 LF _ _ hlp5
theorem ko_X2_begin {h : PH} {a0 : Nat} {a1 : Int32} {r : PH} (hf : f_X2_begin h a0 a1 = some r) : kO h a0 1 := by
  unfold f_X2_begin at hf
  exact okO_k (gd_ok hf).1
theorem kd_X2_begin : yX2_begin.cls = RX2 ∧ yX2_begin.cls ≠ "java/lang/invoke/MethodHandle" ∧ yX2_begin.cls ≠ "java/lang/invoke/VarHandle" ∧ (parseMethodDescriptor yX2_begin.desc).map (fun d => d.parameters.length) = some 1 := by decide +kernel
set_option maxRecDepth 20000 in
set_option maxHeartbeats 4000000 in
theorem ct_X2_begin {l : Launch} {h : PH} {a0 : Nat} {a1 : Int32} {r : PH} (hf : f_X2_begin h a0 a1 = some r) : CT l yX2_begin cX2_begin 3 none 1 21 [.ref (a0), .int (a1)] h none r := by
  refine CT.of (own := RX2) rfl (by decide) (Nat.le_of_ble_eq_true rfl) ?_
  intro p e R s m args below meth c g X hR C
  subst hR
  unfold f_X2_begin at hf
  obtain ⟨hok, hf⟩ := gd_ok hf
  have hj46 : ∀ (hh : PH), f_X2_begin_J46 hh = some r → G p l e ({ frames := 1, cells := 0, slots := 0, locals := 21 } : Room) s m args below meth c 3 g X h 0 0 (MQ below (QW g X h s.heap.size none r) args s 0 0 (AF X h s.heap.size)) 46 [] [] hh := by
    intro hh hf
    unfold f_X2_begin_J46 at hf
    cases hf
    exact G.vret C rfl dX2_begin_46
  refine G.sub C [0, 1] (lv' := [(0, .ref (a0)), (1, .int (a1))]) rfl ?_
  refine G.aload_n C 0 dX2_begin_0 rfl rfl ?_
  refine G.iconst (v := 0) C dX2_begin_1 (by decide) ?_
  refine G.iload_n C 1 dX2_begin_2 rfl rfl ?_
  refine G.aload_n C 0 dX2_begin_3 rfl rfl ?_
  refine G.getR (ci := 1) (k := 0) C rfl inlX2 (by decide) m9_43 rfl hf dX2_begin_4 (fun v1 hv1 hf => ?_)
  try dsimp only at hf
  refine G.alen C hf dX2_begin_7 (fun v2 hv2 hf => ?_)
  try dsimp only at hf
  refine G.mmin C m9_292 m9_293 m9_170 m9_294 (Nat.le_of_ble_eq_true rfl) (Nat.le_of_ble_eq_true rfl) ⟨Nat.zero_le _, Nat.zero_le _⟩ dX2_begin_8 ?_
  refine G.mmax C m9_168 m9_169 m9_170 m9_171 (Nat.le_of_ble_eq_true rfl) (Nat.le_of_ble_eq_true rfl) ⟨Nat.zero_le _, Nat.zero_le _⟩ dX2_begin_11 ?_
  refine G.put (ci := 1) (k := 2) C rfl inlX2 (by decide) m9_45 rfl tyX2 tyX2_ok nmX2 rfl rfl rfl hf dX2_begin_14 (fun h3 hh3 hf => ?_)
  try dsimp only at hf
  refine G.aload_n C 0 dX2_begin_17 rfl rfl ?_
  refine G.iconst (v := 0) C dX2_begin_18 (by decide) ?_
  refine G.put (ci := 1) (k := 3) C rfl inlX2 (by decide) m9_46 rfl tyX2 tyX2_ok nmX2 rfl rfl rfl hf dX2_begin_19 (fun h4 hh4 hf => ?_)
  try dsimp only at hf
  refine G.iconst (v := 0) C dX2_begin_22 (by decide) ?_
  refine G.istore_n (lv' := [(2, .int ((0 : Int32))), (0, .ref (a0)), (1, .int (a1))]) C dX2_begin_23 rfl (by decide) rfl ?_
  obtain ⟨z5, hlp5, hfo5⟩ := bind_some hf
  clear hf
  have hloop5 : ∀ (k : Nat), ∀ (x2 : Int32) (hh : PH), (lpn (f_X2_begin_L24 (a0)) k (x2, hh)) = some z5 → G p l e ({ frames := 1, cells := 0, slots := 0, locals := 21 } : Room) s m args below meth c 3 g X h 0 0 (MQ below (QW g X h s.heap.size none r) args s 0 0 (AF X h s.heap.size)) 24 [(0, .ref (a0)), (2, .int (x2))] [] hh := by
    intro k
    induction k with
    | zero => intro x2 hh hlp5; exact (lpn_0 hlp5).elim
    | succ k ih5 =>
      intro x2 hh hlp5
      obtain ⟨y5, hf, hlp5⟩ := lpn_s hlp5
      unfold f_X2_begin_L24 at hf
      try dsimp only at hf
      refine G.iload_n C 1 dX2_begin_24 rfl rfl ?_
      refine G.aload_n C 0 dX2_begin_25 rfl rfl ?_
      refine G.getR (ci := 1) (k := 0) C rfl inlX2 (by decide) m9_43 rfl hf dX2_begin_26 (fun v6 hv6 hf => ?_)
      try dsimp only at hf
      refine G.alen C hf dX2_begin_29 (fun v7 hv7 hf => ?_)
      try dsimp only at hf
      refine G.icmp_ge (tgt := 46) C dX2_begin_30 (by decide) hf (fun c10 hf => ?_) (fun c10 hf => ?_)
      · cases hf
        change some _ = some _ at hlp5
        have hf := hfo5
        try rw [← Option.some.inj hlp5] at hf
        try dsimp only at hf
        refine G.sub C [] (lv' := []) rfl ?_
        exact hj46 _ hf
      · refine G.aload_n C 0 dX2_begin_33 rfl rfl ?_
        refine G.getR (ci := 1) (k := 0) C rfl inlX2 (by decide) m9_43 rfl hf dX2_begin_34 (fun v8 hv8 hf => ?_)
        try dsimp only at hf
        refine G.iload_n C 1 dX2_begin_37 rfl rfl ?_
        refine G.iconst (v := (-1)) C dX2_begin_38 (by decide) ?_
        refine G.iast C hf dX2_begin_39 (fun h9 hh9 hf => ?_)
        try dsimp only at hf
        refine G.iinc (k := 1) (v := (x2 + 1)) (lv' := [(2, .int ((x2 + 1))), (0, .ref (a0))]) C dX2_begin_40 rfl rfl (by decide) rfl ?_
        refine G.goto (tgt := 24) C dX2_begin_43 (by decide) ?_
        cases hf
        refine G.sub C [1, 0] (lv' := [(0, .ref (a0)), (2, .int ((x2 + 1)))]) rfl ?_
        exact ih5 _ _ hlp5
  refine G.sub C [1, 0] (lv' := [(0, .ref (a0)), (2, .int ((0 : Int32)))]) rfl ?_
  exact hloop5 LF _ _ hlp5
theorem ko_X2_colourAt {h : PH} {a0 : Nat} {a1 : Int32} {r : Int32} (hf : f_X2_colourAt h a0 a1 = some r) : kO h a0 1 := by
  unfold f_X2_colourAt at hf
  exact okO_k (gd_ok hf).1
theorem kd_X2_colourAt : yX2_colourAt.cls = RX2 ∧ yX2_colourAt.cls ≠ "java/lang/invoke/MethodHandle" ∧ yX2_colourAt.cls ≠ "java/lang/invoke/VarHandle" ∧ (parseMethodDescriptor yX2_colourAt.desc).map (fun d => d.parameters.length) = some 1 := by decide +kernel
set_option maxRecDepth 20000 in
set_option maxHeartbeats 4000000 in
theorem ct_X2_colourAt {l : Launch} {h : PH} {a0 : Nat} {a1 : Int32} {r : Int32} (hf : f_X2_colourAt h a0 a1 = some r) : CT l yX2_colourAt cX2_colourAt 2 (some .int) 0 0 [.ref (a0), .int (a1)] h (some (.int r)) h := by
  refine CT.of (own := RX2) rfl (by decide) (Nat.le_of_ble_eq_true rfl) ?_
  intro p e R s m args below meth c g X hR C
  subst hR
  unfold f_X2_colourAt at hf
  obtain ⟨hok, hf⟩ := gd_ok hf
  have hj31 : ∀ (k0 : Int32), f_X2_colourAt_J31 h k0 = some r → G p l e ({ frames := 0, cells := 0, slots := 0, locals := 0 } : Room) s m args below meth c 2 g X h 0 0 (MQ below (QW g X h s.heap.size (some (.int r)) h) args s 0 0 (AF X h s.heap.size)) 31 [] [.int (k0)] h := by
    intro k0 hf
    unfold f_X2_colourAt_J31 at hf
    cases hf
    exact G.iret C rfl dX2_colourAt_31
  have hj30 : f_X2_colourAt_J30 h = some r → G p l e ({ frames := 0, cells := 0, slots := 0, locals := 0 } : Room) s m args below meth c 2 g X h 0 0 (MQ below (QW g X h s.heap.size (some (.int r)) h) args s 0 0 (AF X h s.heap.size)) 30 [] [] h := by
    intro hf
    unfold f_X2_colourAt_J30 at hf
    refine G.iconst (v := (-1)) C dX2_colourAt_30 (by decide) ?_
    refine G.sub C [] (lv' := []) rfl ?_
    exact hj31 _ hf
  refine G.sub C [0, 1] (lv' := [(0, .ref (a0)), (1, .int (a1))]) rfl ?_
  refine G.iload_n C 1 dX2_colourAt_0 rfl rfl ?_
  refine G.if_lt (tgt := 30) C dX2_colourAt_1 (by decide) hf (fun c8 hf => ?_) (fun c8 hf => ?_)
  · refine G.sub C [] (lv' := []) rfl ?_
    exact hj30  hf
  · refine G.iload_n C 1 dX2_colourAt_4 rfl rfl ?_
    refine G.aload_n C 0 dX2_colourAt_5 rfl rfl ?_
    refine G.getI (ci := 1) (k := 2) C rfl inlX2 (by decide) m9_45 rfl hf dX2_colourAt_6 (fun v1 hv1 hf => ?_)
    try dsimp only at hf
    refine G.icmp_ge (tgt := 30) C dX2_colourAt_9 (by decide) hf (fun c7 hf => ?_) (fun c7 hf => ?_)
    · refine G.sub C [] (lv' := []) rfl ?_
      exact hj30  hf
    · refine G.iload_n C 1 dX2_colourAt_12 rfl rfl ?_
      refine G.aload_n C 0 dX2_colourAt_13 rfl rfl ?_
      refine G.getR (ci := 1) (k := 0) C rfl inlX2 (by decide) m9_43 rfl hf dX2_colourAt_14 (fun v2 hv2 hf => ?_)
      try dsimp only at hf
      refine G.alen C hf dX2_colourAt_17 (fun v3 hv3 hf => ?_)
      try dsimp only at hf
      refine G.icmp_ge (tgt := 30) C dX2_colourAt_18 (by decide) hf (fun c6 hf => ?_) (fun c6 hf => ?_)
      · refine G.sub C [] (lv' := []) rfl ?_
        exact hj30  hf
      · refine G.aload_n C 0 dX2_colourAt_21 rfl rfl ?_
        refine G.getR (ci := 1) (k := 0) C rfl inlX2 (by decide) m9_43 rfl hf dX2_colourAt_22 (fun v4 hv4 hf => ?_)
        try dsimp only at hf
        refine G.iload_n C 1 dX2_colourAt_25 rfl rfl ?_
        refine G.iald C hf dX2_colourAt_26 (fun v5 hv5 hf => ?_)
        try dsimp only at hf
        refine G.goto (tgt := 31) C dX2_colourAt_27 (by decide) ?_
        refine G.sub C [] (lv' := []) rfl ?_
        exact hj31 _ hf
theorem ko_X2_reasonAgainst {h : PH} {a0 : Nat} {a1 : Int32} {a2 : Int32} {a3 : Int32} {r : Int32} (hf : f_X2_reasonAgainst h a0 a1 a2 a3 = some r) : kO h a0 1 := by
  unfold f_X2_reasonAgainst at hf
  exact okO_k (gd_ok hf).1
theorem kd_X2_reasonAgainst : yX2_reasonAgainst.cls = RX2 ∧ yX2_reasonAgainst.cls ≠ "java/lang/invoke/MethodHandle" ∧ yX2_reasonAgainst.cls ≠ "java/lang/invoke/VarHandle" ∧ (parseMethodDescriptor yX2_reasonAgainst.desc).map (fun d => d.parameters.length) = some 3 := by decide +kernel
set_option maxRecDepth 20000 in
set_option maxHeartbeats 4000000 in
theorem ct_X2_reasonAgainst {l : Launch} {h : PH} {a0 : Nat} {a1 : Int32} {a2 : Int32} {a3 : Int32} {r : Int32} (hf : f_X2_reasonAgainst h a0 a1 a2 a3 = some r) : CT l yX2_reasonAgainst cX2_reasonAgainst 6 (some .int) 1 22 [.ref (a0), .int (a1), .int (a2), .int (a3)] h (some (.int r)) h := by
  refine CT.of (own := RX2) rfl (by decide) (Nat.le_of_ble_eq_true rfl) ?_
  intro p e R s m args below meth c g X hR C
  subst hR
  unfold f_X2_reasonAgainst at hf
  obtain ⟨hok, hf⟩ := gd_ok hf
  have hj50 : f_X2_reasonAgainst_J50 h = some r → G p l e ({ frames := 1, cells := 0, slots := 0, locals := 22 } : Room) s m args below meth c 6 g X h 0 0 (MQ below (QW g X h s.heap.size (some (.int r)) h) args s 0 0 (AF X h s.heap.size)) 50 [] [] h := by
    intro hf
    unfold f_X2_reasonAgainst_J50 at hf
    refine G.iconst (v := 3) C dX2_reasonAgainst_50 (by decide) ?_
    cases hf
    exact G.iret C rfl dX2_reasonAgainst_51
  have hj62 : f_X2_reasonAgainst_J62 h = some r → G p l e ({ frames := 1, cells := 0, slots := 0, locals := 22 } : Room) s m args below meth c 6 g X h 0 0 (MQ below (QW g X h s.heap.size (some (.int r)) h) args s 0 0 (AF X h s.heap.size)) 62 [] [] h := by
    intro hf
    unfold f_X2_reasonAgainst_J62 at hf
    refine G.iconst (v := 0) C dX2_reasonAgainst_62 (by decide) ?_
    cases hf
    exact G.iret C rfl dX2_reasonAgainst_63
  refine G.sub C [0, 1, 2, 3] (lv' := [(0, .ref (a0)), (1, .int (a1)), (2, .int (a2)), (3, .int (a3))]) rfl ?_
  refine G.aload_n C 0 dX2_reasonAgainst_0 rfl rfl ?_
  refine G.iload_n C 1 dX2_reasonAgainst_1 rfl rfl ?_
  obtain ⟨v1, hv1, hf⟩ := bind_some hf
  try dsimp only at hf
  refine G.callV C (st := []) (st2 := [.int (v1)]) (ct_X2_orderOf hv1) (ko_X2_orderOf hv1) rfl m9_203 m9_117 m9_118 m9_24 m9_119 kd_X2_orderOf ⟨Nat.le_of_ble_eq_true rfl, Nat.le_of_ble_eq_true rfl⟩ ⟨Nat.zero_le _, Nat.zero_le _⟩ (Nat.le_of_ble_eq_true rfl) rfl rfl dX2_reasonAgainst_2 ?_
  refine G.iconst (v := (-1)) C dX2_reasonAgainst_5 (by decide) ?_
  refine G.icmp_eq (tgt := 11) C dX2_reasonAgainst_6 (by decide) hf (fun c9 hf => ?_) (fun c9 hf => ?_)
  · refine G.iload_n C 2 dX2_reasonAgainst_11 rfl rfl ?_
    refine G.aload_n C 0 dX2_reasonAgainst_12 rfl rfl ?_
    refine G.getI (ci := 1) (k := 2) C rfl inlX2 (by decide) m9_45 rfl hf dX2_reasonAgainst_13 (fun v2 hv2 hf => ?_)
    try dsimp only at hf
    refine G.icmp_lt (tgt := 21) C dX2_reasonAgainst_16 (by decide) hf (fun c8 hf => ?_) (fun c8 hf => ?_)
    · refine G.iconst (v := 1) C dX2_reasonAgainst_21 (by decide) ?_
      refine G.iload_n C 3 dX2_reasonAgainst_22 rfl rfl ?_
      refine G.mmax C m9_168 m9_169 m9_170 m9_171 (Nat.le_of_ble_eq_true rfl) (Nat.le_of_ble_eq_true rfl) ⟨Nat.zero_le _, Nat.zero_le _⟩ dX2_reasonAgainst_23 ?_
      refine G.istore (lv' := [(4, .int ((if (1 : Int32) < a3 then a3 else (1 : Int32)))), (0, .ref (a0)), (1, .int (a1)), (2, .int (a2)), (3, .int (a3))]) C dX2_reasonAgainst_26 (by decide) rfl ?_
      refine G.iload_n C 3 dX2_reasonAgainst_28 rfl rfl ?_
      refine G.istore (lv' := [(5, .int (a2)), (4, .int ((if (1 : Int32) < a3 then a3 else (1 : Int32)))), (0, .ref (a0)), (1, .int (a1)), (2, .int (a2)), (3, .int (a3))]) C dX2_reasonAgainst_29 (by decide) rfl ?_
      obtain ⟨z3, hlp3, hfo3⟩ := bind_some hf
      clear hf
      have hloop3 : ∀ (k : Nat), ∀ (x5 : Int32), (lpn (f_X2_reasonAgainst_L31 (h) (a0) ((if (1 : Int32) < a3 then a3 else (1 : Int32)))) k (x5)) = some z3 → G p l e ({ frames := 1, cells := 0, slots := 0, locals := 22 } : Room) s m args below meth c 6 g X h 0 0 (MQ below (QW g X h s.heap.size (some (.int r)) h) args s 0 0 (AF X h s.heap.size)) 31 [(0, .ref (a0)), (4, .int ((if (1 : Int32) < a3 then a3 else (1 : Int32)))), (5, .int (x5))] [] h := by
        intro k
        induction k with
        | zero => intro x5 hlp3; exact (lpn_0 hlp3).elim
        | succ k ih3 =>
          intro x5 hlp3
          obtain ⟨y3, hf, hlp3⟩ := lpn_s hlp3
          unfold f_X2_reasonAgainst_L31 at hf
          try dsimp only at hf
          refine G.iload C 2 dX2_reasonAgainst_31 rfl ?_
          refine G.aload_n C 0 dX2_reasonAgainst_33 rfl rfl ?_
          refine G.getI (ci := 1) (k := 2) C rfl inlX2 (by decide) m9_45 rfl hf dX2_reasonAgainst_34 (fun v4 hv4 hf => ?_)
          try dsimp only at hf
          refine G.icmp_ge (tgt := 62) C dX2_reasonAgainst_37 (by decide) hf (fun c7 hf => ?_) (fun c7 hf => ?_)
          · cases hf
            change some _ = some _ at hlp3
            have hf := hfo3
            try rw [← Option.some.inj hlp3] at hf
            try dsimp only at hf
            refine G.sub C [] (lv' := []) rfl ?_
            exact hj62  hf
          · refine G.aload_n C 0 dX2_reasonAgainst_40 rfl rfl ?_
            refine G.iload C 2 dX2_reasonAgainst_41 rfl ?_
            obtain ⟨v5, hv5, hf⟩ := bind_some hf
            try dsimp only at hf
            refine G.callV C (st := []) (st2 := [.int (v5)]) (ct_X2_colourAt hv5) (ko_X2_colourAt hv5) rfl m9_104 m9_105 m9_106 m9_24 m9_107 kd_X2_colourAt ⟨Nat.le_of_ble_eq_true rfl, Nat.le_of_ble_eq_true rfl⟩ ⟨Nat.zero_le _, Nat.zero_le _⟩ (Nat.le_of_ble_eq_true rfl) rfl rfl dX2_reasonAgainst_43 ?_
            refine G.iconst (v := (-1)) C dX2_reasonAgainst_46 (by decide) ?_
            refine G.icmp_eq (tgt := 52) C dX2_reasonAgainst_47 (by decide) hf (fun c6 hf => ?_) (fun c6 hf => ?_)
            · refine G.iload C 2 dX2_reasonAgainst_52 rfl ?_
              refine G.iload C 1 dX2_reasonAgainst_54 rfl ?_
              refine G.iadd C dX2_reasonAgainst_56 ?_
              refine G.istore (lv' := [(5, .int ((x5 + (if (1 : Int32) < a3 then a3 else (1 : Int32))))), (0, .ref (a0)), (4, .int ((if (1 : Int32) < a3 then a3 else (1 : Int32))))]) C dX2_reasonAgainst_57 (by decide) rfl ?_
              refine G.goto (tgt := 31) C dX2_reasonAgainst_59 (by decide) ?_
              cases hf
              refine G.sub C [1, 2, 0] (lv' := [(0, .ref (a0)), (4, .int ((if (1 : Int32) < a3 then a3 else (1 : Int32)))), (5, .int ((x5 + (if (1 : Int32) < a3 then a3 else (1 : Int32)))))]) rfl ?_
              exact ih3 _ hlp3
            · cases hf
              change some _ = some _ at hlp3
              have hf := hfo3
              try rw [← Option.some.inj hlp3] at hf
              try dsimp only at hf
              refine G.sub C [] (lv' := []) rfl ?_
              exact hj50  hf
      refine G.sub C [2, 1, 0] (lv' := [(0, .ref (a0)), (4, .int ((if (1 : Int32) < a3 then a3 else (1 : Int32)))), (5, .int (a2))]) rfl ?_
      exact hloop3 LF _ hlp3
    · refine G.iconst (v := 2) C dX2_reasonAgainst_19 (by decide) ?_
      cases hf
      exact G.iret C rfl dX2_reasonAgainst_20
  · refine G.iconst (v := 1) C dX2_reasonAgainst_9 (by decide) ?_
    cases hf
    exact G.iret C rfl dX2_reasonAgainst_10
theorem ko_X2_setColour {h : PH} {a0 : Nat} {a1 : Int32} {a2 : Int32} {r : PH} (hf : f_X2_setColour h a0 a1 a2 = some r) : kO h a0 1 := by
  unfold f_X2_setColour at hf
  exact okO_k (gd_ok hf).1
theorem kd_X2_setColour : yX2_setColour.cls = RX2 ∧ yX2_setColour.cls ≠ "java/lang/invoke/MethodHandle" ∧ yX2_setColour.cls ≠ "java/lang/invoke/VarHandle" ∧ (parseMethodDescriptor yX2_setColour.desc).map (fun d => d.parameters.length) = some 2 := by decide +kernel
set_option maxRecDepth 20000 in
set_option maxHeartbeats 4000000 in
theorem ct_X2_setColour {l : Launch} {h : PH} {a0 : Nat} {a1 : Int32} {a2 : Int32} {r : PH} (hf : f_X2_setColour h a0 a1 a2 = some r) : CT l yX2_setColour cX2_setColour 3 none 0 0 [.ref (a0), .int (a1), .int (a2)] h none r := by
  refine CT.of (own := RX2) rfl (by decide) (Nat.le_of_ble_eq_true rfl) ?_
  intro p e R s m args below meth c g X hR C
  subst hR
  unfold f_X2_setColour at hf
  obtain ⟨hok, hf⟩ := gd_ok hf
  have hj20 : ∀ (hh : PH), f_X2_setColour_J20 hh = some r → G p l e ({ frames := 0, cells := 0, slots := 0, locals := 0 } : Room) s m args below meth c 3 g X h 0 0 (MQ below (QW g X h s.heap.size none r) args s 0 0 (AF X h s.heap.size)) 20 [] [] hh := by
    intro hh hf
    unfold f_X2_setColour_J20 at hf
    cases hf
    exact G.vret C rfl dX2_setColour_20
  refine G.sub C [0, 1, 2] (lv' := [(0, .ref (a0)), (1, .int (a1)), (2, .int (a2))]) rfl ?_
  refine G.iload_n C 1 dX2_setColour_0 rfl rfl ?_
  refine G.if_lt (tgt := 20) C dX2_setColour_1 (by decide) hf (fun c6 hf => ?_) (fun c6 hf => ?_)
  · refine G.sub C [] (lv' := []) rfl ?_
    exact hj20 _ hf
  · refine G.iload_n C 1 dX2_setColour_4 rfl rfl ?_
    refine G.aload_n C 0 dX2_setColour_5 rfl rfl ?_
    refine G.getR (ci := 1) (k := 0) C rfl inlX2 (by decide) m9_43 rfl hf dX2_setColour_6 (fun v1 hv1 hf => ?_)
    try dsimp only at hf
    refine G.alen C hf dX2_setColour_9 (fun v2 hv2 hf => ?_)
    try dsimp only at hf
    refine G.icmp_ge (tgt := 20) C dX2_setColour_10 (by decide) hf (fun c5 hf => ?_) (fun c5 hf => ?_)
    · refine G.sub C [] (lv' := []) rfl ?_
      exact hj20 _ hf
    · refine G.aload_n C 0 dX2_setColour_13 rfl rfl ?_
      refine G.getR (ci := 1) (k := 0) C rfl inlX2 (by decide) m9_43 rfl hf dX2_setColour_14 (fun v3 hv3 hf => ?_)
      try dsimp only at hf
      refine G.iload_n C 1 dX2_setColour_17 rfl rfl ?_
      refine G.iload_n C 2 dX2_setColour_18 rfl rfl ?_
      refine G.iast C hf dX2_setColour_19 (fun h4 hh4 hf => ?_)
      try dsimp only at hf
      refine G.sub C [] (lv' := []) rfl ?_
      exact hj20 _ hf
theorem ko_X2_put {h : PH} {a0 : Nat} {a1 : Int32} {a2 : Int32} {a3 : Int32} {r : (Int32 × PH)} (hf : f_X2_put h a0 a1 a2 a3 = some r) : kO h a0 1 := by
  unfold f_X2_put at hf
  exact okO_k (gd_ok hf).1
theorem kd_X2_put : yX2_put.cls = RX2 ∧ yX2_put.cls ≠ "java/lang/invoke/MethodHandle" ∧ yX2_put.cls ≠ "java/lang/invoke/VarHandle" ∧ (parseMethodDescriptor yX2_put.desc).map (fun d => d.parameters.length) = some 3 := by decide +kernel
set_option maxRecDepth 20000 in
set_option maxHeartbeats 4000000 in
theorem ct_X2_put {l : Launch} {h : PH} {a0 : Nat} {a1 : Int32} {a2 : Int32} {a3 : Int32} {r : (Int32 × PH)} (hf : f_X2_put h a0 a1 a2 a3 = some r) : CT l yX2_put cX2_put 7 (some .int) 1 22 [.ref (a0), .int (a1), .int (a2), .int (a3)] h (some (.int r.1)) r.2 := by
  refine CT.of (own := RX2) rfl (by decide) (Nat.le_of_ble_eq_true rfl) ?_
  intro p e R s m args below meth c g X hR C
  subst hR
  unfold f_X2_put at hf
  obtain ⟨hok, hf⟩ := gd_ok hf
  have hj31 : f_X2_put_J31 h = some r → G p l e ({ frames := 1, cells := 0, slots := 0, locals := 22 } : Room) s m args below meth c 7 g X h 0 0 (MQ below (QW g X h s.heap.size (some (.int r.1)) r.2) args s 0 0 (AF X h s.heap.size)) 31 [] [] h := by
    intro hf
    unfold f_X2_put_J31 at hf
    refine G.iconst (v := 0) C dX2_put_31 (by decide) ?_
    cases hf
    exact G.iret C rfl dX2_put_32
  have hj95 : ∀ (hh : PH) (x4 : Int32), f_X2_put_J95 hh (x4) = some r → G p l e ({ frames := 1, cells := 0, slots := 0, locals := 22 } : Room) s m args below meth c 7 g X h 0 0 (MQ below (QW g X h s.heap.size (some (.int r.1)) r.2) args s 0 0 (AF X h s.heap.size)) 95 [(4, .int (x4))] [] hh := by
    intro hh x4 hf
    unfold f_X2_put_J95 at hf
    refine G.iload C 0 dX2_put_95 rfl ?_
    cases hf
    exact G.iret C rfl dX2_put_97
  refine G.sub C [0, 1, 2, 3] (lv' := [(0, .ref (a0)), (1, .int (a1)), (2, .int (a2)), (3, .int (a3))]) rfl ?_
  refine G.iload_n C 2 dX2_put_0 rfl rfl ?_
  refine G.if_lt (tgt := 31) C dX2_put_1 (by decide) hf (fun c18 hf => ?_) (fun c18 hf => ?_)
  · refine G.sub C [] (lv' := []) rfl ?_
    exact hj31  hf
  · refine G.iload_n C 2 dX2_put_4 rfl rfl ?_
    refine G.aload_n C 0 dX2_put_5 rfl rfl ?_
    refine G.getI (ci := 1) (k := 2) C rfl inlX2 (by decide) m9_45 rfl hf dX2_put_6 (fun v1 hv1 hf => ?_)
    try dsimp only at hf
    refine G.icmp_ge (tgt := 31) C dX2_put_9 (by decide) hf (fun c17 hf => ?_) (fun c17 hf => ?_)
    · refine G.sub C [] (lv' := []) rfl ?_
      exact hj31  hf
    · refine G.aload_n C 0 dX2_put_12 rfl rfl ?_
      refine G.getI (ci := 1) (k := 3) C rfl inlX2 (by decide) m9_46 rfl hf dX2_put_13 (fun v2 hv2 hf => ?_)
      try dsimp only at hf
      refine G.if_lt (tgt := 31) C dX2_put_16 (by decide) hf (fun c16 hf => ?_) (fun c16 hf => ?_)
      · refine G.sub C [] (lv' := []) rfl ?_
        exact hj31  hf
      · refine G.aload_n C 0 dX2_put_19 rfl rfl ?_
        refine G.getI (ci := 1) (k := 3) C rfl inlX2 (by decide) m9_46 rfl hf dX2_put_20 (fun v3 hv3 hf => ?_)
        try dsimp only at hf
        refine G.aload_n C 0 dX2_put_23 rfl rfl ?_
        refine G.getR (ci := 1) (k := 1) C rfl inlX2 (by decide) m9_44 rfl hf dX2_put_24 (fun v4 hv4 hf => ?_)
        try dsimp only at hf
        refine G.alen C hf dX2_put_27 (fun v5 hv5 hf => ?_)
        try dsimp only at hf
        refine G.icmp_lt (tgt := 33) C dX2_put_28 (by decide) hf (fun c15 hf => ?_) (fun c15 hf => ?_)
        · refine G.aload_n C 0 dX2_put_33 rfl rfl ?_
          refine G.getR (ci := 1) (k := 1) C rfl inlX2 (by decide) m9_44 rfl hf dX2_put_34 (fun v6 hv6 hf => ?_)
          try dsimp only at hf
          refine G.aload_n C 0 dX2_put_37 rfl rfl ?_
          refine G.getI (ci := 1) (k := 3) C rfl inlX2 (by decide) m9_46 rfl hf dX2_put_38 (fun v7 hv7 hf => ?_)
          try dsimp only at hf
          refine G.iload_n C 1 dX2_put_41 rfl rfl ?_
          refine G.iast C hf dX2_put_42 (fun h8 hh8 hf => ?_)
          try dsimp only at hf
          refine G.aload_n C 0 dX2_put_43 rfl rfl ?_
          refine G.dup C dX2_put_44 rfl ?_
          refine G.getI (ci := 1) (k := 3) C rfl inlX2 (by decide) m9_46 rfl hf dX2_put_45 (fun v9 hv9 hf => ?_)
          try dsimp only at hf
          refine G.iconst (v := 1) C dX2_put_48 (by decide) ?_
          refine G.iadd C dX2_put_49 ?_
          refine G.put (ci := 1) (k := 3) C rfl inlX2 (by decide) m9_46 rfl tyX2 tyX2_ok nmX2 rfl rfl rfl hf dX2_put_50 (fun h10 hh10 hf => ?_)
          try dsimp only at hf
          refine G.iconst (v := 0) C dX2_put_53 (by decide) ?_
          refine G.istore (lv' := [(4, .int ((0 : Int32))), (0, .ref (a0)), (1, .int (a1)), (2, .int (a2)), (3, .int (a3))]) C dX2_put_54 (by decide) rfl ?_
          refine G.iconst (v := 1) C dX2_put_56 (by decide) ?_
          refine G.iload_n C 4 dX2_put_57 rfl rfl ?_
          refine G.mmax C m9_168 m9_169 m9_170 m9_171 (Nat.le_of_ble_eq_true rfl) (Nat.le_of_ble_eq_true rfl) ⟨Nat.zero_le _, Nat.zero_le _⟩ dX2_put_58 ?_
          refine G.istore (lv' := [(5, .int ((if (1 : Int32) < a3 then a3 else (1 : Int32)))), (4, .int ((0 : Int32))), (0, .ref (a0)), (1, .int (a1)), (2, .int (a2)), (3, .int (a3))]) C dX2_put_61 (by decide) rfl ?_
          refine G.iload_n C 4 dX2_put_63 rfl rfl ?_
          refine G.istore (lv' := [(6, .int (a2)), (5, .int ((if (1 : Int32) < a3 then a3 else (1 : Int32)))), (4, .int ((0 : Int32))), (0, .ref (a0)), (1, .int (a1)), (2, .int (a2)), (3, .int (a3))]) C dX2_put_64 (by decide) rfl ?_
          obtain ⟨z11, hlp11, hfo11⟩ := bind_some hf
          clear hf
          have hloop11 : ∀ (k : Nat), ∀ (x4 : Int32) (x6 : Int32) (hh : PH), (lpn (f_X2_put_L66 (a0) (a1) ((if (1 : Int32) < a3 then a3 else (1 : Int32)))) k (x4, x6, hh)) = some z11 → G p l e ({ frames := 1, cells := 0, slots := 0, locals := 22 } : Room) s m args below meth c 7 g X h 0 0 (MQ below (QW g X h s.heap.size (some (.int r.1)) r.2) args s 0 0 (AF X h s.heap.size)) 66 [(0, .ref (a0)), (1, .int (a1)), (4, .int (x4)), (5, .int ((if (1 : Int32) < a3 then a3 else (1 : Int32)))), (6, .int (x6))] [] hh := by
            intro k
            induction k with
            | zero => intro x4 x6 hh hlp11; exact (lpn_0 hlp11).elim
            | succ k ih11 =>
              intro x4 x6 hh hlp11
              obtain ⟨y11, hf, hlp11⟩ := lpn_s hlp11
              unfold f_X2_put_L66 at hf
              try dsimp only at hf
              refine G.iload C 4 dX2_put_66 rfl ?_
              refine G.aload_n C 0 dX2_put_68 rfl rfl ?_
              refine G.getI (ci := 1) (k := 2) C rfl inlX2 (by decide) m9_45 rfl hf dX2_put_69 (fun v12 hv12 hf => ?_)
              try dsimp only at hf
              refine G.icmp_ge (tgt := 95) C dX2_put_72 (by decide) hf (fun c14 hf => ?_) (fun c14 hf => ?_)
              · cases hf
                change some _ = some _ at hlp11
                have hf := hfo11
                try rw [← Option.some.inj hlp11] at hf
                try dsimp only at hf
                refine G.sub C [2] (lv' := [(4, .int (x4))]) rfl ?_
                exact hj95 _ _ hf
              · refine G.aload_n C 0 dX2_put_75 rfl rfl ?_
                refine G.iload C 4 dX2_put_76 rfl ?_
                refine G.iload_n C 1 dX2_put_78 rfl rfl ?_
                obtain ⟨h13, hh13, hf⟩ := bind_some hf
                try dsimp only at hf
                refine G.callV C (st := []) (st2 := []) (ct_X2_setColour hh13) (ko_X2_setColour hh13) rfl m9_303 m9_304 m9_305 m9_24 m9_306 kd_X2_setColour ⟨Nat.le_of_ble_eq_true rfl, Nat.le_of_ble_eq_true rfl⟩ ⟨Nat.zero_le _, Nat.zero_le _⟩ (Nat.le_of_ble_eq_true rfl) rfl rfl dX2_put_79 ?_
                refine G.iinc (k := 2) (v := (x4 + 1)) (lv' := [(4, .int ((x4 + 1))), (0, .ref (a0)), (1, .int (a1)), (5, .int ((if (1 : Int32) < a3 then a3 else (1 : Int32)))), (6, .int (x6))]) C dX2_put_82 rfl rfl (by decide) rfl ?_
                refine G.iload C 4 dX2_put_85 rfl ?_
                refine G.iload C 3 dX2_put_87 rfl ?_
                refine G.iadd C dX2_put_89 ?_
                refine G.istore (lv' := [(6, .int ((x6 + (if (1 : Int32) < a3 then a3 else (1 : Int32))))), (4, .int ((x4 + 1))), (0, .ref (a0)), (1, .int (a1)), (5, .int ((if (1 : Int32) < a3 then a3 else (1 : Int32))))]) C dX2_put_90 (by decide) rfl ?_
                refine G.goto (tgt := 66) C dX2_put_92 (by decide) ?_
                cases hf
                refine G.sub C [2, 3, 1, 4, 0] (lv' := [(0, .ref (a0)), (1, .int (a1)), (4, .int ((x4 + 1))), (5, .int ((if (1 : Int32) < a3 then a3 else (1 : Int32)))), (6, .int ((x6 + (if (1 : Int32) < a3 then a3 else (1 : Int32)))))]) rfl ?_
                exact ih11 _ _ _ hlp11
          refine G.sub C [3, 4, 2, 1, 0] (lv' := [(0, .ref (a0)), (1, .int (a1)), (4, .int ((0 : Int32))), (5, .int ((if (1 : Int32) < a3 then a3 else (1 : Int32)))), (6, .int (a2))]) rfl ?_
          exact hloop11 LF _ _ _ hlp11
        · refine G.sub C [] (lv' := []) rfl ?_
          exact hj31  hf
theorem ko_X2_placesOf {h : PH} {a0 : Nat} {a1 : Int32} {r : Int32} (hf : f_X2_placesOf h a0 a1 = some r) : kO h a0 1 := by
  unfold f_X2_placesOf at hf
  exact okO_k (gd_ok hf).1
theorem kd_X2_placesOf : yX2_placesOf.cls = RX2 ∧ yX2_placesOf.cls ≠ "java/lang/invoke/MethodHandle" ∧ yX2_placesOf.cls ≠ "java/lang/invoke/VarHandle" ∧ (parseMethodDescriptor yX2_placesOf.desc).map (fun d => d.parameters.length) = some 1 := by decide +kernel
set_option maxRecDepth 20000 in
set_option maxHeartbeats 4000000 in
theorem ct_X2_placesOf {l : Launch} {h : PH} {a0 : Nat} {a1 : Int32} {r : Int32} (hf : f_X2_placesOf h a0 a1 = some r) : CT l yX2_placesOf cX2_placesOf 4 (some .int) 1 21 [.ref (a0), .int (a1)] h (some (.int r)) h := by
  refine CT.of (own := RX2) rfl (by decide) (Nat.le_of_ble_eq_true rfl) ?_
  intro p e R s m args below meth c g X hR C
  subst hR
  unfold f_X2_placesOf at hf
  obtain ⟨hok, hf⟩ := gd_ok hf
  have hj30 : ∀ (x2 : Int32), f_X2_placesOf_J30 h (x2) = some r → G p l e ({ frames := 1, cells := 0, slots := 0, locals := 21 } : Room) s m args below meth c 4 g X h 0 0 (MQ below (QW g X h s.heap.size (some (.int r)) h) args s 0 0 (AF X h s.heap.size)) 30 [(2, .int (x2))] [] h := by
    intro x2 hf
    unfold f_X2_placesOf_J30 at hf
    refine G.iload_n C 0 dX2_placesOf_30 rfl rfl ?_
    cases hf
    exact G.iret C rfl dX2_placesOf_31
  refine G.sub C [0, 1] (lv' := [(0, .ref (a0)), (1, .int (a1))]) rfl ?_
  refine G.iconst (v := 0) C dX2_placesOf_0 (by decide) ?_
  refine G.istore_n (lv' := [(2, .int ((0 : Int32))), (0, .ref (a0)), (1, .int (a1))]) C dX2_placesOf_1 rfl (by decide) rfl ?_
  refine G.iconst (v := 0) C dX2_placesOf_2 (by decide) ?_
  refine G.istore_n (lv' := [(3, .int ((0 : Int32))), (2, .int ((0 : Int32))), (0, .ref (a0)), (1, .int (a1))]) C dX2_placesOf_3 rfl (by decide) rfl ?_
  obtain ⟨z1, hlp1, hfo1⟩ := bind_some hf
  clear hf
  have hloop1 : ∀ (k : Nat), ∀ (x2 : Int32) (x3 : Int32), (lpn (f_X2_placesOf_L4 (h) (a0) (a1)) k (x2, x3)) = some z1 → G p l e ({ frames := 1, cells := 0, slots := 0, locals := 21 } : Room) s m args below meth c 4 g X h 0 0 (MQ below (QW g X h s.heap.size (some (.int r)) h) args s 0 0 (AF X h s.heap.size)) 4 [(0, .ref (a0)), (1, .int (a1)), (2, .int (x2)), (3, .int (x3))] [] h := by
    intro k
    induction k with
    | zero => intro x2 x3 hlp1; exact (lpn_0 hlp1).elim
    | succ k ih1 =>
      intro x2 x3 hlp1
      obtain ⟨y1, hf, hlp1⟩ := lpn_s hlp1
      unfold f_X2_placesOf_L4 at hf
      try dsimp only at hf
      have hj24 : ∀ (x2 : Int32) (x3 : Int32), f_X2_placesOf_J24 h (a0) (a1) (x2) (x3) = some y1 → G p l e ({ frames := 1, cells := 0, slots := 0, locals := 21 } : Room) s m args below meth c 4 g X h 0 0 (MQ below (QW g X h s.heap.size (some (.int r)) h) args s 0 0 (AF X h s.heap.size)) 24 [(0, .ref (a0)), (1, .int (a1)), (2, .int (x2)), (3, .int (x3))] [] h := by
        intro x2 x3 hf
        unfold f_X2_placesOf_J24 at hf
        refine G.iinc (k := 3) (v := (x3 + 1)) (lv' := [(3, .int ((x3 + 1))), (0, .ref (a0)), (1, .int (a1)), (2, .int (x2))]) C dX2_placesOf_24 rfl rfl (by decide) rfl ?_
        refine G.goto (tgt := 4) C dX2_placesOf_27 (by decide) ?_
        cases hf
        refine G.sub C [1, 2, 3, 0] (lv' := [(0, .ref (a0)), (1, .int (a1)), (2, .int (x2)), (3, .int ((x3 + 1)))]) rfl ?_
        exact ih1 _ _ hlp1
      refine G.iload_n C 3 dX2_placesOf_4 rfl rfl ?_
      refine G.aload_n C 0 dX2_placesOf_5 rfl rfl ?_
      refine G.getI (ci := 1) (k := 2) C rfl inlX2 (by decide) m9_45 rfl hf dX2_placesOf_6 (fun v2 hv2 hf => ?_)
      try dsimp only at hf
      refine G.icmp_ge (tgt := 30) C dX2_placesOf_9 (by decide) hf (fun c5 hf => ?_) (fun c5 hf => ?_)
      · cases hf
        change some _ = some _ at hlp1
        have hf := hfo1
        try rw [← Option.some.inj hlp1] at hf
        try dsimp only at hf
        refine G.sub C [2] (lv' := [(2, .int (x2))]) rfl ?_
        exact hj30 _ hf
      · refine G.aload_n C 0 dX2_placesOf_12 rfl rfl ?_
        refine G.iload_n C 3 dX2_placesOf_13 rfl rfl ?_
        obtain ⟨v3, hv3, hf⟩ := bind_some hf
        try dsimp only at hf
        refine G.callV C (st := []) (st2 := [.int (v3)]) (ct_X2_colourAt hv3) (ko_X2_colourAt hv3) rfl m9_104 m9_105 m9_106 m9_24 m9_107 kd_X2_colourAt ⟨Nat.le_of_ble_eq_true rfl, Nat.le_of_ble_eq_true rfl⟩ ⟨Nat.zero_le _, Nat.zero_le _⟩ (Nat.le_of_ble_eq_true rfl) rfl rfl dX2_placesOf_14 ?_
        refine G.iload_n C 1 dX2_placesOf_17 rfl rfl ?_
        refine G.icmp_ne (tgt := 24) C dX2_placesOf_18 (by decide) hf (fun c4 hf => ?_) (fun c4 hf => ?_)
        · refine G.sub C [0, 1, 2, 3] (lv' := [(0, .ref (a0)), (1, .int (a1)), (2, .int (x2)), (3, .int (x3))]) rfl ?_
          exact hj24 _ _ hf
        · refine G.iinc (k := 2) (v := (x2 + 1)) (lv' := [(2, .int ((x2 + 1))), (0, .ref (a0)), (1, .int (a1)), (3, .int (x3))]) C dX2_placesOf_21 rfl rfl (by decide) rfl ?_
          refine G.sub C [1, 2, 0, 3] (lv' := [(0, .ref (a0)), (1, .int (a1)), (2, .int ((x2 + 1))), (3, .int (x3))]) rfl ?_
          exact hj24 _ _ hf
  refine G.sub C [2, 3, 1, 0] (lv' := [(0, .ref (a0)), (1, .int (a1)), (2, .int ((0 : Int32))), (3, .int ((0 : Int32)))]) rfl ?_
  exact hloop1 LF _ _ hlp1
theorem ko_X2_remove {h : PH} {a0 : Nat} {a1 : Int32} {r : (Int32 × PH)} (hf : f_X2_remove h a0 a1 = some r) : kO h a0 1 := by
  unfold f_X2_remove at hf
  exact okO_k (gd_ok hf).1
theorem kd_X2_remove : yX2_remove.cls = RX2 ∧ yX2_remove.cls ≠ "java/lang/invoke/MethodHandle" ∧ yX2_remove.cls ≠ "java/lang/invoke/VarHandle" ∧ (parseMethodDescriptor yX2_remove.desc).map (fun d => d.parameters.length) = some 1 := by decide +kernel
set_option maxRecDepth 20000 in
set_option maxHeartbeats 4000000 in
theorem ct_X2_remove {l : Launch} {h : PH} {a0 : Nat} {a1 : Int32} {r : (Int32 × PH)} (hf : f_X2_remove h a0 a1 = some r) : CT l yX2_remove cX2_remove 5 (some .int) 2 44 [.ref (a0), .int (a1)] h (some (.int r.1)) r.2 := by
  refine CT.of (own := RX2) rfl (by decide) (Nat.le_of_ble_eq_true rfl) ?_
  intro p e R s m args below meth c g X hR C
  subst hR
  unfold f_X2_remove at hf
  obtain ⟨hok, hf⟩ := gd_ok hf
  have hj104 : ∀ (hh : PH) (x3 : Int32), f_X2_remove_J104 hh (x3) = some r → G p l e ({ frames := 2, cells := 0, slots := 0, locals := 44 } : Room) s m args below meth c 5 g X h 0 0 (MQ below (QW g X h s.heap.size (some (.int r.1)) r.2) args s 0 0 (AF X h s.heap.size)) 104 [(3, .int (x3))] [] hh := by
    intro hh x3 hf
    unfold f_X2_remove_J104 at hf
    refine G.iload_n C 0 dX2_remove_104 rfl rfl ?_
    cases hf
    exact G.iret C rfl dX2_remove_105
  have hj53 : ∀ (hh : PH) (x0 : Nat) (x1 : Int32), f_X2_remove_J53 hh (x0) (x1) = some r → G p l e ({ frames := 2, cells := 0, slots := 0, locals := 44 } : Room) s m args below meth c 5 g X h 0 0 (MQ below (QW g X h s.heap.size (some (.int r.1)) r.2) args s 0 0 (AF X h s.heap.size)) 53 [(0, .ref (x0)), (1, .int (x1))] [] hh := by
    intro hh x0 x1 hf
    unfold f_X2_remove_J53 at hf
    refine G.aload_n C 0 dX2_remove_53 rfl rfl ?_
    refine G.dup C dX2_remove_54 rfl ?_
    refine G.getI (ci := 1) (k := 3) C rfl inlX2 (by decide) m9_46 rfl hf dX2_remove_55 (fun v17 hv17 hf => ?_)
    try dsimp only at hf
    refine G.iconst (v := 1) C dX2_remove_58 (by decide) ?_
    refine G.isub C dX2_remove_59 ?_
    refine G.put (ci := 1) (k := 3) C rfl inlX2 (by decide) m9_46 rfl tyX2 tyX2_ok nmX2 rfl rfl rfl hf dX2_remove_60 (fun h18 hh18 hf => ?_)
    try dsimp only at hf
    refine G.aload_n C 0 dX2_remove_63 rfl rfl ?_
    refine G.iload_n C 1 dX2_remove_64 rfl rfl ?_
    obtain ⟨v19, hv19, hf⟩ := bind_some hf
    try dsimp only at hf
    refine G.callV C (st := []) (st2 := [.int (v19)]) (ct_X2_placesOf hv19) (ko_X2_placesOf hv19) rfl m9_205 m9_101 m9_102 m9_24 m9_103 kd_X2_placesOf ⟨Nat.le_of_ble_eq_true rfl, Nat.le_of_ble_eq_true rfl⟩ ⟨Nat.zero_le _, Nat.zero_le _⟩ (Nat.le_of_ble_eq_true rfl) rfl rfl dX2_remove_65 ?_
    refine G.istore_n (lv' := [(3, .int (v19)), (0, .ref (x0)), (1, .int (x1))]) C dX2_remove_68 rfl (by decide) rfl ?_
    refine G.iconst (v := 0) C dX2_remove_69 (by decide) ?_
    refine G.istore (lv' := [(4, .int ((0 : Int32))), (3, .int (v19)), (0, .ref (x0)), (1, .int (x1))]) C dX2_remove_70 (by decide) rfl ?_
    obtain ⟨z20, hlp20, hfo20⟩ := bind_some hf
    clear hf
    have hloop20 : ∀ (k : Nat), ∀ (x4 : Int32) (hh : PH), (lpn (f_X2_remove_L72 (x0) (x1) (v19)) k (x4, hh)) = some z20 → G p l e ({ frames := 2, cells := 0, slots := 0, locals := 44 } : Room) s m args below meth c 5 g X h 0 0 (MQ below (QW g X h s.heap.size (some (.int r.1)) r.2) args s 0 0 (AF X h s.heap.size)) 72 [(0, .ref (x0)), (1, .int (x1)), (3, .int (v19)), (4, .int (x4))] [] hh := by
      intro k
      induction k with
      | zero => intro x4 hh hlp20; exact (lpn_0 hlp20).elim
      | succ k ih20 =>
        intro x4 hh hlp20
        obtain ⟨y20, hf, hlp20⟩ := lpn_s hlp20
        unfold f_X2_remove_L72 at hf
        try dsimp only at hf
        have hj98 : ∀ (hh : PH) (x4 : Int32), f_X2_remove_J98 hh (x0) (x1) (v19) (x4) = some y20 → G p l e ({ frames := 2, cells := 0, slots := 0, locals := 44 } : Room) s m args below meth c 5 g X h 0 0 (MQ below (QW g X h s.heap.size (some (.int r.1)) r.2) args s 0 0 (AF X h s.heap.size)) 98 [(0, .ref (x0)), (1, .int (x1)), (3, .int (v19)), (4, .int (x4))] [] hh := by
          intro hh x4 hf
          unfold f_X2_remove_J98 at hf
          refine G.iinc (k := 3) (v := (x4 + 1)) (lv' := [(4, .int ((x4 + 1))), (0, .ref (x0)), (1, .int (x1)), (3, .int (v19))]) C dX2_remove_98 rfl rfl (by decide) rfl ?_
          refine G.goto (tgt := 72) C dX2_remove_101 (by decide) ?_
          cases hf
          refine G.sub C [1, 2, 3, 0] (lv' := [(0, .ref (x0)), (1, .int (x1)), (3, .int (v19)), (4, .int ((x4 + 1)))]) rfl ?_
          exact ih20 _ _ hlp20
        refine G.iload C 3 dX2_remove_72 rfl ?_
        refine G.aload_n C 0 dX2_remove_74 rfl rfl ?_
        refine G.getI (ci := 1) (k := 2) C rfl inlX2 (by decide) m9_45 rfl hf dX2_remove_75 (fun v21 hv21 hf => ?_)
        try dsimp only at hf
        refine G.icmp_ge (tgt := 104) C dX2_remove_78 (by decide) hf (fun c25 hf => ?_) (fun c25 hf => ?_)
        · cases hf
          change some _ = some _ at hlp20
          have hf := hfo20
          try rw [← Option.some.inj hlp20] at hf
          try dsimp only at hf
          refine G.sub C [2] (lv' := [(3, .int (v19))]) rfl ?_
          exact hj104 _ _ hf
        · refine G.aload_n C 0 dX2_remove_81 rfl rfl ?_
          refine G.iload C 3 dX2_remove_82 rfl ?_
          obtain ⟨v22, hv22, hf⟩ := bind_some hf
          try dsimp only at hf
          refine G.callV C (st := []) (st2 := [.int (v22)]) (ct_X2_colourAt hv22) (ko_X2_colourAt hv22) rfl m9_104 m9_105 m9_106 m9_24 m9_107 kd_X2_colourAt ⟨Nat.le_of_ble_eq_true rfl, Nat.le_of_ble_eq_true rfl⟩ ⟨Nat.zero_le _, Nat.zero_le _⟩ (Nat.le_of_ble_eq_true rfl) rfl rfl dX2_remove_84 ?_
          refine G.iload_n C 1 dX2_remove_87 rfl rfl ?_
          refine G.icmp_ne (tgt := 98) C dX2_remove_88 (by decide) hf (fun c24 hf => ?_) (fun c24 hf => ?_)
          · refine G.sub C [0, 1, 2, 3] (lv' := [(0, .ref (x0)), (1, .int (x1)), (3, .int (v19)), (4, .int (x4))]) rfl ?_
            exact hj98 _ _ hf
          · refine G.aload_n C 0 dX2_remove_91 rfl rfl ?_
            refine G.iload C 3 dX2_remove_92 rfl ?_
            refine G.iconst (v := (-1)) C dX2_remove_94 (by decide) ?_
            obtain ⟨h23, hh23, hf⟩ := bind_some hf
            try dsimp only at hf
            refine G.callV C (st := []) (st2 := []) (ct_X2_setColour hh23) (ko_X2_setColour hh23) rfl m9_303 m9_304 m9_305 m9_24 m9_306 kd_X2_setColour ⟨Nat.le_of_ble_eq_true rfl, Nat.le_of_ble_eq_true rfl⟩ ⟨Nat.zero_le _, Nat.zero_le _⟩ (Nat.le_of_ble_eq_true rfl) rfl rfl dX2_remove_95 ?_
            refine G.sub C [0, 1, 2, 3] (lv' := [(0, .ref (x0)), (1, .int (x1)), (3, .int (v19)), (4, .int (x4))]) rfl ?_
            exact hj98 _ _ hf
    refine G.sub C [2, 3, 1, 0] (lv' := [(0, .ref (x0)), (1, .int (x1)), (3, .int (v19)), (4, .int ((0 : Int32)))]) rfl ?_
    exact hloop20 LF _ _ hlp20
  refine G.sub C [0, 1] (lv' := [(0, .ref (a0)), (1, .int (a1))]) rfl ?_
  refine G.aload_n C 0 dX2_remove_0 rfl rfl ?_
  refine G.iload_n C 1 dX2_remove_1 rfl rfl ?_
  obtain ⟨v1, hv1, hf⟩ := bind_some hf
  try dsimp only at hf
  refine G.callV C (st := []) (st2 := [.int (v1)]) (ct_X2_orderOf hv1) (ko_X2_orderOf hv1) rfl m9_203 m9_117 m9_118 m9_24 m9_119 kd_X2_orderOf ⟨Nat.le_of_ble_eq_true rfl, Nat.le_of_ble_eq_true rfl⟩ ⟨Nat.zero_le _, Nat.zero_le _⟩ (Nat.le_of_ble_eq_true rfl) rfl rfl dX2_remove_2 ?_
  refine G.istore_n (lv' := [(2, .int (v1)), (0, .ref (a0)), (1, .int (a1))]) C dX2_remove_5 rfl (by decide) rfl ?_
  refine G.iload_n C 0 dX2_remove_6 rfl rfl ?_
  refine G.if_ge (tgt := 12) C dX2_remove_7 (by decide) hf (fun c12 hf => ?_) (fun c12 hf => ?_)
  · refine G.iload_n C 0 dX2_remove_12 rfl rfl ?_
    refine G.iconst (v := 1) C dX2_remove_13 (by decide) ?_
    refine G.iadd C dX2_remove_14 ?_
    refine G.istore_n (lv' := [(3, .int ((v1 + (1 : Int32)))), (2, .int (v1)), (0, .ref (a0)), (1, .int (a1))]) C dX2_remove_15 rfl (by decide) rfl ?_
    obtain ⟨z2, hlp2, hfo2⟩ := bind_some hf
    clear hf
    have hloop2 : ∀ (k : Nat), ∀ (x3 : Int32) (hh : PH), (lpn (f_X2_remove_L16 (a0) (a1)) k (x3, hh)) = some z2 → G p l e ({ frames := 2, cells := 0, slots := 0, locals := 44 } : Room) s m args below meth c 5 g X h 0 0 (MQ below (QW g X h s.heap.size (some (.int r.1)) r.2) args s 0 0 (AF X h s.heap.size)) 16 [(0, .ref (a0)), (1, .int (a1)), (3, .int (x3))] [] hh := by
      intro k
      induction k with
      | zero => intro x3 hh hlp2; exact (lpn_0 hlp2).elim
      | succ k ih2 =>
        intro x3 hh hlp2
        obtain ⟨y2, hf, hlp2⟩ := lpn_s hlp2
        unfold f_X2_remove_L16 at hf
        try dsimp only at hf
        refine G.iload_n C 2 dX2_remove_16 rfl rfl ?_
        refine G.aload_n C 0 dX2_remove_17 rfl rfl ?_
        refine G.getI (ci := 1) (k := 3) C rfl inlX2 (by decide) m9_46 rfl hf dX2_remove_18 (fun v3 hv3 hf => ?_)
        try dsimp only at hf
        refine G.icmp_ge (tgt := 53) C dX2_remove_21 (by decide) hf (fun c11 hf => ?_) (fun c11 hf => ?_)
        · cases hf
          change some _ = some _ at hlp2
          have hf := hfo2
          try rw [← Option.some.inj hlp2] at hf
          try dsimp only at hf
          refine G.sub C [0, 1] (lv' := [(0, .ref (a0)), (1, .int (a1))]) rfl ?_
          exact hj53 _ _ _ hf
        · refine G.iload_n C 2 dX2_remove_24 rfl rfl ?_
          refine G.aload_n C 0 dX2_remove_25 rfl rfl ?_
          refine G.getR (ci := 1) (k := 1) C rfl inlX2 (by decide) m9_44 rfl hf dX2_remove_26 (fun v4 hv4 hf => ?_)
          try dsimp only at hf
          refine G.alen C hf dX2_remove_29 (fun v5 hv5 hf => ?_)
          try dsimp only at hf
          refine G.icmp_ge (tgt := 53) C dX2_remove_30 (by decide) hf (fun c10 hf => ?_) (fun c10 hf => ?_)
          · cases hf
            change some _ = some _ at hlp2
            have hf := hfo2
            try rw [← Option.some.inj hlp2] at hf
            try dsimp only at hf
            refine G.sub C [0, 1] (lv' := [(0, .ref (a0)), (1, .int (a1))]) rfl ?_
            exact hj53 _ _ _ hf
          · refine G.aload_n C 0 dX2_remove_33 rfl rfl ?_
            refine G.getR (ci := 1) (k := 1) C rfl inlX2 (by decide) m9_44 rfl hf dX2_remove_34 (fun v6 hv6 hf => ?_)
            try dsimp only at hf
            refine G.iload_n C 2 dX2_remove_37 rfl rfl ?_
            refine G.iconst (v := 1) C dX2_remove_38 (by decide) ?_
            refine G.isub C dX2_remove_39 ?_
            refine G.aload_n C 0 dX2_remove_40 rfl rfl ?_
            refine G.getR (ci := 1) (k := 1) C rfl inlX2 (by decide) m9_44 rfl hf dX2_remove_41 (fun v7 hv7 hf => ?_)
            try dsimp only at hf
            refine G.iload_n C 2 dX2_remove_44 rfl rfl ?_
            refine G.iald C hf dX2_remove_45 (fun v8 hv8 hf => ?_)
            try dsimp only at hf
            refine G.iast C hf dX2_remove_46 (fun h9 hh9 hf => ?_)
            try dsimp only at hf
            refine G.iinc (k := 2) (v := (x3 + 1)) (lv' := [(3, .int ((x3 + 1))), (0, .ref (a0)), (1, .int (a1))]) C dX2_remove_47 rfl rfl (by decide) rfl ?_
            refine G.goto (tgt := 16) C dX2_remove_50 (by decide) ?_
            cases hf
            refine G.sub C [1, 2, 0] (lv' := [(0, .ref (a0)), (1, .int (a1)), (3, .int ((x3 + 1)))]) rfl ?_
            exact ih2 _ _ hlp2
    refine G.sub C [2, 3, 0] (lv' := [(0, .ref (a0)), (1, .int (a1)), (3, .int ((v1 + (1 : Int32))))]) rfl ?_
    exact hloop2 LF _ _ hlp2
  · refine G.iconst (v := 0) C dX2_remove_10 (by decide) ?_
    cases hf
    exact G.iret C rfl dX2_remove_11
theorem ko_X2_length {h : PH} {a0 : Nat} {r : Int32} (hf : f_X2_length h a0 = some r) : kO h a0 1 := by
  unfold f_X2_length at hf
  exact okO_k (gd_ok hf).1
theorem kd_X2_length : yX2_length.cls = RX2 ∧ yX2_length.cls ≠ "java/lang/invoke/MethodHandle" ∧ yX2_length.cls ≠ "java/lang/invoke/VarHandle" ∧ (parseMethodDescriptor yX2_length.desc).map (fun d => d.parameters.length) = some 0 := by decide +kernel
set_option maxRecDepth 20000 in
set_option maxHeartbeats 4000000 in
theorem ct_X2_length {l : Launch} {h : PH} {a0 : Nat} {r : Int32} (hf : f_X2_length h a0 = some r) : CT l yX2_length cX2_length 1 (some .int) 0 0 [.ref (a0)] h (some (.int r)) h := by
  refine CT.of (own := RX2) rfl (by decide) (Nat.le_of_ble_eq_true rfl) ?_
  intro p e R s m args below meth c g X hR C
  subst hR
  unfold f_X2_length at hf
  obtain ⟨hok, hf⟩ := gd_ok hf
  refine G.sub C [0] (lv' := [(0, .ref (a0))]) rfl ?_
  refine G.aload_n C 0 dX2_length_0 rfl rfl ?_
  refine G.getI (ci := 1) (k := 2) C rfl inlX2 (by decide) m9_45 rfl hf dX2_length_1 (fun v1 hv1 hf => ?_)
  try dsimp only at hf
  cases hf
  exact G.iret C rfl dX2_length_4
theorem ko_X2_hueCount {h : PH} {a0 : Nat} {r : Int32} (hf : f_X2_hueCount h a0 = some r) : kO h a0 1 := by
  unfold f_X2_hueCount at hf
  exact okO_k (gd_ok hf).1
theorem kd_X2_hueCount : yX2_hueCount.cls = RX2 ∧ yX2_hueCount.cls ≠ "java/lang/invoke/MethodHandle" ∧ yX2_hueCount.cls ≠ "java/lang/invoke/VarHandle" ∧ (parseMethodDescriptor yX2_hueCount.desc).map (fun d => d.parameters.length) = some 0 := by decide +kernel
set_option maxRecDepth 20000 in
set_option maxHeartbeats 4000000 in
theorem ct_X2_hueCount {l : Launch} {h : PH} {a0 : Nat} {r : Int32} (hf : f_X2_hueCount h a0 = some r) : CT l yX2_hueCount cX2_hueCount 1 (some .int) 0 0 [.ref (a0)] h (some (.int r)) h := by
  refine CT.of (own := RX2) rfl (by decide) (Nat.le_of_ble_eq_true rfl) ?_
  intro p e R s m args below meth c g X hR C
  subst hR
  unfold f_X2_hueCount at hf
  obtain ⟨hok, hf⟩ := gd_ok hf
  refine G.sub C [0] (lv' := [(0, .ref (a0))]) rfl ?_
  refine G.aload_n C 0 dX2_hueCount_0 rfl rfl ?_
  refine G.getI (ci := 1) (k := 3) C rfl inlX2 (by decide) m9_46 rfl hf dX2_hueCount_1 (fun v1 hv1 hf => ?_)
  try dsimp only at hf
  cases hf
  exact G.iret C rfl dX2_hueCount_4
theorem ko_X2_hueAt {h : PH} {a0 : Nat} {a1 : Int32} {r : Int32} (hf : f_X2_hueAt h a0 a1 = some r) : kO h a0 1 := by
  unfold f_X2_hueAt at hf
  exact okO_k (gd_ok hf).1
theorem kd_X2_hueAt : yX2_hueAt.cls = RX2 ∧ yX2_hueAt.cls ≠ "java/lang/invoke/MethodHandle" ∧ yX2_hueAt.cls ≠ "java/lang/invoke/VarHandle" ∧ (parseMethodDescriptor yX2_hueAt.desc).map (fun d => d.parameters.length) = some 1 := by decide +kernel
set_option maxRecDepth 20000 in
set_option maxHeartbeats 4000000 in
theorem ct_X2_hueAt {l : Launch} {h : PH} {a0 : Nat} {a1 : Int32} {r : Int32} (hf : f_X2_hueAt h a0 a1 = some r) : CT l yX2_hueAt cX2_hueAt 2 (some .int) 0 0 [.ref (a0), .int (a1)] h (some (.int r)) h := by
  refine CT.of (own := RX2) rfl (by decide) (Nat.le_of_ble_eq_true rfl) ?_
  intro p e R s m args below meth c g X hR C
  subst hR
  unfold f_X2_hueAt at hf
  obtain ⟨hok, hf⟩ := gd_ok hf
  have hj31 : ∀ (k0 : Int32), f_X2_hueAt_J31 h k0 = some r → G p l e ({ frames := 0, cells := 0, slots := 0, locals := 0 } : Room) s m args below meth c 2 g X h 0 0 (MQ below (QW g X h s.heap.size (some (.int r)) h) args s 0 0 (AF X h s.heap.size)) 31 [] [.int (k0)] h := by
    intro k0 hf
    unfold f_X2_hueAt_J31 at hf
    cases hf
    exact G.iret C rfl dX2_hueAt_31
  have hj30 : f_X2_hueAt_J30 h = some r → G p l e ({ frames := 0, cells := 0, slots := 0, locals := 0 } : Room) s m args below meth c 2 g X h 0 0 (MQ below (QW g X h s.heap.size (some (.int r)) h) args s 0 0 (AF X h s.heap.size)) 30 [] [] h := by
    intro hf
    unfold f_X2_hueAt_J30 at hf
    refine G.iconst (v := (-1)) C dX2_hueAt_30 (by decide) ?_
    refine G.sub C [] (lv' := []) rfl ?_
    exact hj31 _ hf
  refine G.sub C [0, 1] (lv' := [(0, .ref (a0)), (1, .int (a1))]) rfl ?_
  refine G.iload_n C 1 dX2_hueAt_0 rfl rfl ?_
  refine G.if_lt (tgt := 30) C dX2_hueAt_1 (by decide) hf (fun c8 hf => ?_) (fun c8 hf => ?_)
  · refine G.sub C [] (lv' := []) rfl ?_
    exact hj30  hf
  · refine G.iload_n C 1 dX2_hueAt_4 rfl rfl ?_
    refine G.aload_n C 0 dX2_hueAt_5 rfl rfl ?_
    refine G.getI (ci := 1) (k := 3) C rfl inlX2 (by decide) m9_46 rfl hf dX2_hueAt_6 (fun v1 hv1 hf => ?_)
    try dsimp only at hf
    refine G.icmp_ge (tgt := 30) C dX2_hueAt_9 (by decide) hf (fun c7 hf => ?_) (fun c7 hf => ?_)
    · refine G.sub C [] (lv' := []) rfl ?_
      exact hj30  hf
    · refine G.iload_n C 1 dX2_hueAt_12 rfl rfl ?_
      refine G.aload_n C 0 dX2_hueAt_13 rfl rfl ?_
      refine G.getR (ci := 1) (k := 1) C rfl inlX2 (by decide) m9_44 rfl hf dX2_hueAt_14 (fun v2 hv2 hf => ?_)
      try dsimp only at hf
      refine G.alen C hf dX2_hueAt_17 (fun v3 hv3 hf => ?_)
      try dsimp only at hf
      refine G.icmp_ge (tgt := 30) C dX2_hueAt_18 (by decide) hf (fun c6 hf => ?_) (fun c6 hf => ?_)
      · refine G.sub C [] (lv' := []) rfl ?_
        exact hj30  hf
      · refine G.aload_n C 0 dX2_hueAt_21 rfl rfl ?_
        refine G.getR (ci := 1) (k := 1) C rfl inlX2 (by decide) m9_44 rfl hf dX2_hueAt_22 (fun v4 hv4 hf => ?_)
        try dsimp only at hf
        refine G.iload_n C 1 dX2_hueAt_25 rfl rfl ?_
        refine G.iald C hf dX2_hueAt_26 (fun v5 hv5 hf => ?_)
        try dsimp only at hf
        refine G.goto (tgt := 31) C dX2_hueAt_27 (by decide) ?_
        refine G.sub C [] (lv' := []) rfl ?_
        exact hj31 _ hf
theorem ko_X2_firstFrom {h : PH} {a0 : Nat} {a1 : Int32} {a2 : Int32} {r : Int32} (hf : f_X2_firstFrom h a0 a1 a2 = some r) : kO h a0 1 := by
  unfold f_X2_firstFrom at hf
  exact okO_k (gd_ok hf).1
theorem kd_X2_firstFrom : yX2_firstFrom.cls = RX2 ∧ yX2_firstFrom.cls ≠ "java/lang/invoke/MethodHandle" ∧ yX2_firstFrom.cls ≠ "java/lang/invoke/VarHandle" ∧ (parseMethodDescriptor yX2_firstFrom.desc).map (fun d => d.parameters.length) = some 2 := by decide +kernel
set_option maxRecDepth 20000 in
set_option maxHeartbeats 4000000 in
theorem ct_X2_firstFrom {l : Launch} {h : PH} {a0 : Nat} {a1 : Int32} {a2 : Int32} {r : Int32} (hf : f_X2_firstFrom h a0 a1 a2 = some r) : CT l yX2_firstFrom cX2_firstFrom 4 (some .int) 1 21 [.ref (a0), .int (a1), .int (a2)] h (some (.int r)) h := by
  refine CT.of (own := RX2) rfl (by decide) (Nat.le_of_ble_eq_true rfl) ?_
  intro p e R s m args below meth c g X hR C
  subst hR
  unfold f_X2_firstFrom at hf
  obtain ⟨hok, hf⟩ := gd_ok hf
  have hj19 : ∀ (x3 : Int32), f_X2_firstFrom_J19 h (x3) = some r → G p l e ({ frames := 1, cells := 0, slots := 0, locals := 21 } : Room) s m args below meth c 4 g X h 0 0 (MQ below (QW g X h s.heap.size (some (.int r)) h) args s 0 0 (AF X h s.heap.size)) 19 [(3, .int (x3))] [] h := by
    intro x3 hf
    unfold f_X2_firstFrom_J19 at hf
    refine G.iload_n C 0 dX2_firstFrom_19 rfl rfl ?_
    cases hf
    exact G.iret C rfl dX2_firstFrom_20
  have hj27 : f_X2_firstFrom_J27 h = some r → G p l e ({ frames := 1, cells := 0, slots := 0, locals := 21 } : Room) s m args below meth c 4 g X h 0 0 (MQ below (QW g X h s.heap.size (some (.int r)) h) args s 0 0 (AF X h s.heap.size)) 27 [] [] h := by
    intro hf
    unfold f_X2_firstFrom_J27 at hf
    refine G.iconst (v := (-1)) C dX2_firstFrom_27 (by decide) ?_
    cases hf
    exact G.iret C rfl dX2_firstFrom_28
  refine G.sub C [0, 1, 2] (lv' := [(0, .ref (a0)), (1, .int (a1)), (2, .int (a2))]) rfl ?_
  refine G.iload_n C 2 dX2_firstFrom_0 rfl rfl ?_
  refine G.istore_n (lv' := [(3, .int (a2)), (0, .ref (a0)), (1, .int (a1)), (2, .int (a2))]) C dX2_firstFrom_1 rfl (by decide) rfl ?_
  obtain ⟨z1, hlp1, hfo1⟩ := bind_some hf
  clear hf
  have hloop1 : ∀ (k : Nat), ∀ (x3 : Int32), (lpn (f_X2_firstFrom_L2 (h) (a0) (a1)) k (x3)) = some z1 → G p l e ({ frames := 1, cells := 0, slots := 0, locals := 21 } : Room) s m args below meth c 4 g X h 0 0 (MQ below (QW g X h s.heap.size (some (.int r)) h) args s 0 0 (AF X h s.heap.size)) 2 [(0, .ref (a0)), (1, .int (a1)), (3, .int (x3))] [] h := by
    intro k
    induction k with
    | zero => intro x3 hlp1; exact (lpn_0 hlp1).elim
    | succ k ih1 =>
      intro x3 hlp1
      obtain ⟨y1, hf, hlp1⟩ := lpn_s hlp1
      unfold f_X2_firstFrom_L2 at hf
      try dsimp only at hf
      refine G.iload_n C 2 dX2_firstFrom_2 rfl rfl ?_
      refine G.aload_n C 0 dX2_firstFrom_3 rfl rfl ?_
      refine G.getI (ci := 1) (k := 2) C rfl inlX2 (by decide) m9_45 rfl hf dX2_firstFrom_4 (fun v2 hv2 hf => ?_)
      try dsimp only at hf
      refine G.icmp_ge (tgt := 27) C dX2_firstFrom_7 (by decide) hf (fun c5 hf => ?_) (fun c5 hf => ?_)
      · cases hf
        change some _ = some _ at hlp1
        have hf := hfo1
        try rw [← Option.some.inj hlp1] at hf
        try dsimp only at hf
        refine G.sub C [] (lv' := []) rfl ?_
        exact hj27  hf
      · refine G.aload_n C 0 dX2_firstFrom_10 rfl rfl ?_
        refine G.iload_n C 2 dX2_firstFrom_11 rfl rfl ?_
        obtain ⟨v3, hv3, hf⟩ := bind_some hf
        try dsimp only at hf
        refine G.callV C (st := []) (st2 := [.int (v3)]) (ct_X2_colourAt hv3) (ko_X2_colourAt hv3) rfl m9_104 m9_105 m9_106 m9_24 m9_107 kd_X2_colourAt ⟨Nat.le_of_ble_eq_true rfl, Nat.le_of_ble_eq_true rfl⟩ ⟨Nat.zero_le _, Nat.zero_le _⟩ (Nat.le_of_ble_eq_true rfl) rfl rfl dX2_firstFrom_12 ?_
        refine G.iload_n C 1 dX2_firstFrom_15 rfl rfl ?_
        refine G.icmp_ne (tgt := 21) C dX2_firstFrom_16 (by decide) hf (fun c4 hf => ?_) (fun c4 hf => ?_)
        · refine G.iinc (k := 2) (v := (x3 + 1)) (lv' := [(3, .int ((x3 + 1))), (0, .ref (a0)), (1, .int (a1))]) C dX2_firstFrom_21 rfl rfl (by decide) rfl ?_
          refine G.goto (tgt := 2) C dX2_firstFrom_24 (by decide) ?_
          cases hf
          refine G.sub C [1, 2, 0] (lv' := [(0, .ref (a0)), (1, .int (a1)), (3, .int ((x3 + 1)))]) rfl ?_
          exact ih1 _ hlp1
        · cases hf
          change some _ = some _ at hlp1
          have hf := hfo1
          try rw [← Option.some.inj hlp1] at hf
          try dsimp only at hf
          refine G.sub C [2] (lv' := [(3, .int (x3))]) rfl ?_
          exact hj19 _ hf
  refine G.sub C [1, 2, 0] (lv' := [(0, .ref (a0)), (1, .int (a1)), (3, .int (a2))]) rfl ?_
  exact hloop1 LF _ hlp1
theorem kd_X1_remainder : yX1_remainder.cls ≠ "java/lang/invoke/MethodHandle" ∧ yX1_remainder.cls ≠ "java/lang/invoke/VarHandle" ∧ (parseMethodDescriptor yX1_remainder.desc).map (fun d => d.parameters.length) = some 2 := by decide +kernel
set_option maxRecDepth 20000 in
set_option maxHeartbeats 4000000 in
theorem ct_X1_remainder {l : Launch} {h : PH} {a0 : Int32} {a1 : Int32} {r : Int32} (hf : f_X1_remainder h a0 a1 = some r) : CT l yX1_remainder cX1_remainder 2 (some .int) 0 0 [.int (a0), .int (a1)] h (some (.int r)) h := by
  refine CT.of (own := RX1) rfl (by decide) (Nat.le_of_ble_eq_true rfl) ?_
  intro p e R s m args below meth c g X hR C
  subst hR
  unfold f_X1_remainder at hf
  have hj11 : ∀ (k0 : Int32), f_X1_remainder_J11 h k0 = some r → G p l e ({ frames := 0, cells := 0, slots := 0, locals := 0 } : Room) s m args below meth c 2 g X h 0 0 (MQ below (QW g X h s.heap.size (some (.int r)) h) args s 0 0 (AF X h s.heap.size)) 11 [] [.int (k0)] h := by
    intro k0 hf
    unfold f_X1_remainder_J11 at hf
    cases hf
    exact G.iret C rfl dX1_remainder_11
  refine G.sub C [0, 1] (lv' := [(0, .int (a0)), (1, .int (a1))]) rfl ?_
  refine G.iload_n C 1 dX1_remainder_0 rfl rfl ?_
  refine G.if_le (tgt := 10) C dX1_remainder_1 (by decide) hf (fun c2 hf => ?_) (fun c2 hf => ?_)
  · refine G.iconst (v := 0) C dX1_remainder_10 (by decide) ?_
    refine G.sub C [] (lv' := []) rfl ?_
    exact hj11 _ hf
  · refine G.iload_n C 0 dX1_remainder_4 rfl rfl ?_
    refine G.iload_n C 1 dX1_remainder_5 rfl rfl ?_
    obtain ⟨c1, hf⟩ := gd_ok hf
    refine G.irem C dX1_remainder_6 c1 ?_
    refine G.goto (tgt := 11) C dX1_remainder_7 (by decide) ?_
    refine G.sub C [] (lv' := []) rfl ?_
    exact hj11 _ hf
theorem ko_X2_lastOf {h : PH} {a0 : Nat} {a1 : Int32} {r : Int32} (hf : f_X2_lastOf h a0 a1 = some r) : kO h a0 1 := by
  unfold f_X2_lastOf at hf
  exact okO_k (gd_ok hf).1
theorem kd_X2_lastOf : yX2_lastOf.cls = RX2 ∧ yX2_lastOf.cls ≠ "java/lang/invoke/MethodHandle" ∧ yX2_lastOf.cls ≠ "java/lang/invoke/VarHandle" ∧ (parseMethodDescriptor yX2_lastOf.desc).map (fun d => d.parameters.length) = some 1 := by decide +kernel
set_option maxRecDepth 20000 in
set_option maxHeartbeats 4000000 in
theorem ct_X2_lastOf {l : Launch} {h : PH} {a0 : Nat} {a1 : Int32} {r : Int32} (hf : f_X2_lastOf h a0 a1 = some r) : CT l yX2_lastOf cX2_lastOf 3 (some .int) 1 21 [.ref (a0), .int (a1)] h (some (.int r)) h := by
  refine CT.of (own := RX2) rfl (by decide) (Nat.le_of_ble_eq_true rfl) ?_
  intro p e R s m args below meth c g X hR C
  subst hR
  unfold f_X2_lastOf at hf
  obtain ⟨hok, hf⟩ := gd_ok hf
  have hj20 : ∀ (x2 : Int32), f_X2_lastOf_J20 h (x2) = some r → G p l e ({ frames := 1, cells := 0, slots := 0, locals := 21 } : Room) s m args below meth c 3 g X h 0 0 (MQ below (QW g X h s.heap.size (some (.int r)) h) args s 0 0 (AF X h s.heap.size)) 20 [(2, .int (x2))] [] h := by
    intro x2 hf
    unfold f_X2_lastOf_J20 at hf
    refine G.iload_n C 0 dX2_lastOf_20 rfl rfl ?_
    cases hf
    exact G.iret C rfl dX2_lastOf_21
  have hj28 : f_X2_lastOf_J28 h = some r → G p l e ({ frames := 1, cells := 0, slots := 0, locals := 21 } : Room) s m args below meth c 3 g X h 0 0 (MQ below (QW g X h s.heap.size (some (.int r)) h) args s 0 0 (AF X h s.heap.size)) 28 [] [] h := by
    intro hf
    unfold f_X2_lastOf_J28 at hf
    refine G.iconst (v := (-1)) C dX2_lastOf_28 (by decide) ?_
    cases hf
    exact G.iret C rfl dX2_lastOf_29
  refine G.sub C [0, 1] (lv' := [(0, .ref (a0)), (1, .int (a1))]) rfl ?_
  refine G.aload_n C 0 dX2_lastOf_0 rfl rfl ?_
  refine G.getI (ci := 1) (k := 2) C rfl inlX2 (by decide) m9_45 rfl hf dX2_lastOf_1 (fun v1 hv1 hf => ?_)
  try dsimp only at hf
  refine G.iconst (v := 1) C dX2_lastOf_4 (by decide) ?_
  refine G.isub C dX2_lastOf_5 ?_
  refine G.istore_n (lv' := [(2, .int ((v1 - (1 : Int32)))), (0, .ref (a0)), (1, .int (a1))]) C dX2_lastOf_6 rfl (by decide) rfl ?_
  obtain ⟨z2, hlp2, hfo2⟩ := bind_some hf
  clear hf
  have hloop2 : ∀ (k : Nat), ∀ (x2 : Int32), (lpn (f_X2_lastOf_L7 (h) (a0) (a1)) k (x2)) = some z2 → G p l e ({ frames := 1, cells := 0, slots := 0, locals := 21 } : Room) s m args below meth c 3 g X h 0 0 (MQ below (QW g X h s.heap.size (some (.int r)) h) args s 0 0 (AF X h s.heap.size)) 7 [(0, .ref (a0)), (1, .int (a1)), (2, .int (x2))] [] h := by
    intro k
    induction k with
    | zero => intro x2 hlp2; exact (lpn_0 hlp2).elim
    | succ k ih2 =>
      intro x2 hlp2
      obtain ⟨y2, hf, hlp2⟩ := lpn_s hlp2
      unfold f_X2_lastOf_L7 at hf
      try dsimp only at hf
      refine G.iload_n C 2 dX2_lastOf_7 rfl rfl ?_
      refine G.if_lt (tgt := 28) C dX2_lastOf_8 (by decide) hf (fun c5 hf => ?_) (fun c5 hf => ?_)
      · cases hf
        change some _ = some _ at hlp2
        have hf := hfo2
        try rw [← Option.some.inj hlp2] at hf
        try dsimp only at hf
        refine G.sub C [] (lv' := []) rfl ?_
        exact hj28  hf
      · refine G.aload_n C 0 dX2_lastOf_11 rfl rfl ?_
        refine G.iload_n C 2 dX2_lastOf_12 rfl rfl ?_
        obtain ⟨v3, hv3, hf⟩ := bind_some hf
        try dsimp only at hf
        refine G.callV C (st := []) (st2 := [.int (v3)]) (ct_X2_colourAt hv3) (ko_X2_colourAt hv3) rfl m9_104 m9_105 m9_106 m9_24 m9_107 kd_X2_colourAt ⟨Nat.le_of_ble_eq_true rfl, Nat.le_of_ble_eq_true rfl⟩ ⟨Nat.zero_le _, Nat.zero_le _⟩ (Nat.le_of_ble_eq_true rfl) rfl rfl dX2_lastOf_13 ?_
        refine G.iload_n C 1 dX2_lastOf_16 rfl rfl ?_
        refine G.icmp_ne (tgt := 22) C dX2_lastOf_17 (by decide) hf (fun c4 hf => ?_) (fun c4 hf => ?_)
        · refine G.iinc (k := 2) (v := (x2 + (-1))) (lv' := [(2, .int ((x2 + (-1)))), (0, .ref (a0)), (1, .int (a1))]) C dX2_lastOf_22 rfl rfl (by decide) rfl ?_
          refine G.goto (tgt := 7) C dX2_lastOf_25 (by decide) ?_
          cases hf
          refine G.sub C [1, 2, 0] (lv' := [(0, .ref (a0)), (1, .int (a1)), (2, .int ((x2 + (-1))))]) rfl ?_
          exact ih2 _ hlp2
        · cases hf
          change some _ = some _ at hlp2
          have hf := hfo2
          try rw [← Option.some.inj hlp2] at hf
          try dsimp only at hf
          refine G.sub C [2] (lv' := [(2, .int (x2))]) rfl ?_
          exact hj20 _ hf
  refine G.sub C [1, 2, 0] (lv' := [(0, .ref (a0)), (1, .int (a1)), (2, .int ((v1 - (1 : Int32))))]) rfl ?_
  exact hloop2 LF _ hlp2
theorem ko_X2_differences {h : PH} {a0 : Nat} {a1 : Nat} {r : Int32} (hf : f_X2_differences h a0 a1 = some r) : kO h a0 1 := by
  unfold f_X2_differences at hf
  exact okO_k (gd_ok hf).1
theorem kd_X2_differences : yX2_differences.cls = RX2 ∧ yX2_differences.cls ≠ "java/lang/invoke/MethodHandle" ∧ yX2_differences.cls ≠ "java/lang/invoke/VarHandle" ∧ (parseMethodDescriptor yX2_differences.desc).map (fun d => d.parameters.length) = some 1 := by decide +kernel
set_option maxRecDepth 20000 in
set_option maxHeartbeats 4000000 in
theorem ct_X2_differences {l : Launch} {h : PH} {a0 : Nat} {a1 : Nat} {r : Int32} (hf : f_X2_differences h a0 a1 = some r) : CT l yX2_differences cX2_differences 4 (some .int) 1 21 [.ref (a0), .ref (a1)] h (some (.int r)) h := by
  refine CT.of (own := RX2) rfl (by decide) (Nat.le_of_ble_eq_true rfl) ?_
  intro p e R s m args below meth c g X hR C
  subst hR
  unfold f_X2_differences at hf
  obtain ⟨hok, hf⟩ := gd_ok hf
  have hj34 : ∀ (x2 : Int32), f_X2_differences_J34 h (x2) = some r → G p l e ({ frames := 1, cells := 0, slots := 0, locals := 21 } : Room) s m args below meth c 4 g X h 0 0 (MQ below (QW g X h s.heap.size (some (.int r)) h) args s 0 0 (AF X h s.heap.size)) 34 [(2, .int (x2))] [] h := by
    intro x2 hf
    unfold f_X2_differences_J34 at hf
    refine G.iload_n C 0 dX2_differences_34 rfl rfl ?_
    cases hf
    exact G.iret C rfl dX2_differences_35
  refine G.sub C [0, 1] (lv' := [(0, .ref (a0)), (1, .ref (a1))]) rfl ?_
  refine G.iconst (v := 0) C dX2_differences_0 (by decide) ?_
  refine G.istore_n (lv' := [(2, .int ((0 : Int32))), (0, .ref (a0)), (1, .ref (a1))]) C dX2_differences_1 rfl (by decide) rfl ?_
  refine G.iconst (v := 0) C dX2_differences_2 (by decide) ?_
  refine G.istore_n (lv' := [(3, .int ((0 : Int32))), (2, .int ((0 : Int32))), (0, .ref (a0)), (1, .ref (a1))]) C dX2_differences_3 rfl (by decide) rfl ?_
  obtain ⟨z1, hlp1, hfo1⟩ := bind_some hf
  clear hf
  have hloop1 : ∀ (k : Nat), ∀ (x2 : Int32) (x3 : Int32), (lpn (f_X2_differences_L4 (h) (a0) (a1)) k (x2, x3)) = some z1 → G p l e ({ frames := 1, cells := 0, slots := 0, locals := 21 } : Room) s m args below meth c 4 g X h 0 0 (MQ below (QW g X h s.heap.size (some (.int r)) h) args s 0 0 (AF X h s.heap.size)) 4 [(0, .ref (a0)), (1, .ref (a1)), (2, .int (x2)), (3, .int (x3))] [] h := by
    intro k
    induction k with
    | zero => intro x2 x3 hlp1; exact (lpn_0 hlp1).elim
    | succ k ih1 =>
      intro x2 x3 hlp1
      obtain ⟨y1, hf, hlp1⟩ := lpn_s hlp1
      unfold f_X2_differences_L4 at hf
      try dsimp only at hf
      have hj28 : ∀ (x2 : Int32) (x3 : Int32), f_X2_differences_J28 h (a0) (a1) (x2) (x3) = some y1 → G p l e ({ frames := 1, cells := 0, slots := 0, locals := 21 } : Room) s m args below meth c 4 g X h 0 0 (MQ below (QW g X h s.heap.size (some (.int r)) h) args s 0 0 (AF X h s.heap.size)) 28 [(0, .ref (a0)), (1, .ref (a1)), (2, .int (x2)), (3, .int (x3))] [] h := by
        intro x2 x3 hf
        unfold f_X2_differences_J28 at hf
        refine G.iinc (k := 3) (v := (x3 + 1)) (lv' := [(3, .int ((x3 + 1))), (0, .ref (a0)), (1, .ref (a1)), (2, .int (x2))]) C dX2_differences_28 rfl rfl (by decide) rfl ?_
        refine G.goto (tgt := 4) C dX2_differences_31 (by decide) ?_
        cases hf
        refine G.sub C [1, 2, 3, 0] (lv' := [(0, .ref (a0)), (1, .ref (a1)), (2, .int (x2)), (3, .int ((x3 + 1)))]) rfl ?_
        exact ih1 _ _ hlp1
      refine G.iload_n C 3 dX2_differences_4 rfl rfl ?_
      refine G.aload_n C 0 dX2_differences_5 rfl rfl ?_
      refine G.getI (ci := 1) (k := 2) C rfl inlX2 (by decide) m9_45 rfl hf dX2_differences_6 (fun v2 hv2 hf => ?_)
      try dsimp only at hf
      refine G.icmp_ge (tgt := 34) C dX2_differences_9 (by decide) hf (fun c6 hf => ?_) (fun c6 hf => ?_)
      · cases hf
        change some _ = some _ at hlp1
        have hf := hfo1
        try rw [← Option.some.inj hlp1] at hf
        try dsimp only at hf
        refine G.sub C [2] (lv' := [(2, .int (x2))]) rfl ?_
        exact hj34 _ hf
      · refine G.aload_n C 0 dX2_differences_12 rfl rfl ?_
        refine G.iload_n C 3 dX2_differences_13 rfl rfl ?_
        obtain ⟨v3, hv3, hf⟩ := bind_some hf
        try dsimp only at hf
        refine G.callV C (st := []) (st2 := [.int (v3)]) (ct_X2_colourAt hv3) (ko_X2_colourAt hv3) rfl m9_104 m9_105 m9_106 m9_24 m9_107 kd_X2_colourAt ⟨Nat.le_of_ble_eq_true rfl, Nat.le_of_ble_eq_true rfl⟩ ⟨Nat.zero_le _, Nat.zero_le _⟩ (Nat.le_of_ble_eq_true rfl) rfl rfl dX2_differences_14 ?_
        refine G.aload_n C 1 dX2_differences_17 rfl rfl ?_
        refine G.iload_n C 3 dX2_differences_18 rfl rfl ?_
        obtain ⟨v4, hv4, hf⟩ := bind_some hf
        try dsimp only at hf
        refine G.callV C (st := [.int (v3)]) (st2 := [.int (v4), .int (v3)]) (ct_X2_colourAt hv4) (ko_X2_colourAt hv4) rfl m9_104 m9_105 m9_106 m9_24 m9_107 kd_X2_colourAt ⟨Nat.le_of_ble_eq_true rfl, Nat.le_of_ble_eq_true rfl⟩ ⟨Nat.zero_le _, Nat.zero_le _⟩ (Nat.le_of_ble_eq_true rfl) rfl rfl dX2_differences_19 ?_
        refine G.icmp_eq (tgt := 28) C dX2_differences_22 (by decide) hf (fun c5 hf => ?_) (fun c5 hf => ?_)
        · refine G.sub C [0, 1, 2, 3] (lv' := [(0, .ref (a0)), (1, .ref (a1)), (2, .int (x2)), (3, .int (x3))]) rfl ?_
          exact hj28 _ _ hf
        · refine G.iinc (k := 2) (v := (x2 + 1)) (lv' := [(2, .int ((x2 + 1))), (0, .ref (a0)), (1, .ref (a1)), (3, .int (x3))]) C dX2_differences_25 rfl rfl (by decide) rfl ?_
          refine G.sub C [1, 2, 0, 3] (lv' := [(0, .ref (a0)), (1, .ref (a1)), (2, .int ((x2 + 1))), (3, .int (x3))]) rfl ?_
          exact hj28 _ _ hf
  refine G.sub C [2, 3, 1, 0] (lv' := [(0, .ref (a0)), (1, .ref (a1)), (2, .int ((0 : Int32))), (3, .int ((0 : Int32)))]) rfl ?_
  exact hloop1 LF _ _ hlp1
theorem ko_X2_mostHolesSideBySide {h : PH} {a0 : Nat} {r : Int32} (hf : f_X2_mostHolesSideBySide h a0 = some r) : kO h a0 1 := by
  unfold f_X2_mostHolesSideBySide at hf
  exact okO_k (gd_ok hf).1
theorem kd_X2_mostHolesSideBySide : yX2_mostHolesSideBySide.cls = RX2 ∧ yX2_mostHolesSideBySide.cls ≠ "java/lang/invoke/MethodHandle" ∧ yX2_mostHolesSideBySide.cls ≠ "java/lang/invoke/VarHandle" ∧ (parseMethodDescriptor yX2_mostHolesSideBySide.desc).map (fun d => d.parameters.length) = some 0 := by decide +kernel
set_option maxRecDepth 20000 in
set_option maxHeartbeats 4000000 in
theorem ct_X2_mostHolesSideBySide {l : Launch} {h : PH} {a0 : Nat} {r : Int32} (hf : f_X2_mostHolesSideBySide h a0 = some r) : CT l yX2_mostHolesSideBySide cX2_mostHolesSideBySide 4 (some .int) 1 21 [.ref (a0)] h (some (.int r)) h := by
  refine CT.of (own := RX2) rfl (by decide) (Nat.le_of_ble_eq_true rfl) ?_
  intro p e R s m args below meth c g X hR C
  subst hR
  unfold f_X2_mostHolesSideBySide at hf
  obtain ⟨hok, hf⟩ := gd_ok hf
  have hj43 : ∀ (x1 : Int32), f_X2_mostHolesSideBySide_J43 h (x1) = some r → G p l e ({ frames := 1, cells := 0, slots := 0, locals := 21 } : Room) s m args below meth c 4 g X h 0 0 (MQ below (QW g X h s.heap.size (some (.int r)) h) args s 0 0 (AF X h s.heap.size)) 43 [(1, .int (x1))] [] h := by
    intro x1 hf
    unfold f_X2_mostHolesSideBySide_J43 at hf
    refine G.iload_n C 0 dX2_mostHolesSideBySide_43 rfl rfl ?_
    cases hf
    exact G.iret C rfl dX2_mostHolesSideBySide_44
  refine G.sub C [0] (lv' := [(0, .ref (a0))]) rfl ?_
  refine G.iconst (v := 0) C dX2_mostHolesSideBySide_0 (by decide) ?_
  refine G.istore_n (lv' := [(1, .int ((0 : Int32))), (0, .ref (a0))]) C dX2_mostHolesSideBySide_1 rfl (by decide) rfl ?_
  refine G.iconst (v := 0) C dX2_mostHolesSideBySide_2 (by decide) ?_
  refine G.istore_n (lv' := [(2, .int ((0 : Int32))), (1, .int ((0 : Int32))), (0, .ref (a0))]) C dX2_mostHolesSideBySide_3 rfl (by decide) rfl ?_
  refine G.iconst (v := 0) C dX2_mostHolesSideBySide_4 (by decide) ?_
  refine G.istore_n (lv' := [(3, .int ((0 : Int32))), (2, .int ((0 : Int32))), (1, .int ((0 : Int32))), (0, .ref (a0))]) C dX2_mostHolesSideBySide_5 rfl (by decide) rfl ?_
  obtain ⟨z1, hlp1, hfo1⟩ := bind_some hf
  clear hf
  have hloop1 : ∀ (k : Nat), ∀ (x1 : Int32) (x2 : Int32) (x3 : Int32), (lpn (f_X2_mostHolesSideBySide_L6 (h) (a0)) k (x1, x2, x3)) = some z1 → G p l e ({ frames := 1, cells := 0, slots := 0, locals := 21 } : Room) s m args below meth c 4 g X h 0 0 (MQ below (QW g X h s.heap.size (some (.int r)) h) args s 0 0 (AF X h s.heap.size)) 6 [(0, .ref (a0)), (1, .int (x1)), (2, .int (x2)), (3, .int (x3))] [] h := by
    intro k
    induction k with
    | zero => intro x1 x2 x3 hlp1; exact (lpn_0 hlp1).elim
    | succ k ih1 =>
      intro x1 x2 x3 hlp1
      obtain ⟨y1, hf, hlp1⟩ := lpn_s hlp1
      unfold f_X2_mostHolesSideBySide_L6 at hf
      try dsimp only at hf
      have hj30 : ∀ (x1 : Int32) (x3 : Int32) (k0 : Int32), f_X2_mostHolesSideBySide_J30 h (a0) (x1) (x3) k0 = some y1 → G p l e ({ frames := 1, cells := 0, slots := 0, locals := 21 } : Room) s m args below meth c 4 g X h 0 0 (MQ below (QW g X h s.heap.size (some (.int r)) h) args s 0 0 (AF X h s.heap.size)) 30 [(0, .ref (a0)), (1, .int (x1)), (3, .int (x3))] [.int (k0)] h := by
        intro x1 x3 k0 hf
        unfold f_X2_mostHolesSideBySide_J30 at hf
        refine G.istore_n (lv' := [(2, .int (k0)), (0, .ref (a0)), (1, .int (x1)), (3, .int (x3))]) C dX2_mostHolesSideBySide_30 rfl (by decide) rfl ?_
        refine G.iload_n C 2 dX2_mostHolesSideBySide_31 rfl rfl ?_
        refine G.iload_n C 0 dX2_mostHolesSideBySide_32 rfl rfl ?_
        refine G.mmax C m9_168 m9_169 m9_170 m9_171 (Nat.le_of_ble_eq_true rfl) (Nat.le_of_ble_eq_true rfl) ⟨Nat.zero_le _, Nat.zero_le _⟩ dX2_mostHolesSideBySide_33 ?_
        refine G.istore_n (lv' := [(1, .int ((if x1 < k0 then k0 else x1))), (2, .int (k0)), (0, .ref (a0)), (3, .int (x3))]) C dX2_mostHolesSideBySide_36 rfl (by decide) rfl ?_
        refine G.iinc (k := 3) (v := (x3 + 1)) (lv' := [(3, .int ((x3 + 1))), (1, .int ((if x1 < k0 then k0 else x1))), (2, .int (k0)), (0, .ref (a0))]) C dX2_mostHolesSideBySide_37 rfl rfl (by decide) rfl ?_
        refine G.goto (tgt := 6) C dX2_mostHolesSideBySide_40 (by decide) ?_
        cases hf
        refine G.sub C [3, 1, 2, 0] (lv' := [(0, .ref (a0)), (1, .int ((if x1 < k0 then k0 else x1))), (2, .int (k0)), (3, .int ((x3 + 1)))]) rfl ?_
        exact ih1 _ _ _ hlp1
      refine G.iload_n C 3 dX2_mostHolesSideBySide_6 rfl rfl ?_
      refine G.aload_n C 0 dX2_mostHolesSideBySide_7 rfl rfl ?_
      refine G.getI (ci := 1) (k := 2) C rfl inlX2 (by decide) m9_45 rfl hf dX2_mostHolesSideBySide_8 (fun v2 hv2 hf => ?_)
      try dsimp only at hf
      refine G.icmp_ge (tgt := 43) C dX2_mostHolesSideBySide_11 (by decide) hf (fun c5 hf => ?_) (fun c5 hf => ?_)
      · cases hf
        change some _ = some _ at hlp1
        have hf := hfo1
        try rw [← Option.some.inj hlp1] at hf
        try dsimp only at hf
        refine G.sub C [1] (lv' := [(1, .int (x1))]) rfl ?_
        exact hj43 _ hf
      · refine G.aload_n C 0 dX2_mostHolesSideBySide_14 rfl rfl ?_
        refine G.iload_n C 3 dX2_mostHolesSideBySide_15 rfl rfl ?_
        obtain ⟨v3, hv3, hf⟩ := bind_some hf
        try dsimp only at hf
        refine G.callV C (st := []) (st2 := [.int (v3)]) (ct_X2_colourAt hv3) (ko_X2_colourAt hv3) rfl m9_104 m9_105 m9_106 m9_24 m9_107 kd_X2_colourAt ⟨Nat.le_of_ble_eq_true rfl, Nat.le_of_ble_eq_true rfl⟩ ⟨Nat.zero_le _, Nat.zero_le _⟩ (Nat.le_of_ble_eq_true rfl) rfl rfl dX2_mostHolesSideBySide_16 ?_
        refine G.iconst (v := (-1)) C dX2_mostHolesSideBySide_19 (by decide) ?_
        refine G.icmp_ne (tgt := 29) C dX2_mostHolesSideBySide_20 (by decide) hf (fun c4 hf => ?_) (fun c4 hf => ?_)
        · refine G.iconst (v := 0) C dX2_mostHolesSideBySide_29 (by decide) ?_
          refine G.sub C [0, 1, 3] (lv' := [(0, .ref (a0)), (1, .int (x1)), (3, .int (x3))]) rfl ?_
          exact hj30 _ _ _ hf
        · refine G.iload_n C 2 dX2_mostHolesSideBySide_23 rfl rfl ?_
          refine G.iconst (v := 1) C dX2_mostHolesSideBySide_24 (by decide) ?_
          refine G.iadd C dX2_mostHolesSideBySide_25 ?_
          refine G.goto (tgt := 30) C dX2_mostHolesSideBySide_26 (by decide) ?_
          refine G.sub C [0, 1, 3] (lv' := [(0, .ref (a0)), (1, .int (x1)), (3, .int (x3))]) rfl ?_
          exact hj30 _ _ _ hf
  refine G.sub C [3, 2, 1, 0] (lv' := [(0, .ref (a0)), (1, .int ((0 : Int32))), (2, .int ((0 : Int32))), (3, .int ((0 : Int32)))]) rfl ?_
  exact hloop1 LF _ _ _ hlp1
theorem kd_X1_greatestCommonDivisor : yX1_greatestCommonDivisor.cls ≠ "java/lang/invoke/MethodHandle" ∧ yX1_greatestCommonDivisor.cls ≠ "java/lang/invoke/VarHandle" ∧ (parseMethodDescriptor yX1_greatestCommonDivisor.desc).map (fun d => d.parameters.length) = some 2 := by decide +kernel
set_option maxRecDepth 20000 in
set_option maxHeartbeats 4000000 in
theorem ct_X1_greatestCommonDivisor {l : Launch} {h : PH} {a0 : Int32} {a1 : Int32} {r : Int32} (hf : f_X1_greatestCommonDivisor h a0 a1 = some r) : CT l yX1_greatestCommonDivisor cX1_greatestCommonDivisor 6 (some .int) 0 0 [.int (a0), .int (a1)] h (some (.int r)) h := by
  refine CT.of (own := RX1) rfl (by decide) (Nat.le_of_ble_eq_true rfl) ?_
  intro p e R s m args below meth c g X hR C
  subst hR
  unfold f_X1_greatestCommonDivisor at hf
  have hj34 : ∀ (x2 : Int32), f_X1_greatestCommonDivisor_J34 h (x2) = some r → G p l e ({ frames := 0, cells := 0, slots := 0, locals := 0 } : Room) s m args below meth c 6 g X h 0 0 (MQ below (QW g X h s.heap.size (some (.int r)) h) args s 0 0 (AF X h s.heap.size)) 34 [(2, .int (x2))] [] h := by
    intro x2 hf
    unfold f_X1_greatestCommonDivisor_J34 at hf
    refine G.iload_n C 0 dX1_greatestCommonDivisor_34 rfl rfl ?_
    cases hf
    exact G.iret C rfl dX1_greatestCommonDivisor_35
  refine G.sub C [0, 1] (lv' := [(0, .int (a0)), (1, .int (a1))]) rfl ?_
  refine G.iload_n C 0 dX1_greatestCommonDivisor_0 rfl rfl ?_
  refine G.istore_n (lv' := [(2, .int (a0)), (0, .int (a0)), (1, .int (a1))]) C dX1_greatestCommonDivisor_1 rfl (by decide) rfl ?_
  refine G.iload_n C 2 dX1_greatestCommonDivisor_2 rfl rfl ?_
  refine G.istore_n (lv' := [(3, .int (a1)), (2, .int (a0)), (0, .int (a0)), (1, .int (a1))]) C dX1_greatestCommonDivisor_3 rfl (by decide) rfl ?_
  refine G.iconst (v := 0) C dX1_greatestCommonDivisor_4 (by decide) ?_
  refine G.istore (lv' := [(4, .int ((0 : Int32))), (3, .int (a1)), (2, .int (a0)), (0, .int (a0)), (1, .int (a1))]) C dX1_greatestCommonDivisor_5 (by decide) rfl ?_
  obtain ⟨z1, hlp1, hfo1⟩ := bind_some hf
  clear hf
  have hloop1 : ∀ (k : Nat), ∀ (x2 : Int32) (x3 : Int32) (x4 : Int32), (lpn (f_X1_greatestCommonDivisor_L7 (h)) k (x2, x3, x4)) = some z1 → G p l e ({ frames := 0, cells := 0, slots := 0, locals := 0 } : Room) s m args below meth c 6 g X h 0 0 (MQ below (QW g X h s.heap.size (some (.int r)) h) args s 0 0 (AF X h s.heap.size)) 7 [(2, .int (x2)), (3, .int (x3)), (4, .int (x4))] [] h := by
    intro k
    induction k with
    | zero => intro x2 x3 x4 hlp1; exact (lpn_0 hlp1).elim
    | succ k ih1 =>
      intro x2 x3 x4 hlp1
      obtain ⟨y1, hf, hlp1⟩ := lpn_s hlp1
      unfold f_X1_greatestCommonDivisor_L7 at hf
      try dsimp only at hf
      refine G.iload C 2 dX1_greatestCommonDivisor_7 rfl ?_
      refine G.bipush (v := 64) C dX1_greatestCommonDivisor_9 (by decide) ?_
      refine G.icmp_ge (tgt := 34) C dX1_greatestCommonDivisor_11 (by decide) hf (fun c4 hf => ?_) (fun c4 hf => ?_)
      · cases hf
        change some _ = some _ at hlp1
        have hf := hfo1
        try rw [← Option.some.inj hlp1] at hf
        try dsimp only at hf
        refine G.sub C [0] (lv' := [(2, .int (x2))]) rfl ?_
        exact hj34 _ hf
      · refine G.iload_n C 1 dX1_greatestCommonDivisor_14 rfl rfl ?_
        refine G.if_le (tgt := 34) C dX1_greatestCommonDivisor_15 (by decide) hf (fun c3 hf => ?_) (fun c3 hf => ?_)
        · cases hf
          change some _ = some _ at hlp1
          have hf := hfo1
          try rw [← Option.some.inj hlp1] at hf
          try dsimp only at hf
          refine G.sub C [0] (lv' := [(2, .int (x2))]) rfl ?_
          exact hj34 _ hf
        · refine G.iload_n C 0 dX1_greatestCommonDivisor_18 rfl rfl ?_
          refine G.iload_n C 1 dX1_greatestCommonDivisor_19 rfl rfl ?_
          obtain ⟨c2, hf⟩ := gd_ok hf
          refine G.irem C dX1_greatestCommonDivisor_20 c2 ?_
          refine G.istore (lv' := [(5, .int ((x2 - x2 / x3 * x3))), (2, .int (x2)), (3, .int (x3)), (4, .int (x4))]) C dX1_greatestCommonDivisor_21 (by decide) rfl ?_
          refine G.iload_n C 2 dX1_greatestCommonDivisor_23 rfl rfl ?_
          refine G.istore_n (lv' := [(2, .int (x3)), (5, .int ((x2 - x2 / x3 * x3))), (3, .int (x3)), (4, .int (x4))]) C dX1_greatestCommonDivisor_24 rfl (by decide) rfl ?_
          refine G.iload C 1 dX1_greatestCommonDivisor_25 rfl ?_
          refine G.istore_n (lv' := [(3, .int ((x2 - x2 / x3 * x3))), (2, .int (x3)), (5, .int ((x2 - x2 / x3 * x3))), (4, .int (x4))]) C dX1_greatestCommonDivisor_27 rfl (by decide) rfl ?_
          refine G.iinc (k := 3) (v := (x4 + 1)) (lv' := [(4, .int ((x4 + 1))), (3, .int ((x2 - x2 / x3 * x3))), (2, .int (x3)), (5, .int ((x2 - x2 / x3 * x3)))]) C dX1_greatestCommonDivisor_28 rfl rfl (by decide) rfl ?_
          refine G.goto (tgt := 7) C dX1_greatestCommonDivisor_31 (by decide) ?_
          cases hf
          refine G.sub C [2, 1, 0] (lv' := [(2, .int (x3)), (3, .int ((x2 - x2 / x3 * x3))), (4, .int ((x4 + 1)))]) rfl ?_
          exact ih1 _ _ _ hlp1
  refine G.sub C [2, 1, 0] (lv' := [(2, .int (a0)), (3, .int (a1)), (4, .int ((0 : Int32)))]) rfl ?_
  exact hloop1 LF _ _ _ hlp1
theorem kd_X1_leastCommonMultiple : yX1_leastCommonMultiple.cls ≠ "java/lang/invoke/MethodHandle" ∧ yX1_leastCommonMultiple.cls ≠ "java/lang/invoke/VarHandle" ∧ (parseMethodDescriptor yX1_leastCommonMultiple.desc).map (fun d => d.parameters.length) = some 2 := by decide +kernel
set_option maxRecDepth 20000 in
set_option maxHeartbeats 4000000 in
theorem ct_X1_leastCommonMultiple {l : Launch} {h : PH} {a0 : Int32} {a1 : Int32} {r : Int32} (hf : f_X1_leastCommonMultiple h a0 a1 = some r) : CT l yX1_leastCommonMultiple cX1_leastCommonMultiple 3 (some .int) 1 25 [.int (a0), .int (a1)] h (some (.int r)) h := by
  refine CT.of (own := RX1) rfl (by decide) (Nat.le_of_ble_eq_true rfl) ?_
  intro p e R s m args below meth c g X hR C
  subst hR
  unfold f_X1_leastCommonMultiple at hf
  have hj19 : ∀ (k0 : Int32), f_X1_leastCommonMultiple_J19 h k0 = some r → G p l e ({ frames := 1, cells := 0, slots := 0, locals := 25 } : Room) s m args below meth c 3 g X h 0 0 (MQ below (QW g X h s.heap.size (some (.int r)) h) args s 0 0 (AF X h s.heap.size)) 19 [] [.int (k0)] h := by
    intro k0 hf
    unfold f_X1_leastCommonMultiple_J19 at hf
    cases hf
    exact G.iret C rfl dX1_leastCommonMultiple_19
  refine G.sub C [0, 1] (lv' := [(0, .int (a0)), (1, .int (a1))]) rfl ?_
  refine G.iload_n C 0 dX1_leastCommonMultiple_0 rfl rfl ?_
  refine G.iload_n C 1 dX1_leastCommonMultiple_1 rfl rfl ?_
  obtain ⟨v1, hv1, hf⟩ := bind_some hf
  try dsimp only at hf
  refine G.callS C (st := []) (st2 := [.int (v1)]) (ct_X1_greatestCommonDivisor hv1) m9_188 m9_189 m9_186 m9_190 kd_X1_greatestCommonDivisor ⟨Nat.le_of_ble_eq_true rfl, Nat.le_of_ble_eq_true rfl⟩ ⟨Nat.zero_le _, Nat.zero_le _⟩ (Nat.le_of_ble_eq_true rfl) rfl rfl dX1_leastCommonMultiple_2 ?_
  refine G.istore_n (lv' := [(2, .int (v1)), (0, .int (a0)), (1, .int (a1))]) C dX1_leastCommonMultiple_5 rfl (by decide) rfl ?_
  refine G.iload_n C 0 dX1_leastCommonMultiple_6 rfl rfl ?_
  refine G.if_le (tgt := 18) C dX1_leastCommonMultiple_7 (by decide) hf (fun c3 hf => ?_) (fun c3 hf => ?_)
  · refine G.iconst (v := 0) C dX1_leastCommonMultiple_18 (by decide) ?_
    refine G.sub C [] (lv' := []) rfl ?_
    exact hj19 _ hf
  · refine G.iload_n C 1 dX1_leastCommonMultiple_10 rfl rfl ?_
    refine G.iload_n C 0 dX1_leastCommonMultiple_11 rfl rfl ?_
    obtain ⟨c2, hf⟩ := gd_ok hf
    refine G.idiv C dX1_leastCommonMultiple_12 c2 ?_
    refine G.iload_n C 2 dX1_leastCommonMultiple_13 rfl rfl ?_
    refine G.imul C dX1_leastCommonMultiple_14 ?_
    refine G.goto (tgt := 19) C dX1_leastCommonMultiple_15 (by decide) ?_
    refine G.sub C [] (lv' := []) rfl ?_
    exact hj19 _ hf
theorem ko_X2_hueNumber {h : PH} {a0 : Nat} {a1 : Int32} {a2 : Int32} {r : Int32} (hf : f_X2_hueNumber h a0 a1 a2 = some r) : kO h a0 1 := by
  unfold f_X2_hueNumber at hf
  exact okO_k (gd_ok hf).1
theorem kd_X2_hueNumber : yX2_hueNumber.cls = RX2 ∧ yX2_hueNumber.cls ≠ "java/lang/invoke/MethodHandle" ∧ yX2_hueNumber.cls ≠ "java/lang/invoke/VarHandle" ∧ (parseMethodDescriptor yX2_hueNumber.desc).map (fun d => d.parameters.length) = some 2 := by decide +kernel
set_option maxRecDepth 20000 in
set_option maxHeartbeats 4000000 in
theorem ct_X2_hueNumber {l : Launch} {h : PH} {a0 : Nat} {a1 : Int32} {a2 : Int32} {r : Int32} (hf : f_X2_hueNumber h a0 a1 a2 = some r) : CT l yX2_hueNumber cX2_hueNumber 4 (some .int) 2 44 [.ref (a0), .int (a1), .int (a2)] h (some (.int r)) h := by
  refine CT.of (own := RX2) rfl (by decide) (Nat.le_of_ble_eq_true rfl) ?_
  intro p e R s m args below meth c g X hR C
  subst hR
  unfold f_X2_hueNumber at hf
  obtain ⟨hok, hf⟩ := gd_ok hf
  refine G.sub C [0, 1, 2] (lv' := [(0, .ref (a0)), (1, .int (a1)), (2, .int (a2))]) rfl ?_
  refine G.aload_n C 0 dX2_hueNumber_0 rfl rfl ?_
  refine G.iload_n C 1 dX2_hueNumber_1 rfl rfl ?_
  obtain ⟨v1, hv1, hf⟩ := bind_some hf
  try dsimp only at hf
  refine G.callV C (st := []) (st2 := [.int (v1)]) (ct_X2_orderOf hv1) (ko_X2_orderOf hv1) rfl m9_203 m9_117 m9_118 m9_24 m9_119 kd_X2_orderOf ⟨Nat.le_of_ble_eq_true rfl, Nat.le_of_ble_eq_true rfl⟩ ⟨Nat.zero_le _, Nat.zero_le _⟩ (Nat.le_of_ble_eq_true rfl) rfl rfl dX2_hueNumber_2 ?_
  refine G.istore_n (lv' := [(3, .int (v1)), (0, .ref (a0)), (1, .int (a1)), (2, .int (a2))]) C dX2_hueNumber_5 rfl (by decide) rfl ?_
  refine G.iload_n C 0 dX2_hueNumber_6 rfl rfl ?_
  refine G.iconst (v := (-1)) C dX2_hueNumber_7 (by decide) ?_
  refine G.icmp_ne (tgt := 13) C dX2_hueNumber_8 (by decide) hf (fun c8 hf => ?_) (fun c8 hf => ?_)
  · refine G.iload_n C 3 dX2_hueNumber_13 rfl rfl ?_
    by_cases c2 : a2 = 0
    · rw [if_pos c2] at hf
      refine G.tswIn (tgt := 40) (off := 26) C c2 dX2_hueNumber_14 (by decide) (by decide) rfl (by decide) ?_
      refine G.aload_n C 1 dX2_hueNumber_40 rfl rfl ?_
      refine G.iload_n C 2 dX2_hueNumber_41 rfl rfl ?_
      refine G.iconst (v := 0) C dX2_hueNumber_42 (by decide) ?_
      obtain ⟨v3, hv3, hf⟩ := bind_some hf
      try dsimp only at hf
      refine G.callV C (st := []) (st2 := [.int (v3)]) (ct_X2_firstFrom hv3) (ko_X2_firstFrom hv3) rfl m9_204 m9_161 m9_162 m9_24 m9_163 kd_X2_firstFrom ⟨Nat.le_of_ble_eq_true rfl, Nat.le_of_ble_eq_true rfl⟩ ⟨Nat.zero_le _, Nat.zero_le _⟩ (Nat.le_of_ble_eq_true rfl) rfl rfl dX2_hueNumber_43 ?_
      cases hf
      exact G.iret C rfl dX2_hueNumber_46
    · rw [if_neg c2] at hf
      by_cases c4 : a2 = 1
      · rw [if_pos c4] at hf
        refine G.tswIn (tgt := 47) (off := 33) C c4 dX2_hueNumber_14 (by decide) (by decide) rfl (by decide) ?_
        refine G.aload_n C 1 dX2_hueNumber_47 rfl rfl ?_
        refine G.iload_n C 2 dX2_hueNumber_48 rfl rfl ?_
        obtain ⟨v5, hv5, hf⟩ := bind_some hf
        try dsimp only at hf
        refine G.callV C (st := []) (st2 := [.int (v5)]) (ct_X2_placesOf hv5) (ko_X2_placesOf hv5) rfl m9_205 m9_101 m9_102 m9_24 m9_103 kd_X2_placesOf ⟨Nat.le_of_ble_eq_true rfl, Nat.le_of_ble_eq_true rfl⟩ ⟨Nat.zero_le _, Nat.zero_le _⟩ (Nat.le_of_ble_eq_true rfl) rfl rfl dX2_hueNumber_49 ?_
        cases hf
        exact G.iret C rfl dX2_hueNumber_52
      · rw [if_neg c4] at hf
        by_cases c6 : a2 = 2
        · rw [if_pos c6] at hf
          refine G.tswIn (tgt := 53) (off := 39) C c6 dX2_hueNumber_14 (by decide) (by decide) rfl (by decide) ?_
          refine G.aload_n C 1 dX2_hueNumber_53 rfl rfl ?_
          refine G.iload_n C 2 dX2_hueNumber_54 rfl rfl ?_
          obtain ⟨v7, hv7, hf⟩ := bind_some hf
          try dsimp only at hf
          refine G.callV C (st := []) (st2 := [.int (v7)]) (ct_X2_lastOf hv7) (ko_X2_lastOf hv7) rfl m9_206 m9_207 m9_208 m9_24 m9_209 kd_X2_lastOf ⟨Nat.le_of_ble_eq_true rfl, Nat.le_of_ble_eq_true rfl⟩ ⟨Nat.zero_le _, Nat.zero_le _⟩ (Nat.le_of_ble_eq_true rfl) rfl rfl dX2_hueNumber_55 ?_
          cases hf
          exact G.iret C rfl dX2_hueNumber_58
        · rw [if_neg c6] at hf
          refine G.tswOut (tgt := 59) C dX2_hueNumber_14 (by have q0 := lv_neT (a := 0) c2 (by decide); have q1 := lv_neT (a := 1) c4 (by decide); have q2 := lv_neT (a := 2) c6 (by decide); omega) (by decide) ?_
          refine G.iload_n C 0 dX2_hueNumber_59 rfl rfl ?_
          cases hf
          exact G.iret C rfl dX2_hueNumber_60
  · refine G.iconst (v := (-1)) C dX2_hueNumber_11 (by decide) ?_
    cases hf
    exact G.iret C rfl dX2_hueNumber_12
theorem kd_X1_meetByRemainders : yX1_meetByRemainders.cls ≠ "java/lang/invoke/MethodHandle" ∧ yX1_meetByRemainders.cls ≠ "java/lang/invoke/VarHandle" ∧ (parseMethodDescriptor yX1_meetByRemainders.desc).map (fun d => d.parameters.length) = some 4 := by decide +kernel
set_option maxRecDepth 20000 in
set_option maxHeartbeats 4000000 in
theorem ct_X1_meetByRemainders {l : Launch} {h : PH} {a0 : Int32} {a1 : Int32} {a2 : Int32} {a3 : Int32} {r : Int32} (hf : f_X1_meetByRemainders h a0 a1 a2 a3 = some r) : CT l yX1_meetByRemainders cX1_meetByRemainders 7 (some .int) 1 25 [.int (a0), .int (a1), .int (a2), .int (a3)] h (some (.int r)) h := by
  refine CT.of (own := RX1) rfl (by decide) (Nat.le_of_ble_eq_true rfl) ?_
  intro p e R s m args below meth c g X hR C
  subst hR
  unfold f_X1_meetByRemainders at hf
  have hj48 : ∀ (x5 : Int32), f_X1_meetByRemainders_J48 h (x5) = some r → G p l e ({ frames := 1, cells := 0, slots := 0, locals := 25 } : Room) s m args below meth c 7 g X h 0 0 (MQ below (QW g X h s.heap.size (some (.int r)) h) args s 0 0 (AF X h s.heap.size)) 48 [(5, .int (x5))] [] h := by
    intro x5 hf
    unfold f_X1_meetByRemainders_J48 at hf
    refine G.iload C 0 dX1_meetByRemainders_48 rfl ?_
    cases hf
    exact G.iret C rfl dX1_meetByRemainders_50
  have hj63 : f_X1_meetByRemainders_J63 h = some r → G p l e ({ frames := 1, cells := 0, slots := 0, locals := 25 } : Room) s m args below meth c 7 g X h 0 0 (MQ below (QW g X h s.heap.size (some (.int r)) h) args s 0 0 (AF X h s.heap.size)) 63 [] [] h := by
    intro hf
    unfold f_X1_meetByRemainders_J63 at hf
    refine G.iconst (v := (-1)) C dX1_meetByRemainders_63 (by decide) ?_
    cases hf
    exact G.iret C rfl dX1_meetByRemainders_64
  refine G.sub C [0, 1, 2, 3] (lv' := [(0, .int (a0)), (1, .int (a1)), (2, .int (a2)), (3, .int (a3))]) rfl ?_
  refine G.iload_n C 0 dX1_meetByRemainders_0 rfl rfl ?_
  refine G.iload_n C 2 dX1_meetByRemainders_1 rfl rfl ?_
  obtain ⟨v1, hv1, hf⟩ := bind_some hf
  try dsimp only at hf
  refine G.callS C (st := []) (st2 := [.int (v1)]) (ct_X1_greatestCommonDivisor hv1) m9_188 m9_189 m9_186 m9_190 kd_X1_greatestCommonDivisor ⟨Nat.le_of_ble_eq_true rfl, Nat.le_of_ble_eq_true rfl⟩ ⟨Nat.zero_le _, Nat.zero_le _⟩ (Nat.le_of_ble_eq_true rfl) rfl rfl dX1_meetByRemainders_2 ?_
  refine G.istore (lv' := [(4, .int (v1)), (0, .int (a0)), (1, .int (a1)), (2, .int (a2)), (3, .int (a3))]) C dX1_meetByRemainders_5 (by decide) rfl ?_
  refine G.iload_n C 2 dX1_meetByRemainders_7 rfl rfl ?_
  refine G.iload_n C 4 dX1_meetByRemainders_8 rfl rfl ?_
  refine G.isub C dX1_meetByRemainders_9 ?_
  refine G.iload C 0 dX1_meetByRemainders_10 rfl ?_
  obtain ⟨v2, hv2, hf⟩ := bind_some hf
  try dsimp only at hf
  refine G.callS C (st := []) (st2 := [.int (v2)]) (ct_X1_remainder hv2) m9_472 m9_272 m9_186 m9_273 kd_X1_remainder ⟨Nat.le_of_ble_eq_true rfl, Nat.le_of_ble_eq_true rfl⟩ ⟨Nat.zero_le _, Nat.zero_le _⟩ (Nat.le_of_ble_eq_true rfl) rfl rfl dX1_meetByRemainders_12 ?_
  refine G.if_eq (tgt := 20) C dX1_meetByRemainders_15 (by decide) hf (fun c8 hf => ?_) (fun c8 hf => ?_)
  · refine G.iload_n C 2 dX1_meetByRemainders_20 rfl rfl ?_
    refine G.istore (lv' := [(5, .int (a1)), (4, .int (v1)), (0, .int (a0)), (1, .int (a1)), (2, .int (a2)), (3, .int (a3))]) C dX1_meetByRemainders_21 (by decide) rfl ?_
    refine G.iconst (v := 0) C dX1_meetByRemainders_23 (by decide) ?_
    refine G.istore (lv' := [(6, .int ((0 : Int32))), (5, .int (a1)), (4, .int (v1)), (0, .int (a0)), (1, .int (a1)), (2, .int (a2)), (3, .int (a3))]) C dX1_meetByRemainders_24 (by decide) rfl ?_
    obtain ⟨z3, hlp3, hfo3⟩ := bind_some hf
    clear hf
    have hloop3 : ∀ (k : Nat), ∀ (x5 : Int32) (x6 : Int32), (lpn (f_X1_meetByRemainders_L26 (h) (a0) (a2) (a3)) k (x5, x6)) = some z3 → G p l e ({ frames := 1, cells := 0, slots := 0, locals := 25 } : Room) s m args below meth c 7 g X h 0 0 (MQ below (QW g X h s.heap.size (some (.int r)) h) args s 0 0 (AF X h s.heap.size)) 26 [(0, .int (a0)), (2, .int (a2)), (3, .int (a3)), (5, .int (x5)), (6, .int (x6))] [] h := by
      intro k
      induction k with
      | zero => intro x5 x6 hlp3; exact (lpn_0 hlp3).elim
      | succ k ih3 =>
        intro x5 x6 hlp3
        obtain ⟨y3, hf, hlp3⟩ := lpn_s hlp3
        unfold f_X1_meetByRemainders_L26 at hf
        try dsimp only at hf
        have hj51 : ∀ (x5 : Int32) (x6 : Int32), f_X1_meetByRemainders_J51 h (a0) (a2) (a3) (x5) (x6) = some y3 → G p l e ({ frames := 1, cells := 0, slots := 0, locals := 25 } : Room) s m args below meth c 7 g X h 0 0 (MQ below (QW g X h s.heap.size (some (.int r)) h) args s 0 0 (AF X h s.heap.size)) 51 [(0, .int (a0)), (2, .int (a2)), (3, .int (a3)), (5, .int (x5)), (6, .int (x6))] [] h := by
          intro x5 x6 hf
          unfold f_X1_meetByRemainders_J51 at hf
          refine G.iload C 3 dX1_meetByRemainders_51 rfl ?_
          refine G.iload_n C 0 dX1_meetByRemainders_53 rfl rfl ?_
          refine G.iadd C dX1_meetByRemainders_54 ?_
          refine G.istore (lv' := [(5, .int ((x5 + a0))), (0, .int (a0)), (2, .int (a2)), (3, .int (a3)), (6, .int (x6))]) C dX1_meetByRemainders_55 (by decide) rfl ?_
          refine G.iinc (k := 4) (v := (x6 + 1)) (lv' := [(6, .int ((x6 + 1))), (5, .int ((x5 + a0))), (0, .int (a0)), (2, .int (a2)), (3, .int (a3))]) C dX1_meetByRemainders_57 rfl rfl (by decide) rfl ?_
          refine G.goto (tgt := 26) C dX1_meetByRemainders_60 (by decide) ?_
          cases hf
          refine G.sub C [2, 3, 4, 1, 0] (lv' := [(0, .int (a0)), (2, .int (a2)), (3, .int (a3)), (5, .int ((x5 + a0))), (6, .int ((x6 + 1)))]) rfl ?_
          exact ih3 _ _ hlp3
        refine G.iload C 4 dX1_meetByRemainders_26 rfl ?_
        refine G.iload_n C 1 dX1_meetByRemainders_28 rfl rfl ?_
        refine G.icmp_ge (tgt := 63) C dX1_meetByRemainders_29 (by decide) hf (fun c7 hf => ?_) (fun c7 hf => ?_)
        · cases hf
          change some _ = some _ at hlp3
          have hf := hfo3
          try rw [← Option.some.inj hlp3] at hf
          try dsimp only at hf
          refine G.sub C [] (lv' := []) rfl ?_
          exact hj63  hf
        · refine G.iload C 3 dX1_meetByRemainders_32 rfl ?_
          refine G.iload_n C 2 dX1_meetByRemainders_34 rfl rfl ?_
          refine G.icmp_lt (tgt := 51) C dX1_meetByRemainders_35 (by decide) hf (fun c6 hf => ?_) (fun c6 hf => ?_)
          · refine G.sub C [0, 1, 2, 3, 4] (lv' := [(0, .int (a0)), (2, .int (a2)), (3, .int (a3)), (5, .int (x5)), (6, .int (x6))]) rfl ?_
            exact hj51 _ _ hf
          · refine G.iload C 3 dX1_meetByRemainders_38 rfl ?_
            refine G.iload_n C 1 dX1_meetByRemainders_40 rfl rfl ?_
            obtain ⟨v4, hv4, hf⟩ := bind_some hf
            try dsimp only at hf
            refine G.callS C (st := []) (st2 := [.int (v4)]) (ct_X1_remainder hv4) m9_472 m9_272 m9_186 m9_273 kd_X1_remainder ⟨Nat.le_of_ble_eq_true rfl, Nat.le_of_ble_eq_true rfl⟩ ⟨Nat.zero_le _, Nat.zero_le _⟩ (Nat.le_of_ble_eq_true rfl) rfl rfl dX1_meetByRemainders_41 ?_
            refine G.iload_n C 2 dX1_meetByRemainders_44 rfl rfl ?_
            refine G.icmp_ne (tgt := 51) C dX1_meetByRemainders_45 (by decide) hf (fun c5 hf => ?_) (fun c5 hf => ?_)
            · refine G.sub C [0, 1, 2, 3, 4] (lv' := [(0, .int (a0)), (2, .int (a2)), (3, .int (a3)), (5, .int (x5)), (6, .int (x6))]) rfl ?_
              exact hj51 _ _ hf
            · cases hf
              change some _ = some _ at hlp3
              have hf := hfo3
              try rw [← Option.some.inj hlp3] at hf
              try dsimp only at hf
              refine G.sub C [3] (lv' := [(5, .int (x5))]) rfl ?_
              exact hj48 _ hf
    refine G.sub C [3, 5, 6, 1, 0] (lv' := [(0, .int (a0)), (2, .int (a2)), (3, .int (a3)), (5, .int (a1)), (6, .int ((0 : Int32)))]) rfl ?_
    exact hloop3 LF _ _ hlp3
  · refine G.iconst (v := (-1)) C dX1_meetByRemainders_18 (by decide) ?_
    cases hf
    exact G.iret C rfl dX1_meetByRemainders_19
theorem kd_X1_meetByWalking : yX1_meetByWalking.cls ≠ "java/lang/invoke/MethodHandle" ∧ yX1_meetByWalking.cls ≠ "java/lang/invoke/VarHandle" ∧ (parseMethodDescriptor yX1_meetByWalking.desc).map (fun d => d.parameters.length) = some 4 := by decide +kernel
set_option maxRecDepth 20000 in
set_option maxHeartbeats 4000000 in
theorem ct_X1_meetByWalking {l : Launch} {h : PH} {a0 : Int32} {a1 : Int32} {a2 : Int32} {a3 : Int32} {r : Int32} (hf : f_X1_meetByWalking h a0 a1 a2 a3 = some r) : CT l yX1_meetByWalking cX1_meetByWalking 7 (some .int) 0 0 [.int (a0), .int (a1), .int (a2), .int (a3)] h (some (.int r)) h := by
  refine CT.of (own := RX1) rfl (by decide) (Nat.le_of_ble_eq_true rfl) ?_
  intro p e R s m args below meth c g X hR C
  subst hR
  unfold f_X1_meetByWalking at hf
  have hj40 : ∀ (x4 : Int32), f_X1_meetByWalking_J40 h (x4) = some r → G p l e ({ frames := 0, cells := 0, slots := 0, locals := 0 } : Room) s m args below meth c 7 g X h 0 0 (MQ below (QW g X h s.heap.size (some (.int r)) h) args s 0 0 (AF X h s.heap.size)) 40 [(4, .int (x4))] [] h := by
    intro x4 hf
    unfold f_X1_meetByWalking_J40 at hf
    refine G.iload C 0 dX1_meetByWalking_40 rfl ?_
    cases hf
    exact G.iret C rfl dX1_meetByWalking_42
  have hj71 : f_X1_meetByWalking_J71 h = some r → G p l e ({ frames := 0, cells := 0, slots := 0, locals := 0 } : Room) s m args below meth c 7 g X h 0 0 (MQ below (QW g X h s.heap.size (some (.int r)) h) args s 0 0 (AF X h s.heap.size)) 71 [] [] h := by
    intro hf
    unfold f_X1_meetByWalking_J71 at hf
    refine G.iconst (v := (-1)) C dX1_meetByWalking_71 (by decide) ?_
    cases hf
    exact G.iret C rfl dX1_meetByWalking_72
  refine G.sub C [0, 1, 2, 3] (lv' := [(0, .int (a0)), (1, .int (a1)), (2, .int (a2)), (3, .int (a3))]) rfl ?_
  refine G.iload_n C 1 dX1_meetByWalking_0 rfl rfl ?_
  refine G.istore (lv' := [(4, .int (a1)), (0, .int (a0)), (1, .int (a1)), (2, .int (a2)), (3, .int (a3))]) C dX1_meetByWalking_1 (by decide) rfl ?_
  refine G.iload_n C 4 dX1_meetByWalking_3 rfl rfl ?_
  refine G.istore (lv' := [(5, .int (a3)), (4, .int (a1)), (0, .int (a0)), (1, .int (a1)), (2, .int (a2)), (3, .int (a3))]) C dX1_meetByWalking_4 (by decide) rfl ?_
  refine G.iconst (v := 0) C dX1_meetByWalking_6 (by decide) ?_
  refine G.istore (lv' := [(6, .int ((0 : Int32))), (5, .int (a3)), (4, .int (a1)), (0, .int (a0)), (1, .int (a1)), (2, .int (a2)), (3, .int (a3))]) C dX1_meetByWalking_7 (by decide) rfl ?_
  obtain ⟨z1, hlp1, hfo1⟩ := bind_some hf
  clear hf
  have hloop1 : ∀ (k : Nat), ∀ (x4 : Int32) (x5 : Int32) (x6 : Int32), (lpn (f_X1_meetByWalking_L9 (h) (a0) (a2)) k (x4, x5, x6)) = some z1 → G p l e ({ frames := 0, cells := 0, slots := 0, locals := 0 } : Room) s m args below meth c 7 g X h 0 0 (MQ below (QW g X h s.heap.size (some (.int r)) h) args s 0 0 (AF X h s.heap.size)) 9 [(0, .int (a0)), (2, .int (a2)), (4, .int (x4)), (5, .int (x5)), (6, .int (x6))] [] h := by
    intro k
    induction k with
    | zero => intro x4 x5 x6 hlp1; exact (lpn_0 hlp1).elim
    | succ k ih1 =>
      intro x4 x5 x6 hlp1
      obtain ⟨y1, hf, hlp1⟩ := lpn_s hlp1
      unfold f_X1_meetByWalking_L9 at hf
      try dsimp only at hf
      have hj65 : ∀ (x4 : Int32) (x5 : Int32) (x6 : Int32), f_X1_meetByWalking_J65 h (a0) (a2) (x4) (x5) (x6) = some y1 → G p l e ({ frames := 0, cells := 0, slots := 0, locals := 0 } : Room) s m args below meth c 7 g X h 0 0 (MQ below (QW g X h s.heap.size (some (.int r)) h) args s 0 0 (AF X h s.heap.size)) 65 [(0, .int (a0)), (2, .int (a2)), (4, .int (x4)), (5, .int (x5)), (6, .int (x6))] [] h := by
        intro x4 x5 x6 hf
        unfold f_X1_meetByWalking_J65 at hf
        refine G.iinc (k := 4) (v := (x6 + 1)) (lv' := [(6, .int ((x6 + 1))), (0, .int (a0)), (2, .int (a2)), (4, .int (x4)), (5, .int (x5))]) C dX1_meetByWalking_65 rfl rfl (by decide) rfl ?_
        refine G.goto (tgt := 9) C dX1_meetByWalking_68 (by decide) ?_
        cases hf
        refine G.sub C [1, 2, 3, 4, 0] (lv' := [(0, .int (a0)), (2, .int (a2)), (4, .int (x4)), (5, .int (x5)), (6, .int ((x6 + 1)))]) rfl ?_
        exact ih1 _ _ _ hlp1
      refine G.iload C 4 dX1_meetByWalking_9 rfl ?_
      refine G.sipush (v := 800) C dX1_meetByWalking_11 (by decide) ?_
      refine G.icmp_ge (tgt := 71) C dX1_meetByWalking_14 (by decide) hf (fun c6 hf => ?_) (fun c6 hf => ?_)
      · cases hf
        change some _ = some _ at hlp1
        have hf := hfo1
        try rw [← Option.some.inj hlp1] at hf
        try dsimp only at hf
        refine G.sub C [] (lv' := []) rfl ?_
        exact hj71  hf
      · refine G.iload C 2 dX1_meetByWalking_17 rfl ?_
        refine G.sipush (v := 800) C dX1_meetByWalking_19 (by decide) ?_
        refine G.icmp_ge (tgt := 71) C dX1_meetByWalking_22 (by decide) hf (fun c5 hf => ?_) (fun c5 hf => ?_)
        · cases hf
          change some _ = some _ at hlp1
          have hf := hfo1
          try rw [← Option.some.inj hlp1] at hf
          try dsimp only at hf
          refine G.sub C [] (lv' := []) rfl ?_
          exact hj71  hf
        · refine G.iload C 3 dX1_meetByWalking_25 rfl ?_
          refine G.sipush (v := 800) C dX1_meetByWalking_27 (by decide) ?_
          refine G.icmp_ge (tgt := 71) C dX1_meetByWalking_30 (by decide) hf (fun c4 hf => ?_) (fun c4 hf => ?_)
          · cases hf
            change some _ = some _ at hlp1
            have hf := hfo1
            try rw [← Option.some.inj hlp1] at hf
            try dsimp only at hf
            refine G.sub C [] (lv' := []) rfl ?_
            exact hj71  hf
          · refine G.iload C 2 dX1_meetByWalking_33 rfl ?_
            refine G.iload C 3 dX1_meetByWalking_35 rfl ?_
            refine G.icmp_ne (tgt := 43) C dX1_meetByWalking_37 (by decide) hf (fun c3 hf => ?_) (fun c3 hf => ?_)
            · refine G.iload C 2 dX1_meetByWalking_43 rfl ?_
              refine G.iload C 3 dX1_meetByWalking_45 rfl ?_
              refine G.icmp_ge (tgt := 59) C dX1_meetByWalking_47 (by decide) hf (fun c2 hf => ?_) (fun c2 hf => ?_)
              · refine G.iload C 3 dX1_meetByWalking_59 rfl ?_
                refine G.iload_n C 1 dX1_meetByWalking_61 rfl rfl ?_
                refine G.iadd C dX1_meetByWalking_62 ?_
                refine G.istore (lv' := [(5, .int ((x5 + a2))), (0, .int (a0)), (2, .int (a2)), (4, .int (x4)), (6, .int (x6))]) C dX1_meetByWalking_63 (by decide) rfl ?_
                refine G.sub C [1, 2, 3, 0, 4] (lv' := [(0, .int (a0)), (2, .int (a2)), (4, .int (x4)), (5, .int ((x5 + a2))), (6, .int (x6))]) rfl ?_
                exact hj65 _ _ _ hf
              · refine G.iload C 2 dX1_meetByWalking_50 rfl ?_
                refine G.iload_n C 0 dX1_meetByWalking_52 rfl rfl ?_
                refine G.iadd C dX1_meetByWalking_53 ?_
                refine G.istore (lv' := [(4, .int ((x4 + a0))), (0, .int (a0)), (2, .int (a2)), (5, .int (x5)), (6, .int (x6))]) C dX1_meetByWalking_54 (by decide) rfl ?_
                refine G.goto (tgt := 65) C dX1_meetByWalking_56 (by decide) ?_
                refine G.sub C [1, 2, 0, 3, 4] (lv' := [(0, .int (a0)), (2, .int (a2)), (4, .int ((x4 + a0))), (5, .int (x5)), (6, .int (x6))]) rfl ?_
                exact hj65 _ _ _ hf
            · cases hf
              change some _ = some _ at hlp1
              have hf := hfo1
              try rw [← Option.some.inj hlp1] at hf
              try dsimp only at hf
              refine G.sub C [2] (lv' := [(4, .int (x4))]) rfl ?_
              exact hj40 _ hf
  refine G.sub C [3, 5, 2, 1, 0] (lv' := [(0, .int (a0)), (2, .int (a2)), (4, .int (a1)), (5, .int (a3)), (6, .int ((0 : Int32)))]) rfl ?_
  exact hloop1 LF _ _ _ hlp1
theorem ko_X2_fittingPhases {h : PH} {a0 : Nat} {a1 : Int32} {a2 : Int32} {r : Int32} (hf : f_X2_fittingPhases h a0 a1 a2 = some r) : kO h a0 1 := by
  unfold f_X2_fittingPhases at hf
  exact okO_k (gd_ok hf).1
theorem kd_X2_fittingPhases : yX2_fittingPhases.cls = RX2 ∧ yX2_fittingPhases.cls ≠ "java/lang/invoke/MethodHandle" ∧ yX2_fittingPhases.cls ≠ "java/lang/invoke/VarHandle" ∧ (parseMethodDescriptor yX2_fittingPhases.desc).map (fun d => d.parameters.length) = some 2 := by decide +kernel
set_option maxRecDepth 20000 in
set_option maxHeartbeats 4000000 in
theorem ct_X2_fittingPhases {l : Launch} {h : PH} {a0 : Nat} {a1 : Int32} {a2 : Int32} {r : Int32} (hf : f_X2_fittingPhases h a0 a1 a2 = some r) : CT l yX2_fittingPhases cX2_fittingPhases 5 (some .int) 2 47 [.ref (a0), .int (a1), .int (a2)] h (some (.int r)) h := by
  refine CT.of (own := RX2) rfl (by decide) (Nat.le_of_ble_eq_true rfl) ?_
  intro p e R s m args below meth c g X hR C
  subst hR
  unfold f_X2_fittingPhases at hf
  obtain ⟨hok, hf⟩ := gd_ok hf
  have hj31 : ∀ (x3 : Int32), f_X2_fittingPhases_J31 h (x3) = some r → G p l e ({ frames := 2, cells := 0, slots := 0, locals := 47 } : Room) s m args below meth c 5 g X h 0 0 (MQ below (QW g X h s.heap.size (some (.int r)) h) args s 0 0 (AF X h s.heap.size)) 31 [(3, .int (x3))] [] h := by
    intro x3 hf
    unfold f_X2_fittingPhases_J31 at hf
    refine G.iload_n C 0 dX2_fittingPhases_31 rfl rfl ?_
    cases hf
    exact G.iret C rfl dX2_fittingPhases_32
  refine G.sub C [0, 1, 2] (lv' := [(0, .ref (a0)), (1, .int (a1)), (2, .int (a2))]) rfl ?_
  refine G.iconst (v := 0) C dX2_fittingPhases_0 (by decide) ?_
  refine G.istore_n (lv' := [(3, .int ((0 : Int32))), (0, .ref (a0)), (1, .int (a1)), (2, .int (a2))]) C dX2_fittingPhases_1 rfl (by decide) rfl ?_
  refine G.iconst (v := 0) C dX2_fittingPhases_2 (by decide) ?_
  refine G.istore (lv' := [(4, .int ((0 : Int32))), (3, .int ((0 : Int32))), (0, .ref (a0)), (1, .int (a1)), (2, .int (a2))]) C dX2_fittingPhases_3 (by decide) rfl ?_
  obtain ⟨z1, hlp1, hfo1⟩ := bind_some hf
  clear hf
  have hloop1 : ∀ (k : Nat), ∀ (x3 : Int32) (x4 : Int32), (lpn (f_X2_fittingPhases_L5 (h) (a0) (a1) (a2)) k (x3, x4)) = some z1 → G p l e ({ frames := 2, cells := 0, slots := 0, locals := 47 } : Room) s m args below meth c 5 g X h 0 0 (MQ below (QW g X h s.heap.size (some (.int r)) h) args s 0 0 (AF X h s.heap.size)) 5 [(0, .ref (a0)), (1, .int (a1)), (2, .int (a2)), (3, .int (x3)), (4, .int (x4))] [] h := by
    intro k
    induction k with
    | zero => intro x3 x4 hlp1; exact (lpn_0 hlp1).elim
    | succ k ih1 =>
      intro x3 x4 hlp1
      obtain ⟨y1, hf, hlp1⟩ := lpn_s hlp1
      unfold f_X2_fittingPhases_L5 at hf
      try dsimp only at hf
      have hj25 : ∀ (x3 : Int32) (x4 : Int32), f_X2_fittingPhases_J25 h (a0) (a1) (a2) (x3) (x4) = some y1 → G p l e ({ frames := 2, cells := 0, slots := 0, locals := 47 } : Room) s m args below meth c 5 g X h 0 0 (MQ below (QW g X h s.heap.size (some (.int r)) h) args s 0 0 (AF X h s.heap.size)) 25 [(0, .ref (a0)), (1, .int (a1)), (2, .int (a2)), (3, .int (x3)), (4, .int (x4))] [] h := by
        intro x3 x4 hf
        unfold f_X2_fittingPhases_J25 at hf
        refine G.iinc (k := 4) (v := (x4 + 1)) (lv' := [(4, .int ((x4 + 1))), (0, .ref (a0)), (1, .int (a1)), (2, .int (a2)), (3, .int (x3))]) C dX2_fittingPhases_25 rfl rfl (by decide) rfl ?_
        refine G.goto (tgt := 5) C dX2_fittingPhases_28 (by decide) ?_
        cases hf
        refine G.sub C [1, 2, 3, 4, 0] (lv' := [(0, .ref (a0)), (1, .int (a1)), (2, .int (a2)), (3, .int (x3)), (4, .int ((x4 + 1)))]) rfl ?_
        exact ih1 _ _ hlp1
      refine G.iload C 4 dX2_fittingPhases_5 rfl ?_
      refine G.iload_n C 2 dX2_fittingPhases_7 rfl rfl ?_
      refine G.icmp_ge (tgt := 31) C dX2_fittingPhases_8 (by decide) hf (fun c4 hf => ?_) (fun c4 hf => ?_)
      · cases hf
        change some _ = some _ at hlp1
        have hf := hfo1
        try rw [← Option.some.inj hlp1] at hf
        try dsimp only at hf
        refine G.sub C [3] (lv' := [(3, .int (x3))]) rfl ?_
        exact hj31 _ hf
      · refine G.aload_n C 0 dX2_fittingPhases_11 rfl rfl ?_
        refine G.iload_n C 1 dX2_fittingPhases_12 rfl rfl ?_
        refine G.iload C 4 dX2_fittingPhases_13 rfl ?_
        refine G.iload_n C 2 dX2_fittingPhases_15 rfl rfl ?_
        obtain ⟨v2, hv2, hf⟩ := bind_some hf
        try dsimp only at hf
        refine G.callV C (st := []) (st2 := [.int (v2)]) (ct_X2_reasonAgainst hv2) (ko_X2_reasonAgainst hv2) rfl m9_231 m9_232 m9_233 m9_24 m9_234 kd_X2_reasonAgainst ⟨Nat.le_of_ble_eq_true rfl, Nat.le_of_ble_eq_true rfl⟩ ⟨Nat.zero_le _, Nat.zero_le _⟩ (Nat.le_of_ble_eq_true rfl) rfl rfl dX2_fittingPhases_16 ?_
        refine G.if_ne (tgt := 25) C dX2_fittingPhases_19 (by decide) hf (fun c3 hf => ?_) (fun c3 hf => ?_)
        · refine G.sub C [0, 1, 2, 3, 4] (lv' := [(0, .ref (a0)), (1, .int (a1)), (2, .int (a2)), (3, .int (x3)), (4, .int (x4))]) rfl ?_
          exact hj25 _ _ hf
        · refine G.iinc (k := 3) (v := (x3 + 1)) (lv' := [(3, .int ((x3 + 1))), (0, .ref (a0)), (1, .int (a1)), (2, .int (a2)), (4, .int (x4))]) C dX2_fittingPhases_22 rfl rfl (by decide) rfl ?_
          refine G.sub C [1, 2, 3, 0, 4] (lv' := [(0, .ref (a0)), (1, .int (a1)), (2, .int (a2)), (3, .int ((x3 + 1))), (4, .int (x4))]) rfl ?_
          exact hj25 _ _ hf
  refine G.sub C [2, 3, 4, 1, 0] (lv' := [(0, .ref (a0)), (1, .int (a1)), (2, .int (a2)), (3, .int ((0 : Int32))), (4, .int ((0 : Int32)))]) rfl ?_
  exact hloop1 LF _ _ hlp1
theorem ko_X2_lowestPhase {h : PH} {a0 : Nat} {a1 : Int32} {a2 : Int32} {r : Int32} (hf : f_X2_lowestPhase h a0 a1 a2 = some r) : kO h a0 1 := by
  unfold f_X2_lowestPhase at hf
  exact okO_k (gd_ok hf).1
theorem kd_X2_lowestPhase : yX2_lowestPhase.cls = RX2 ∧ yX2_lowestPhase.cls ≠ "java/lang/invoke/MethodHandle" ∧ yX2_lowestPhase.cls ≠ "java/lang/invoke/VarHandle" ∧ (parseMethodDescriptor yX2_lowestPhase.desc).map (fun d => d.parameters.length) = some 2 := by decide +kernel
set_option maxRecDepth 20000 in
set_option maxHeartbeats 4000000 in
theorem ct_X2_lowestPhase {l : Launch} {h : PH} {a0 : Nat} {a1 : Int32} {a2 : Int32} {r : Int32} (hf : f_X2_lowestPhase h a0 a1 a2 = some r) : CT l yX2_lowestPhase cX2_lowestPhase 4 (some .int) 2 47 [.ref (a0), .int (a1), .int (a2)] h (some (.int r)) h := by
  refine CT.of (own := RX2) rfl (by decide) (Nat.le_of_ble_eq_true rfl) ?_
  intro p e R s m args below meth c g X hR C
  subst hR
  unfold f_X2_lowestPhase at hf
  obtain ⟨hok, hf⟩ := gd_ok hf
  have hj17 : ∀ (x3 : Int32), f_X2_lowestPhase_J17 h (x3) = some r → G p l e ({ frames := 2, cells := 0, slots := 0, locals := 47 } : Room) s m args below meth c 4 g X h 0 0 (MQ below (QW g X h s.heap.size (some (.int r)) h) args s 0 0 (AF X h s.heap.size)) 17 [(3, .int (x3))] [] h := by
    intro x3 hf
    unfold f_X2_lowestPhase_J17 at hf
    refine G.iload_n C 0 dX2_lowestPhase_17 rfl rfl ?_
    cases hf
    exact G.iret C rfl dX2_lowestPhase_18
  have hj25 : f_X2_lowestPhase_J25 h = some r → G p l e ({ frames := 2, cells := 0, slots := 0, locals := 47 } : Room) s m args below meth c 4 g X h 0 0 (MQ below (QW g X h s.heap.size (some (.int r)) h) args s 0 0 (AF X h s.heap.size)) 25 [] [] h := by
    intro hf
    unfold f_X2_lowestPhase_J25 at hf
    refine G.iconst (v := (-1)) C dX2_lowestPhase_25 (by decide) ?_
    cases hf
    exact G.iret C rfl dX2_lowestPhase_26
  refine G.sub C [0, 1, 2] (lv' := [(0, .ref (a0)), (1, .int (a1)), (2, .int (a2))]) rfl ?_
  refine G.iconst (v := 0) C dX2_lowestPhase_0 (by decide) ?_
  refine G.istore_n (lv' := [(3, .int ((0 : Int32))), (0, .ref (a0)), (1, .int (a1)), (2, .int (a2))]) C dX2_lowestPhase_1 rfl (by decide) rfl ?_
  obtain ⟨z1, hlp1, hfo1⟩ := bind_some hf
  clear hf
  have hloop1 : ∀ (k : Nat), ∀ (x3 : Int32), (lpn (f_X2_lowestPhase_L2 (h) (a0) (a1) (a2)) k (x3)) = some z1 → G p l e ({ frames := 2, cells := 0, slots := 0, locals := 47 } : Room) s m args below meth c 4 g X h 0 0 (MQ below (QW g X h s.heap.size (some (.int r)) h) args s 0 0 (AF X h s.heap.size)) 2 [(0, .ref (a0)), (1, .int (a1)), (2, .int (a2)), (3, .int (x3))] [] h := by
    intro k
    induction k with
    | zero => intro x3 hlp1; exact (lpn_0 hlp1).elim
    | succ k ih1 =>
      intro x3 hlp1
      obtain ⟨y1, hf, hlp1⟩ := lpn_s hlp1
      unfold f_X2_lowestPhase_L2 at hf
      try dsimp only at hf
      refine G.iload_n C 3 dX2_lowestPhase_2 rfl rfl ?_
      refine G.iload_n C 2 dX2_lowestPhase_3 rfl rfl ?_
      refine G.icmp_ge (tgt := 25) C dX2_lowestPhase_4 (by decide) hf (fun c4 hf => ?_) (fun c4 hf => ?_)
      · cases hf
        change some _ = some _ at hlp1
        have hf := hfo1
        try rw [← Option.some.inj hlp1] at hf
        try dsimp only at hf
        refine G.sub C [] (lv' := []) rfl ?_
        exact hj25  hf
      · refine G.aload_n C 0 dX2_lowestPhase_7 rfl rfl ?_
        refine G.iload_n C 1 dX2_lowestPhase_8 rfl rfl ?_
        refine G.iload_n C 3 dX2_lowestPhase_9 rfl rfl ?_
        refine G.iload_n C 2 dX2_lowestPhase_10 rfl rfl ?_
        obtain ⟨v2, hv2, hf⟩ := bind_some hf
        try dsimp only at hf
        refine G.callV C (st := []) (st2 := [.int (v2)]) (ct_X2_reasonAgainst hv2) (ko_X2_reasonAgainst hv2) rfl m9_231 m9_232 m9_233 m9_24 m9_234 kd_X2_reasonAgainst ⟨Nat.le_of_ble_eq_true rfl, Nat.le_of_ble_eq_true rfl⟩ ⟨Nat.zero_le _, Nat.zero_le _⟩ (Nat.le_of_ble_eq_true rfl) rfl rfl dX2_lowestPhase_11 ?_
        refine G.if_ne (tgt := 19) C dX2_lowestPhase_14 (by decide) hf (fun c3 hf => ?_) (fun c3 hf => ?_)
        · refine G.iinc (k := 3) (v := (x3 + 1)) (lv' := [(3, .int ((x3 + 1))), (0, .ref (a0)), (1, .int (a1)), (2, .int (a2))]) C dX2_lowestPhase_19 rfl rfl (by decide) rfl ?_
          refine G.goto (tgt := 2) C dX2_lowestPhase_22 (by decide) ?_
          cases hf
          refine G.sub C [1, 2, 3, 0] (lv' := [(0, .ref (a0)), (1, .int (a1)), (2, .int (a2)), (3, .int ((x3 + 1)))]) rfl ?_
          exact ih1 _ hlp1
        · cases hf
          change some _ = some _ at hlp1
          have hf := hfo1
          try rw [← Option.some.inj hlp1] at hf
          try dsimp only at hf
          refine G.sub C [3] (lv' := [(3, .int (x3))]) rfl ?_
          exact hj17 _ hf
  refine G.sub C [1, 2, 3, 0] (lv' := [(0, .ref (a0)), (1, .int (a1)), (2, .int (a2)), (3, .int ((0 : Int32)))]) rfl ?_
  exact hloop1 LF _ hlp1
theorem ko_X2_placesFrom {h : PH} {a0 : Nat} {a1 : Int32} {a2 : Int32} {r : Int32} (hf : f_X2_placesFrom h a0 a1 a2 = some r) : kO h a0 1 := by
  unfold f_X2_placesFrom at hf
  exact okO_k (gd_ok hf).1
theorem kd_X2_placesFrom : yX2_placesFrom.cls = RX2 ∧ yX2_placesFrom.cls ≠ "java/lang/invoke/MethodHandle" ∧ yX2_placesFrom.cls ≠ "java/lang/invoke/VarHandle" ∧ (parseMethodDescriptor yX2_placesFrom.desc).map (fun d => d.parameters.length) = some 2 := by decide +kernel
set_option maxRecDepth 20000 in
set_option maxHeartbeats 4000000 in
theorem ct_X2_placesFrom {l : Launch} {h : PH} {a0 : Nat} {a1 : Int32} {a2 : Int32} {r : Int32} (hf : f_X2_placesFrom h a0 a1 a2 = some r) : CT l yX2_placesFrom cX2_placesFrom 6 (some .int) 1 21 [.ref (a0), .int (a1), .int (a2)] h (some (.int r)) h := by
  refine CT.of (own := RX2) rfl (by decide) (Nat.le_of_ble_eq_true rfl) ?_
  intro p e R s m args below meth c g X hR C
  subst hR
  unfold f_X2_placesFrom at hf
  obtain ⟨hok, hf⟩ := gd_ok hf
  have hj34 : ∀ (x3 : Int32), f_X2_placesFrom_J34 h (x3) = some r → G p l e ({ frames := 1, cells := 0, slots := 0, locals := 21 } : Room) s m args below meth c 6 g X h 0 0 (MQ below (QW g X h s.heap.size (some (.int r)) h) args s 0 0 (AF X h s.heap.size)) 34 [(3, .int (x3))] [] h := by
    intro x3 hf
    unfold f_X2_placesFrom_J34 at hf
    refine G.iload_n C 0 dX2_placesFrom_34 rfl rfl ?_
    cases hf
    exact G.iret C rfl dX2_placesFrom_35
  refine G.sub C [0, 1, 2] (lv' := [(0, .ref (a0)), (1, .int (a1)), (2, .int (a2))]) rfl ?_
  refine G.iconst (v := 0) C dX2_placesFrom_0 (by decide) ?_
  refine G.istore_n (lv' := [(3, .int ((0 : Int32))), (0, .ref (a0)), (1, .int (a1)), (2, .int (a2))]) C dX2_placesFrom_1 rfl (by decide) rfl ?_
  refine G.iconst (v := 1) C dX2_placesFrom_2 (by decide) ?_
  refine G.iload_n C 3 dX2_placesFrom_3 rfl rfl ?_
  refine G.mmax C m9_168 m9_169 m9_170 m9_171 (Nat.le_of_ble_eq_true rfl) (Nat.le_of_ble_eq_true rfl) ⟨Nat.zero_le _, Nat.zero_le _⟩ dX2_placesFrom_4 ?_
  refine G.istore (lv' := [(4, .int ((if (1 : Int32) < a2 then a2 else (1 : Int32)))), (3, .int ((0 : Int32))), (0, .ref (a0)), (1, .int (a1)), (2, .int (a2))]) C dX2_placesFrom_7 (by decide) rfl ?_
  refine G.iload_n C 3 dX2_placesFrom_9 rfl rfl ?_
  refine G.istore (lv' := [(5, .int (a1)), (4, .int ((if (1 : Int32) < a2 then a2 else (1 : Int32)))), (3, .int ((0 : Int32))), (0, .ref (a0)), (1, .int (a1)), (2, .int (a2))]) C dX2_placesFrom_10 (by decide) rfl ?_
  obtain ⟨z1, hlp1, hfo1⟩ := bind_some hf
  clear hf
  have hloop1 : ∀ (k : Nat), ∀ (x3 : Int32) (x5 : Int32), (lpn (f_X2_placesFrom_L12 (h) (a0) ((if (1 : Int32) < a2 then a2 else (1 : Int32)))) k (x3, x5)) = some z1 → G p l e ({ frames := 1, cells := 0, slots := 0, locals := 21 } : Room) s m args below meth c 6 g X h 0 0 (MQ below (QW g X h s.heap.size (some (.int r)) h) args s 0 0 (AF X h s.heap.size)) 12 [(0, .ref (a0)), (3, .int (x3)), (4, .int ((if (1 : Int32) < a2 then a2 else (1 : Int32)))), (5, .int (x5))] [] h := by
    intro k
    induction k with
    | zero => intro x3 x5 hlp1; exact (lpn_0 hlp1).elim
    | succ k ih1 =>
      intro x3 x5 hlp1
      obtain ⟨y1, hf, hlp1⟩ := lpn_s hlp1
      unfold f_X2_placesFrom_L12 at hf
      try dsimp only at hf
      refine G.iload C 3 dX2_placesFrom_12 rfl ?_
      refine G.aload_n C 0 dX2_placesFrom_14 rfl rfl ?_
      refine G.getI (ci := 1) (k := 2) C rfl inlX2 (by decide) m9_45 rfl hf dX2_placesFrom_15 (fun v2 hv2 hf => ?_)
      try dsimp only at hf
      refine G.icmp_ge (tgt := 34) C dX2_placesFrom_18 (by decide) hf (fun c3 hf => ?_) (fun c3 hf => ?_)
      · cases hf
        change some _ = some _ at hlp1
        have hf := hfo1
        try rw [← Option.some.inj hlp1] at hf
        try dsimp only at hf
        refine G.sub C [1] (lv' := [(3, .int (x3))]) rfl ?_
        exact hj34 _ hf
      · refine G.iinc (k := 1) (v := (x3 + 1)) (lv' := [(3, .int ((x3 + 1))), (0, .ref (a0)), (4, .int ((if (1 : Int32) < a2 then a2 else (1 : Int32)))), (5, .int (x5))]) C dX2_placesFrom_21 rfl rfl (by decide) rfl ?_
        refine G.iload C 3 dX2_placesFrom_24 rfl ?_
        refine G.iload C 2 dX2_placesFrom_26 rfl ?_
        refine G.iadd C dX2_placesFrom_28 ?_
        refine G.istore (lv' := [(5, .int ((x5 + (if (1 : Int32) < a2 then a2 else (1 : Int32))))), (3, .int ((x3 + 1))), (0, .ref (a0)), (4, .int ((if (1 : Int32) < a2 then a2 else (1 : Int32))))]) C dX2_placesFrom_29 (by decide) rfl ?_
        refine G.goto (tgt := 12) C dX2_placesFrom_31 (by decide) ?_
        cases hf
        refine G.sub C [2, 1, 3, 0] (lv' := [(0, .ref (a0)), (3, .int ((x3 + 1))), (4, .int ((if (1 : Int32) < a2 then a2 else (1 : Int32)))), (5, .int ((x5 + (if (1 : Int32) < a2 then a2 else (1 : Int32)))))]) rfl ?_
        exact ih1 _ _ hlp1
  refine G.sub C [3, 2, 1, 0] (lv' := [(0, .ref (a0)), (3, .int ((0 : Int32))), (4, .int ((if (1 : Int32) < a2 then a2 else (1 : Int32)))), (5, .int (a1))]) rfl ?_
  exact hloop1 LF _ _ hlp1
theorem ko_X2_fillingPhase {h : PH} {a0 : Nat} {a1 : Int32} {a2 : Int32} {r : Int32} (hf : f_X2_fillingPhase h a0 a1 a2 = some r) : kO h a0 1 := by
  unfold f_X2_fillingPhase at hf
  exact okO_k (gd_ok hf).1
theorem kd_X2_fillingPhase : yX2_fillingPhase.cls = RX2 ∧ yX2_fillingPhase.cls ≠ "java/lang/invoke/MethodHandle" ∧ yX2_fillingPhase.cls ≠ "java/lang/invoke/VarHandle" ∧ (parseMethodDescriptor yX2_fillingPhase.desc).map (fun d => d.parameters.length) = some 2 := by decide +kernel
set_option maxRecDepth 20000 in
set_option maxHeartbeats 4000000 in
theorem ct_X2_fillingPhase {l : Launch} {h : PH} {a0 : Nat} {a1 : Int32} {a2 : Int32} {r : Int32} (hf : f_X2_fillingPhase h a0 a1 a2 = some r) : CT l yX2_fillingPhase cX2_fillingPhase 7 (some .int) 2 47 [.ref (a0), .int (a1), .int (a2)] h (some (.int r)) h := by
  refine CT.of (own := RX2) rfl (by decide) (Nat.le_of_ble_eq_true rfl) ?_
  intro p e R s m args below meth c g X hR C
  subst hR
  unfold f_X2_fillingPhase at hf
  obtain ⟨hok, hf⟩ := gd_ok hf
  have hj54 : ∀ (x3 : Int32), f_X2_fillingPhase_J54 h (x3) = some r → G p l e ({ frames := 2, cells := 0, slots := 0, locals := 47 } : Room) s m args below meth c 7 g X h 0 0 (MQ below (QW g X h s.heap.size (some (.int r)) h) args s 0 0 (AF X h s.heap.size)) 54 [(3, .int (x3))] [] h := by
    intro x3 hf
    unfold f_X2_fillingPhase_J54 at hf
    refine G.iload_n C 0 dX2_fillingPhase_54 rfl rfl ?_
    cases hf
    exact G.iret C rfl dX2_fillingPhase_55
  refine G.sub C [0, 1, 2] (lv' := [(0, .ref (a0)), (1, .int (a1)), (2, .int (a2))]) rfl ?_
  refine G.iconst (v := (-1)) C dX2_fillingPhase_0 (by decide) ?_
  refine G.istore_n (lv' := [(3, .int (((-1) : Int32))), (0, .ref (a0)), (1, .int (a1)), (2, .int (a2))]) C dX2_fillingPhase_1 rfl (by decide) rfl ?_
  refine G.iconst (v := 0) C dX2_fillingPhase_2 (by decide) ?_
  refine G.istore (lv' := [(4, .int ((0 : Int32))), (3, .int (((-1) : Int32))), (0, .ref (a0)), (1, .int (a1)), (2, .int (a2))]) C dX2_fillingPhase_3 (by decide) rfl ?_
  refine G.iconst (v := 0) C dX2_fillingPhase_5 (by decide) ?_
  refine G.istore (lv' := [(5, .int ((0 : Int32))), (4, .int ((0 : Int32))), (3, .int (((-1) : Int32))), (0, .ref (a0)), (1, .int (a1)), (2, .int (a2))]) C dX2_fillingPhase_6 (by decide) rfl ?_
  obtain ⟨z1, hlp1, hfo1⟩ := bind_some hf
  clear hf
  have hloop1 : ∀ (k : Nat), ∀ (x3 : Int32) (x4 : Int32) (x5 : Int32), (lpn (f_X2_fillingPhase_L8 (h) (a0) (a1) (a2)) k (x3, x4, x5)) = some z1 → G p l e ({ frames := 2, cells := 0, slots := 0, locals := 47 } : Room) s m args below meth c 7 g X h 0 0 (MQ below (QW g X h s.heap.size (some (.int r)) h) args s 0 0 (AF X h s.heap.size)) 8 [(0, .ref (a0)), (1, .int (a1)), (2, .int (a2)), (3, .int (x3)), (4, .int (x4)), (5, .int (x5))] [] h := by
    intro k
    induction k with
    | zero => intro x3 x4 x5 hlp1; exact (lpn_0 hlp1).elim
    | succ k ih1 =>
      intro x3 x4 x5 hlp1
      obtain ⟨y1, hf, hlp1⟩ := lpn_s hlp1
      unfold f_X2_fillingPhase_L8 at hf
      try dsimp only at hf
      have hj48 : ∀ (x3 : Int32) (x4 : Int32) (x5 : Int32), f_X2_fillingPhase_J48 h (a0) (a1) (a2) (x3) (x4) (x5) = some y1 → G p l e ({ frames := 2, cells := 0, slots := 0, locals := 47 } : Room) s m args below meth c 7 g X h 0 0 (MQ below (QW g X h s.heap.size (some (.int r)) h) args s 0 0 (AF X h s.heap.size)) 48 [(0, .ref (a0)), (1, .int (a1)), (2, .int (a2)), (3, .int (x3)), (4, .int (x4)), (5, .int (x5))] [] h := by
        intro x3 x4 x5 hf
        unfold f_X2_fillingPhase_J48 at hf
        refine G.iinc (k := 5) (v := (x5 + 1)) (lv' := [(5, .int ((x5 + 1))), (0, .ref (a0)), (1, .int (a1)), (2, .int (a2)), (3, .int (x3)), (4, .int (x4))]) C dX2_fillingPhase_48 rfl rfl (by decide) rfl ?_
        refine G.goto (tgt := 8) C dX2_fillingPhase_51 (by decide) ?_
        cases hf
        refine G.sub C [1, 2, 3, 4, 5, 0] (lv' := [(0, .ref (a0)), (1, .int (a1)), (2, .int (a2)), (3, .int (x3)), (4, .int (x4)), (5, .int ((x5 + 1)))]) rfl ?_
        exact ih1 _ _ _ hlp1
      refine G.iload C 5 dX2_fillingPhase_8 rfl ?_
      refine G.iload_n C 2 dX2_fillingPhase_10 rfl rfl ?_
      refine G.icmp_ge (tgt := 54) C dX2_fillingPhase_11 (by decide) hf (fun c6 hf => ?_) (fun c6 hf => ?_)
      · cases hf
        change some _ = some _ at hlp1
        have hf := hfo1
        try rw [← Option.some.inj hlp1] at hf
        try dsimp only at hf
        refine G.sub C [3] (lv' := [(3, .int (x3))]) rfl ?_
        exact hj54 _ hf
      · refine G.aload_n C 0 dX2_fillingPhase_14 rfl rfl ?_
        refine G.iload C 5 dX2_fillingPhase_15 rfl ?_
        refine G.iload_n C 2 dX2_fillingPhase_17 rfl rfl ?_
        obtain ⟨v2, hv2, hf⟩ := bind_some hf
        try dsimp only at hf
        refine G.callV C (st := []) (st2 := [.int (v2)]) (ct_X2_placesFrom hv2) (ko_X2_placesFrom hv2) rfl m9_243 m9_244 m9_245 m9_24 m9_246 kd_X2_placesFrom ⟨Nat.le_of_ble_eq_true rfl, Nat.le_of_ble_eq_true rfl⟩ ⟨Nat.zero_le _, Nat.zero_le _⟩ (Nat.le_of_ble_eq_true rfl) rfl rfl dX2_fillingPhase_18 ?_
        refine G.istore (lv' := [(6, .int (v2)), (0, .ref (a0)), (1, .int (a1)), (2, .int (a2)), (3, .int (x3)), (4, .int (x4)), (5, .int (x5))]) C dX2_fillingPhase_21 (by decide) rfl ?_
        refine G.iload C 0 dX2_fillingPhase_23 rfl ?_
        refine G.iload C 5 dX2_fillingPhase_25 rfl ?_
        refine G.icmp_le (tgt := 48) C dX2_fillingPhase_27 (by decide) hf (fun c5 hf => ?_) (fun c5 hf => ?_)
        · refine G.sub C [1, 2, 3, 4, 5, 6] (lv' := [(0, .ref (a0)), (1, .int (a1)), (2, .int (a2)), (3, .int (x3)), (4, .int (x4)), (5, .int (x5))]) rfl ?_
          exact hj48 _ _ _ hf
        · refine G.aload_n C 1 dX2_fillingPhase_30 rfl rfl ?_
          refine G.iload_n C 2 dX2_fillingPhase_31 rfl rfl ?_
          refine G.iload C 6 dX2_fillingPhase_32 rfl ?_
          refine G.iload_n C 3 dX2_fillingPhase_34 rfl rfl ?_
          obtain ⟨v3, hv3, hf⟩ := bind_some hf
          try dsimp only at hf
          refine G.callV C (st := []) (st2 := [.int (v3)]) (ct_X2_reasonAgainst hv3) (ko_X2_reasonAgainst hv3) rfl m9_231 m9_232 m9_233 m9_24 m9_234 kd_X2_reasonAgainst ⟨Nat.le_of_ble_eq_true rfl, Nat.le_of_ble_eq_true rfl⟩ ⟨Nat.zero_le _, Nat.zero_le _⟩ (Nat.le_of_ble_eq_true rfl) rfl rfl dX2_fillingPhase_35 ?_
          refine G.if_ne (tgt := 48) C dX2_fillingPhase_38 (by decide) hf (fun c4 hf => ?_) (fun c4 hf => ?_)
          · refine G.sub C [1, 2, 3, 4, 5, 6] (lv' := [(0, .ref (a0)), (1, .int (a1)), (2, .int (a2)), (3, .int (x3)), (4, .int (x4)), (5, .int (x5))]) rfl ?_
            exact hj48 _ _ _ hf
          · refine G.iload C 0 dX2_fillingPhase_41 rfl ?_
            refine G.istore (lv' := [(4, .int (v2)), (6, .int (v2)), (0, .ref (a0)), (1, .int (a1)), (2, .int (a2)), (3, .int (x3)), (5, .int (x5))]) C dX2_fillingPhase_43 (by decide) rfl ?_
            refine G.iload C 6 dX2_fillingPhase_45 rfl ?_
            refine G.istore_n (lv' := [(3, .int (x5)), (4, .int (v2)), (6, .int (v2)), (0, .ref (a0)), (1, .int (a1)), (2, .int (a2)), (5, .int (x5))]) C dX2_fillingPhase_47 rfl (by decide) rfl ?_
            refine G.sub C [3, 4, 5, 0, 1, 6] (lv' := [(0, .ref (a0)), (1, .int (a1)), (2, .int (a2)), (3, .int (x5)), (4, .int (v2)), (5, .int (x5))]) rfl ?_
            exact hj48 _ _ _ hf
  refine G.sub C [3, 4, 5, 2, 1, 0] (lv' := [(0, .ref (a0)), (1, .int (a1)), (2, .int (a2)), (3, .int (((-1) : Int32))), (4, .int ((0 : Int32))), (5, .int ((0 : Int32)))]) rfl ?_
  exact hloop1 LF _ _ _ hlp1
theorem ko_X2_phaseNumber {h : PH} {a0 : Nat} {a1 : Int32} {a2 : Int32} {a3 : Int32} {r : Int32} (hf : f_X2_phaseNumber h a0 a1 a2 a3 = some r) : kO h a0 1 := by
  unfold f_X2_phaseNumber at hf
  exact okO_k (gd_ok hf).1
theorem kd_X2_phaseNumber : yX2_phaseNumber.cls = RX2 ∧ yX2_phaseNumber.cls ≠ "java/lang/invoke/MethodHandle" ∧ yX2_phaseNumber.cls ≠ "java/lang/invoke/VarHandle" ∧ (parseMethodDescriptor yX2_phaseNumber.desc).map (fun d => d.parameters.length) = some 3 := by decide +kernel
set_option maxRecDepth 20000 in
set_option maxHeartbeats 4000000 in
theorem ct_X2_phaseNumber {l : Launch} {h : PH} {a0 : Nat} {a1 : Int32} {a2 : Int32} {a3 : Int32} {r : Int32} (hf : f_X2_phaseNumber h a0 a1 a2 a3 = some r) : CT l yX2_phaseNumber cX2_phaseNumber 4 (some .int) 3 73 [.ref (a0), .int (a1), .int (a2), .int (a3)] h (some (.int r)) h := by
  refine CT.of (own := RX2) rfl (by decide) (Nat.le_of_ble_eq_true rfl) ?_
  intro p e R s m args below meth c g X hR C
  subst hR
  unfold f_X2_phaseNumber at hf
  obtain ⟨hok, hf⟩ := gd_ok hf
  refine G.sub C [0, 1, 2, 3] (lv' := [(0, .ref (a0)), (1, .int (a1)), (2, .int (a2)), (3, .int (a3))]) rfl ?_
  refine G.iload_n C 3 dX2_phaseNumber_0 rfl rfl ?_
  by_cases c1 : a3 = 0
  · rw [if_pos c1] at hf
    refine G.lsw (off := 27) (tgt := 28) C dX2_phaseNumber_1 (by decide) (by rw [c1]; rfl) (by decide) ?_
    refine G.aload_n C 0 dX2_phaseNumber_28 rfl rfl ?_
    refine G.iload_n C 1 dX2_phaseNumber_29 rfl rfl ?_
    refine G.iload_n C 2 dX2_phaseNumber_30 rfl rfl ?_
    obtain ⟨v2, hv2, hf⟩ := bind_some hf
    try dsimp only at hf
    refine G.callV C (st := []) (st2 := [.int (v2)]) (ct_X2_fittingPhases hv2) (ko_X2_fittingPhases hv2) rfl m9_227 m9_228 m9_229 m9_24 m9_230 kd_X2_fittingPhases ⟨Nat.le_of_ble_eq_true rfl, Nat.le_of_ble_eq_true rfl⟩ ⟨Nat.zero_le _, Nat.zero_le _⟩ (Nat.le_of_ble_eq_true rfl) rfl rfl dX2_phaseNumber_31 ?_
    cases hf
    exact G.iret C rfl dX2_phaseNumber_34
  · rw [if_neg c1] at hf
    by_cases c3 : a3 = 1
    · rw [if_pos c3] at hf
      refine G.lsw (off := 34) (tgt := 35) C dX2_phaseNumber_1 (by decide) (by rw [c3]; rfl) (by decide) ?_
      refine G.aload_n C 0 dX2_phaseNumber_35 rfl rfl ?_
      refine G.iload_n C 1 dX2_phaseNumber_36 rfl rfl ?_
      refine G.iload_n C 2 dX2_phaseNumber_37 rfl rfl ?_
      obtain ⟨v4, hv4, hf⟩ := bind_some hf
      try dsimp only at hf
      refine G.callV C (st := []) (st2 := [.int (v4)]) (ct_X2_lowestPhase hv4) (ko_X2_lowestPhase hv4) rfl m9_235 m9_236 m9_237 m9_24 m9_238 kd_X2_lowestPhase ⟨Nat.le_of_ble_eq_true rfl, Nat.le_of_ble_eq_true rfl⟩ ⟨Nat.zero_le _, Nat.zero_le _⟩ (Nat.le_of_ble_eq_true rfl) rfl rfl dX2_phaseNumber_38 ?_
      cases hf
      exact G.iret C rfl dX2_phaseNumber_41
    · rw [if_neg c3] at hf
      refine G.lsw (off := 41) (tgt := 42) C dX2_phaseNumber_1 (by decide) (by show Op.lookupswitch.offset [(0, 27), (1, 34)] 41 _ = _; rw [lv_osw (a := 0) c1 (by decide), lv_osw (a := 1) c3 (by decide)]; rfl) (by decide) ?_
      refine G.aload_n C 0 dX2_phaseNumber_42 rfl rfl ?_
      refine G.iload_n C 1 dX2_phaseNumber_43 rfl rfl ?_
      refine G.iload_n C 2 dX2_phaseNumber_44 rfl rfl ?_
      obtain ⟨v5, hv5, hf⟩ := bind_some hf
      try dsimp only at hf
      refine G.callV C (st := []) (st2 := [.int (v5)]) (ct_X2_fillingPhase hv5) (ko_X2_fillingPhase hv5) rfl m9_239 m9_240 m9_241 m9_24 m9_242 kd_X2_fillingPhase ⟨Nat.le_of_ble_eq_true rfl, Nat.le_of_ble_eq_true rfl⟩ ⟨Nat.zero_le _, Nat.zero_le _⟩ (Nat.le_of_ble_eq_true rfl) rfl rfl dX2_phaseNumber_45 ?_
      cases hf
      exact G.iret C rfl dX2_phaseNumber_48
