theorem ko_X5_requireHue {h : PH} {a0 : Nat} {a1 : Int32} {r : (Except String Unit)} (hf : f_X5_requireHue h a0 a1 = some r) : kO h a0 4 := by
  unfold f_X5_requireHue at hf
  exact okO_k (gd_ok hf).1
theorem kd_X5_requireHue : yX5_requireHue.cls = RX5 ∧ yX5_requireHue.cls ≠ "java/lang/invoke/MethodHandle" ∧ yX5_requireHue.cls ≠ "java/lang/invoke/VarHandle" ∧ (parseMethodDescriptor yX5_requireHue.desc).map (fun d => d.parameters.length) = some 1 := by decide +kernel
set_option maxRecDepth 20000 in
set_option maxHeartbeats 4000000 in
theorem cx_X5_requireHue {l : Launch} {h : PH} {a0 : Nat} {a1 : Int32} {r : (Except String Unit)} (hf : f_X5_requireHue h a0 a1 = some r) : CX l yX5_requireHue cX5_requireHue 2 none 6 90 [.ref (a0), .int (a1)] h (xV h r) := by
  refine CX.of (own := RX5) rfl (by decide) (Nat.le_of_ble_eq_true rfl) ?_
  intro p e R s m args below meth c g X hR C TT tab
  subst hR
  unfold f_X5_requireHue at hf
  obtain ⟨hok, hf⟩ := gd_ok hf
  have hj10 : f_X5_requireHue_J10 h = some r → G p l e ({ frames := 6, cells := cN (xV h r), slots := cS (xV h r), locals := 90 } : Room) s m args below meth c 2 g X h 0 0 (vx_MQ below (QX g X h s.heap.size (xV h r)) (XX g X h s.heap.size (xV h r)) args s (cN (xV h r)) (cS (xV h r)) (AF X h s.heap.size)) 10 [] [] h := by
    intro hf
    unfold f_X5_requireHue_J10 at hf
    cases hf
    exact G.throwIOw (is := 273) (text := "there is no such hue") C TT tab rfl m9_147 m9_148 (by decide +kernel) dX5_requireHue_10 dX5_requireHue_13 dX5_requireHue_14 dX5_requireHue_17 dX5_requireHue_20 (Nat.le_of_ble_eq_true rfl) (Nat.le_of_ble_eq_true rfl) ⟨rfl, rfl⟩
  refine G.sub C [0, 1] (lv' := [(0, .ref (a0)), (1, .int (a1))]) rfl ?_
  refine G.iload_n C 1 dX5_requireHue_0 rfl rfl ?_
  refine G.if_lt (tgt := 10) C dX5_requireHue_1 (by decide) hf (fun c2 hf => ?_) (fun c2 hf => ?_)
  · refine G.sub C [] (lv' := []) rfl ?_
    exact hj10  hf
  · refine G.iload_n C 1 dX5_requireHue_4 rfl rfl ?_
    refine G.bipush (v := 8) C dX5_requireHue_5 (by decide) ?_
    refine G.icmp_lt (tgt := 21) C dX5_requireHue_7 (by decide) hf (fun c1 hf => ?_) (fun c1 hf => ?_)
    · cases hf
      refine G.retX rfl ?_
      exact G.vret C rfl dX5_requireHue_21
    · refine G.sub C [] (lv' := []) rfl ?_
      exact hj10  hf
theorem ko_X5_gap {h : PH} {a0 : Nat} {a1 : Int32} {a2 : Int32} {r : (Except (String × PH) (Int32 × PH))} (hf : f_X5_gap h a0 a1 a2 = some r) : kO h a0 4 := by
  unfold f_X5_gap at hf
  exact okO_k (gd_ok hf).1
theorem kd_X5_gap : yX5_gap.cls = RX5 ∧ yX5_gap.cls ≠ "java/lang/invoke/MethodHandle" ∧ yX5_gap.cls ≠ "java/lang/invoke/VarHandle" ∧ (parseMethodDescriptor yX5_gap.desc).map (fun d => d.parameters.length) = some 2 := by decide +kernel
set_option maxRecDepth 20000 in
set_option maxHeartbeats 4000000 in
theorem cx_X5_gap {l : Launch} {h : PH} {a0 : Nat} {a1 : Int32} {a2 : Int32} {r : (Except (String × PH) (Int32 × PH))} (hf : f_X5_gap h a0 a1 a2 = some r) : CX l yX5_gap cX5_gap 4 (some .int) 7 111 [.ref (a0), .int (a1), .int (a2)] h (xIW r) := by
  refine CX.of (own := RX5) rfl (by decide) (Nat.le_of_ble_eq_true rfl) ?_
  intro p e R s m args below meth c g X hR C TT tab
  subst hR
  unfold f_X5_gap at hf
  obtain ⟨hok, hf⟩ := gd_ok hf
  have hj16 : f_X5_gap_J16 h = some r → G p l e ({ frames := 7, cells := cN (xIW r), slots := cS (xIW r), locals := 111 } : Room) s m args below meth c 4 g X h 0 0 (vx_MQ below (QX g X h s.heap.size (xIW r)) (XX g X h s.heap.size (xIW r)) args s (cN (xIW r)) (cS (xIW r)) (AF X h s.heap.size)) 16 [] [] h := by
    intro hf
    unfold f_X5_gap_J16 at hf
    cases hf
    exact G.throwIA (is := 50) (text := "the gap is out of range") C TT tab rfl m9_74 m9_75 (by decide +kernel) dX5_gap_16 dX5_gap_19 dX5_gap_20 dX5_gap_22 dX5_gap_25 (Nat.le_of_ble_eq_true rfl) (Nat.le_of_ble_eq_true rfl) ⟨rfl, rfl⟩
  refine G.sub C [0, 1, 2] (lv' := [(0, .ref (a0)), (1, .int (a1)), (2, .int (a2))]) rfl ?_
  refine G.aload_n C 0 dX5_gap_0 rfl rfl ?_
  refine G.iload_n C 1 dX5_gap_1 rfl rfl ?_
  obtain ⟨r1, hr1, hf⟩ := bind_some hf
  cases r1 with
  | error E4 =>
    try dsimp only at hf
    cases hf
    exact G.callXe C TT tab (st := []) (cx_X5_requireHue hr1) rfl rfl ⟨rfl, rfl⟩ (ko_X5_requireHue hr1) rfl m9_195 m9_196 m9_197 m9_2 m9_198 kd_X5_requireHue ⟨Nat.le_of_ble_eq_true rfl, Nat.le_of_ble_eq_true rfl⟩ (Nat.le_of_ble_eq_true rfl) rfl dX5_gap_2
  | ok v2 =>
    try dsimp only at hf
    refine G.callXo C TT (st := []) (st2 := []) (cx_X5_requireHue hr1) rfl (ko_X5_requireHue hr1) rfl m9_195 m9_196 m9_197 m9_2 m9_198 kd_X5_requireHue ⟨Nat.le_of_ble_eq_true rfl, Nat.le_of_ble_eq_true rfl⟩ (Nat.le_of_ble_eq_true rfl) rfl rfl dX5_gap_2 ?_
    refine G.iload_n C 2 dX5_gap_5 rfl rfl ?_
    refine G.iconst (v := 2) C dX5_gap_6 (by decide) ?_
    refine G.icmp_lt (tgt := 16) C dX5_gap_7 (by decide) hf (fun c16 hf => ?_) (fun c16 hf => ?_)
    · refine G.sub C [] (lv' := []) rfl ?_
      exact hj16  hf
    · refine G.iload_n C 2 dX5_gap_10 rfl rfl ?_
      refine G.bipush (v := 20) C dX5_gap_11 (by decide) ?_
      refine G.icmp_le (tgt := 26) C dX5_gap_13 (by decide) hf (fun c15 hf => ?_) (fun c15 hf => ?_)
      · refine G.aload_n C 0 dX5_gap_26 rfl rfl ?_
        refine G.getR (ci := 4) (k := 0) C rfl inlX5 (by decide) m9_12 rfl hf dX5_gap_27 (fun v5 hv5 hf => ?_)
        try dsimp only at hf
        refine G.iload_n C 1 dX5_gap_30 rfl rfl ?_
        obtain ⟨v6, hv6, hf⟩ := bind_some hf
        try dsimp only at hf
        refine G.callV C (st := []) (st2 := [.int (v6)]) (ct_X3_isLaidOnSome hv6) (ko_X3_isLaidOnSome hv6) rfl m9_391 m9_113 m9_114 m9_11 m9_115 kd_X3_isLaidOnSome ⟨Nat.le_of_ble_eq_true rfl, Nat.le_of_ble_eq_true rfl⟩ ⟨Nat.zero_le _, Nat.zero_le _⟩ (Nat.le_of_ble_eq_true rfl) rfl rfl dX5_gap_31 ?_
        refine G.if_eq (tgt := 47) C dX5_gap_34 (by decide) hf (fun c14 hf => ?_) (fun c14 hf => ?_)
        · refine G.aload_n C 0 dX5_gap_47 rfl rfl ?_
          refine G.getR (ci := 4) (k := 2) C rfl inlX5 (by decide) m9_17 rfl hf dX5_gap_48 (fun v7 hv7 hf => ?_)
          try dsimp only at hf
          refine G.aload_n C 0 dX5_gap_51 rfl rfl ?_
          refine G.getR (ci := 4) (k := 0) C rfl inlX5 (by decide) m9_12 rfl hf dX5_gap_52 (fun v8 hv8 hf => ?_)
          try dsimp only at hf
          obtain ⟨h9, hh9, hf⟩ := bind_some hf
          try dsimp only at hf
          refine G.callV C (st := []) (st2 := []) (ct_X0_save hh9) (ko_X0_save hh9) rfl m9_348 m9_349 m9_350 m9_16 m9_351 kd_X0_save ⟨Nat.le_of_ble_eq_true rfl, Nat.le_of_ble_eq_true rfl⟩ ⟨Nat.zero_le _, Nat.zero_le _⟩ (Nat.le_of_ble_eq_true rfl) rfl rfl dX5_gap_55 ?_
          refine G.aload_n C 0 dX5_gap_58 rfl rfl ?_
          refine G.getR (ci := 4) (k := 0) C rfl inlX5 (by decide) m9_12 rfl hf dX5_gap_59 (fun v10 hv10 hf => ?_)
          try dsimp only at hf
          refine G.iload_n C 1 dX5_gap_62 rfl rfl ?_
          obtain ⟨v11, hv11, hf⟩ := bind_some hf
          try dsimp only at hf
          refine G.callV C (st := []) (st2 := [.int (v11)]) (ct_X3_gapAt hv11) (ko_X3_gapAt hv11) rfl m9_180 m9_181 m9_182 m9_11 m9_183 kd_X3_gapAt ⟨Nat.le_of_ble_eq_true rfl, Nat.le_of_ble_eq_true rfl⟩ ⟨Nat.zero_le _, Nat.zero_le _⟩ (Nat.le_of_ble_eq_true rfl) rfl rfl dX5_gap_63 ?_
          refine G.istore_n (lv' := [(3, .int (v11)), (0, .ref (a0)), (1, .int (a1)), (2, .int (a2))]) C dX5_gap_66 rfl (by decide) rfl ?_
          refine G.aload_n C 1 dX5_gap_67 rfl rfl ?_
          refine G.getR (ci := 4) (k := 0) C rfl inlX5 (by decide) m9_12 rfl hf dX5_gap_68 (fun v12 hv12 hf => ?_)
          try dsimp only at hf
          refine G.iload_n C 2 dX5_gap_71 rfl rfl ?_
          refine G.iload_n C 3 dX5_gap_72 rfl rfl ?_
          obtain ⟨h13, hh13, hf⟩ := bind_some hf
          try dsimp only at hf
          refine G.callV C (st := []) (st2 := []) (ct_X3_setGap hh13) (ko_X3_setGap hh13) rfl m9_392 m9_393 m9_394 m9_11 m9_395 kd_X3_setGap ⟨Nat.le_of_ble_eq_true rfl, Nat.le_of_ble_eq_true rfl⟩ ⟨Nat.zero_le _, Nat.zero_le _⟩ (Nat.le_of_ble_eq_true rfl) rfl rfl dX5_gap_73 ?_
          refine G.iload_n C 0 dX5_gap_76 rfl rfl ?_
          cases hf
          refine G.retX rfl ?_
          exact G.iret C rfl dX5_gap_77
        · cases hf
          exact G.throwIS (is := 61) (text := "the hue is laid on some rope") C TT tab rfl m9_346 m9_347 (by decide +kernel) dX5_gap_37 dX5_gap_40 dX5_gap_41 dX5_gap_43 dX5_gap_46 (Nat.le_of_ble_eq_true rfl) (Nat.le_of_ble_eq_true rfl) ⟨rfl, rfl⟩
      · refine G.sub C [] (lv' := []) rfl ?_
        exact hj16  hf
theorem ko_X5_requireLength {h : PH} {a0 : Nat} {a1 : Int32} {r : (Except String Unit)} (hf : f_X5_requireLength h a0 a1 = some r) : kO h a0 4 := by
  unfold f_X5_requireLength at hf
  exact okO_k (gd_ok hf).1
theorem kd_X5_requireLength : yX5_requireLength.cls = RX5 ∧ yX5_requireLength.cls ≠ "java/lang/invoke/MethodHandle" ∧ yX5_requireLength.cls ≠ "java/lang/invoke/VarHandle" ∧ (parseMethodDescriptor yX5_requireLength.desc).map (fun d => d.parameters.length) = some 1 := by decide +kernel
set_option maxRecDepth 20000 in
set_option maxHeartbeats 4000000 in
theorem cx_X5_requireLength {l : Launch} {h : PH} {a0 : Nat} {a1 : Int32} {r : (Except String Unit)} (hf : f_X5_requireLength h a0 a1 = some r) : CX l yX5_requireLength cX5_requireLength 2 none 6 90 [.ref (a0), .int (a1)] h (xV h r) := by
  refine CX.of (own := RX5) rfl (by decide) (Nat.le_of_ble_eq_true rfl) ?_
  intro p e R s m args below meth c g X hR C TT tab
  subst hR
  unfold f_X5_requireLength at hf
  obtain ⟨hok, hf⟩ := gd_ok hf
  have hj11 : f_X5_requireLength_J11 h = some r → G p l e ({ frames := 6, cells := cN (xV h r), slots := cS (xV h r), locals := 90 } : Room) s m args below meth c 2 g X h 0 0 (vx_MQ below (QX g X h s.heap.size (xV h r)) (XX g X h s.heap.size (xV h r)) args s (cN (xV h r)) (cS (xV h r)) (AF X h s.heap.size)) 11 [] [] h := by
    intro hf
    unfold f_X5_requireLength_J11 at hf
    cases hf
    exact G.throwIAw (is := 277) (text := "the length is out of range") C TT tab rfl m9_74 m9_75 (by decide +kernel) dX5_requireLength_11 dX5_requireLength_14 dX5_requireLength_15 dX5_requireLength_18 dX5_requireLength_21 (Nat.le_of_ble_eq_true rfl) (Nat.le_of_ble_eq_true rfl) ⟨rfl, rfl⟩
  refine G.sub C [0, 1] (lv' := [(0, .ref (a0)), (1, .int (a1))]) rfl ?_
  refine G.iload_n C 1 dX5_requireLength_0 rfl rfl ?_
  refine G.iconst (v := 1) C dX5_requireLength_1 (by decide) ?_
  refine G.icmp_lt (tgt := 11) C dX5_requireLength_2 (by decide) hf (fun c2 hf => ?_) (fun c2 hf => ?_)
  · refine G.sub C [] (lv' := []) rfl ?_
    exact hj11  hf
  · refine G.iload_n C 1 dX5_requireLength_5 rfl rfl ?_
    refine G.bipush (v := 60) C dX5_requireLength_6 (by decide) ?_
    refine G.icmp_le (tgt := 22) C dX5_requireLength_8 (by decide) hf (fun c1 hf => ?_) (fun c1 hf => ?_)
    · cases hf
      refine G.retX rfl ?_
      exact G.vret C rfl dX5_requireLength_22
    · refine G.sub C [] (lv' := []) rfl ?_
      exact hj11  hf
theorem ko_X5_requireRoomForRope {h : PH} {a0 : Nat} {r : (Except String Unit)} (hf : f_X5_requireRoomForRope h a0 = some r) : kO h a0 4 := by
  unfold f_X5_requireRoomForRope at hf
  exact okO_k (gd_ok hf).1
theorem kd_X5_requireRoomForRope : yX5_requireRoomForRope.cls = RX5 ∧ yX5_requireRoomForRope.cls ≠ "java/lang/invoke/MethodHandle" ∧ yX5_requireRoomForRope.cls ≠ "java/lang/invoke/VarHandle" ∧ (parseMethodDescriptor yX5_requireRoomForRope.desc).map (fun d => d.parameters.length) = some 0 := by decide +kernel
set_option maxRecDepth 20000 in
set_option maxHeartbeats 4000000 in
theorem cx_X5_requireRoomForRope {l : Launch} {h : PH} {a0 : Nat} {r : (Except String Unit)} (hf : f_X5_requireRoomForRope h a0 = some r) : CX l yX5_requireRoomForRope cX5_requireRoomForRope 1 none 6 90 [.ref (a0)] h (xV h r) := by
  refine CX.of (own := RX5) rfl (by decide) (Nat.le_of_ble_eq_true rfl) ?_
  intro p e R s m args below meth c g X hR C TT tab
  subst hR
  unfold f_X5_requireRoomForRope at hf
  obtain ⟨hok, hf⟩ := gd_ok hf
  refine G.sub C [0] (lv' := [(0, .ref (a0))]) rfl ?_
  refine G.aload_n C 0 dX5_requireRoomForRope_0 rfl rfl ?_
  refine G.getR (ci := 4) (k := 0) C rfl inlX5 (by decide) m9_12 rfl hf dX5_requireRoomForRope_1 (fun v1 hv1 hf => ?_)
  try dsimp only at hf
  obtain ⟨v2, hv2, hf⟩ := bind_some hf
  try dsimp only at hf
  refine G.callV C (st := []) (st2 := [.int (v2)]) (ct_X3_ropeCount hv2) (ko_X3_ropeCount hv2) rfl m9_80 m9_81 m9_82 m9_11 m9_83 kd_X3_ropeCount ⟨Nat.le_of_ble_eq_true rfl, Nat.le_of_ble_eq_true rfl⟩ ⟨Nat.zero_le _, Nat.zero_le _⟩ (Nat.le_of_ble_eq_true rfl) rfl rfl dX5_requireRoomForRope_4 ?_
  refine G.iconst (v := 4) C dX5_requireRoomForRope_7 (by decide) ?_
  refine G.icmp_lt (tgt := 22) C dX5_requireRoomForRope_8 (by decide) hf (fun c3 hf => ?_) (fun c3 hf => ?_)
  · cases hf
    refine G.retX rfl ?_
    exact G.vret C rfl dX5_requireRoomForRope_22
  · cases hf
    exact G.throwISw (is := 281) (text := "there are 4 ropes") C TT tab rfl m9_346 m9_347 (by decide +kernel) dX5_requireRoomForRope_11 dX5_requireRoomForRope_14 dX5_requireRoomForRope_15 dX5_requireRoomForRope_18 dX5_requireRoomForRope_21 (Nat.le_of_ble_eq_true rfl) (Nat.le_of_ble_eq_true rfl) ⟨rfl, rfl⟩
theorem ko_X5_rope {h : PH} {a0 : Nat} {a1 : Int32} {r : (Except (String × PH) (Int32 × PH))} (hf : f_X5_rope h a0 a1 = some r) : kO h a0 4 := by
  unfold f_X5_rope at hf
  exact okO_k (gd_ok hf).1
theorem kd_X5_rope : yX5_rope.cls = RX5 ∧ yX5_rope.cls ≠ "java/lang/invoke/MethodHandle" ∧ yX5_rope.cls ≠ "java/lang/invoke/VarHandle" ∧ (parseMethodDescriptor yX5_rope.desc).map (fun d => d.parameters.length) = some 1 := by decide +kernel
set_option maxRecDepth 20000 in
set_option maxHeartbeats 4000000 in
theorem cx_X5_rope {l : Launch} {h : PH} {a0 : Nat} {a1 : Int32} {r : (Except (String × PH) (Int32 × PH))} (hf : f_X5_rope h a0 a1 = some r) : CX l yX5_rope cX5_rope 2 (some .int) 7 111 [.ref (a0), .int (a1)] h (xIW r) := by
  refine CX.of (own := RX5) rfl (by decide) (Nat.le_of_ble_eq_true rfl) ?_
  intro p e R s m args below meth c g X hR C TT tab
  subst hR
  unfold f_X5_rope at hf
  obtain ⟨hok, hf⟩ := gd_ok hf
  refine G.sub C [0, 1] (lv' := [(0, .ref (a0)), (1, .int (a1))]) rfl ?_
  refine G.aload_n C 0 dX5_rope_0 rfl rfl ?_
  refine G.iload_n C 1 dX5_rope_1 rfl rfl ?_
  obtain ⟨r1, hr1, hf⟩ := bind_some hf
  cases r1 with
  | error E4 =>
    try dsimp only at hf
    cases hf
    exact G.callXe C TT tab (st := []) (cx_X5_requireLength hr1) rfl rfl ⟨rfl, rfl⟩ (ko_X5_requireLength hr1) rfl m9_338 m9_339 m9_340 m9_2 m9_341 kd_X5_requireLength ⟨Nat.le_of_ble_eq_true rfl, Nat.le_of_ble_eq_true rfl⟩ (Nat.le_of_ble_eq_true rfl) rfl dX5_rope_2
  | ok v2 =>
    try dsimp only at hf
    refine G.callXo C TT (st := []) (st2 := []) (cx_X5_requireLength hr1) rfl (ko_X5_requireLength hr1) rfl m9_338 m9_339 m9_340 m9_2 m9_341 kd_X5_requireLength ⟨Nat.le_of_ble_eq_true rfl, Nat.le_of_ble_eq_true rfl⟩ (Nat.le_of_ble_eq_true rfl) rfl rfl dX5_rope_2 ?_
    refine G.aload_n C 0 dX5_rope_5 rfl rfl ?_
    obtain ⟨r5, hr5, hf⟩ := bind_some hf
    cases r5 with
    | error E8 =>
      try dsimp only at hf
      cases hf
      exact G.callXe C TT tab (st := []) (cx_X5_requireRoomForRope hr5) rfl rfl ⟨rfl, rfl⟩ (ko_X5_requireRoomForRope hr5) rfl m9_342 m9_343 m9_344 m9_2 m9_345 kd_X5_requireRoomForRope ⟨Nat.le_of_ble_eq_true rfl, Nat.le_of_ble_eq_true rfl⟩ (Nat.le_of_ble_eq_true rfl) rfl dX5_rope_6
    | ok v6 =>
      try dsimp only at hf
      refine G.callXo C TT (st := []) (st2 := []) (cx_X5_requireRoomForRope hr5) rfl (ko_X5_requireRoomForRope hr5) rfl m9_342 m9_343 m9_344 m9_2 m9_345 kd_X5_requireRoomForRope ⟨Nat.le_of_ble_eq_true rfl, Nat.le_of_ble_eq_true rfl⟩ (Nat.le_of_ble_eq_true rfl) rfl rfl dX5_rope_6 ?_
      refine G.aload_n C 0 dX5_rope_9 rfl rfl ?_
      refine G.getR (ci := 4) (k := 2) C rfl inlX5 (by decide) m9_17 rfl hf dX5_rope_10 (fun v9 hv9 hf => ?_)
      try dsimp only at hf
      refine G.aload_n C 0 dX5_rope_13 rfl rfl ?_
      refine G.getR (ci := 4) (k := 0) C rfl inlX5 (by decide) m9_12 rfl hf dX5_rope_14 (fun v10 hv10 hf => ?_)
      try dsimp only at hf
      obtain ⟨h11, hh11, hf⟩ := bind_some hf
      try dsimp only at hf
      refine G.callV C (st := []) (st2 := []) (ct_X0_save hh11) (ko_X0_save hh11) rfl m9_348 m9_349 m9_350 m9_16 m9_351 kd_X0_save ⟨Nat.le_of_ble_eq_true rfl, Nat.le_of_ble_eq_true rfl⟩ ⟨Nat.zero_le _, Nat.zero_le _⟩ (Nat.le_of_ble_eq_true rfl) rfl rfl dX5_rope_17 ?_
      refine G.aload_n C 0 dX5_rope_20 rfl rfl ?_
      refine G.getR (ci := 4) (k := 0) C rfl inlX5 (by decide) m9_12 rfl hf dX5_rope_21 (fun v12 hv12 hf => ?_)
      try dsimp only at hf
      refine G.iload_n C 1 dX5_rope_24 rfl rfl ?_
      obtain ⟨⟨v13, h14⟩, hv13, hf⟩ := bind_some hf
      try dsimp only at hf
      refine G.callV C (st := []) (st2 := [va_rf (v13)]) (ct_X3_addRope hv13) (ko_X3_addRope hv13) rfl m9_361 m9_362 m9_363 m9_11 m9_364 kd_X3_addRope ⟨Nat.le_of_ble_eq_true rfl, Nat.le_of_ble_eq_true rfl⟩ ⟨Nat.zero_le _, Nat.zero_le _⟩ (Nat.le_of_ble_eq_true rfl) rfl rfl dX5_rope_25 ?_
      refine G.pop C dX5_rope_28 (by cases v13 <;> rfl) ?_
      refine G.aload_n C 0 dX5_rope_29 rfl rfl ?_
      refine G.getR (ci := 4) (k := 0) C rfl inlX5 (by decide) m9_12 rfl hf dX5_rope_30 (fun v16 hv16 hf => ?_)
      try dsimp only at hf
      obtain ⟨v17, hv17, hf⟩ := bind_some hf
      try dsimp only at hf
      refine G.callV C (st := []) (st2 := [.int (v17)]) (ct_X3_ropeCount hv17) (ko_X3_ropeCount hv17) rfl m9_80 m9_81 m9_82 m9_11 m9_83 kd_X3_ropeCount ⟨Nat.le_of_ble_eq_true rfl, Nat.le_of_ble_eq_true rfl⟩ ⟨Nat.zero_le _, Nat.zero_le _⟩ (Nat.le_of_ble_eq_true rfl) rfl rfl dX5_rope_33 ?_
      refine G.iconst (v := 1) C dX5_rope_36 (by decide) ?_
      refine G.isub C dX5_rope_37 ?_
      cases hf
      refine G.retX rfl ?_
      exact G.iret C rfl dX5_rope_38
theorem ko_X5_existing {h : PH} {a0 : Nat} {a1 : Int32} {r : (Except String Nat)} (hf : f_X5_existing h a0 a1 = some r) : kO h a0 4 := by
  unfold f_X5_existing at hf
  exact okO_k (gd_ok hf).1
theorem kd_X5_existing : yX5_existing.cls = RX5 ∧ yX5_existing.cls ≠ "java/lang/invoke/MethodHandle" ∧ yX5_existing.cls ≠ "java/lang/invoke/VarHandle" ∧ (parseMethodDescriptor yX5_existing.desc).map (fun d => d.parameters.length) = some 1 := by decide +kernel
set_option maxRecDepth 20000 in
set_option maxHeartbeats 4000000 in
theorem cx_X5_existing {l : Launch} {h : PH} {a0 : Nat} {a1 : Int32} {r : (Except String Nat)} (hf : f_X5_existing h a0 a1 = some r) : CX l yX5_existing cX5_existing 3 (some (.object "PennantRopes$Rope")) 6 90 [.ref (a0), .int (a1)] h (xA h r) := by
  refine CX.of (own := RX5) rfl (by decide) (Nat.le_of_ble_eq_true rfl) ?_
  intro p e R s m args below meth c g X hR C TT tab
  subst hR
  unfold f_X5_existing at hf
  obtain ⟨hok, hf⟩ := gd_ok hf
  refine G.sub C [0, 1] (lv' := [(0, .ref (a0)), (1, .int (a1))]) rfl ?_
  refine G.aload_n C 0 dX5_existing_0 rfl rfl ?_
  refine G.getR (ci := 4) (k := 0) C rfl inlX5 (by decide) m9_12 rfl hf dX5_existing_1 (fun v1 hv1 hf => ?_)
  try dsimp only at hf
  refine G.iload_n C 1 dX5_existing_4 rfl rfl ?_
  obtain ⟨v2, hv2, hf⟩ := bind_some hf
  try dsimp only at hf
  refine G.callV C (st := []) (st2 := [va_rf (v2)]) (ct_X3_ropeAt hv2) (ko_X3_ropeAt hv2) rfl m9_149 m9_89 m9_90 m9_11 m9_91 kd_X3_ropeAt ⟨Nat.le_of_ble_eq_true rfl, Nat.le_of_ble_eq_true rfl⟩ ⟨Nat.zero_le _, Nat.zero_le _⟩ (Nat.le_of_ble_eq_true rfl) rfl rfl dX5_existing_5 ?_
  refine G.qstore_n (lv' := [(2, va_rf (v2)), (0, .ref (a0)), (1, .int (a1))]) C dX5_existing_8 rfl (by decide) rfl ?_
  refine G.qload_n C 0 dX5_existing_9 rfl rfl ?_
  refine G.ifnonnull (tgt := 24) C dX5_existing_10 (by decide) (fun a3 e4 => ?_) (fun e4 => ?_)
  · subst e4
    try dsimp only at hf
    refine G.aload_n C 0 dX5_existing_24 rfl rfl ?_
    cases hf
    refine G.retX rfl ?_
    exact G.aret (v := some (a3)) C rfl (Or.inl ⟨_, rfl⟩) dX5_existing_25
  · subst e4
    try dsimp only at hf
    cases hf
    exact G.throwIOw (is := 271) (text := "there is no such rope") C TT tab rfl m9_147 m9_148 (by decide +kernel) dX5_existing_13 dX5_existing_16 dX5_existing_17 dX5_existing_20 dX5_existing_23 (Nat.le_of_ble_eq_true rfl) (Nat.le_of_ble_eq_true rfl) ⟨rfl, rfl⟩
theorem ko_X5_drop {h : PH} {a0 : Nat} {a1 : Int32} {r : (Except (String × PH) (Int32 × PH))} (hf : f_X5_drop h a0 a1 = some r) : kO h a0 4 := by
  unfold f_X5_drop at hf
  exact okO_k (gd_ok hf).1
theorem kd_X5_drop : yX5_drop.cls = RX5 ∧ yX5_drop.cls ≠ "java/lang/invoke/MethodHandle" ∧ yX5_drop.cls ≠ "java/lang/invoke/VarHandle" ∧ (parseMethodDescriptor yX5_drop.desc).map (fun d => d.parameters.length) = some 1 := by decide +kernel
set_option maxRecDepth 20000 in
set_option maxHeartbeats 4000000 in
theorem cx_X5_drop {l : Launch} {h : PH} {a0 : Nat} {a1 : Int32} {r : (Except (String × PH) (Int32 × PH))} (hf : f_X5_drop h a0 a1 = some r) : CX l yX5_drop cX5_drop 2 (some .int) 7 112 [.ref (a0), .int (a1)] h (xIW r) := by
  refine CX.of (own := RX5) rfl (by decide) (Nat.le_of_ble_eq_true rfl) ?_
  intro p e R s m args below meth c g X hR C TT tab
  subst hR
  unfold f_X5_drop at hf
  obtain ⟨hok, hf⟩ := gd_ok hf
  refine G.sub C [0, 1] (lv' := [(0, .ref (a0)), (1, .int (a1))]) rfl ?_
  refine G.aload_n C 0 dX5_drop_0 rfl rfl ?_
  refine G.iload_n C 1 dX5_drop_1 rfl rfl ?_
  obtain ⟨r1, hr1, hf⟩ := bind_some hf
  cases r1 with
  | error E4 =>
    try dsimp only at hf
    cases hf
    exact G.callXe C TT tab (st := []) (cx_X5_existing hr1) rfl rfl ⟨rfl, rfl⟩ (ko_X5_existing hr1) rfl m9_143 m9_144 m9_145 m9_2 m9_146 kd_X5_existing ⟨Nat.le_of_ble_eq_true rfl, Nat.le_of_ble_eq_true rfl⟩ (Nat.le_of_ble_eq_true rfl) rfl dX5_drop_2
  | ok v2 =>
    try dsimp only at hf
    refine G.callXo C TT (st := []) (st2 := [.ref (v2)]) (cx_X5_existing hr1) rfl (ko_X5_existing hr1) rfl m9_143 m9_144 m9_145 m9_2 m9_146 kd_X5_existing ⟨Nat.le_of_ble_eq_true rfl, Nat.le_of_ble_eq_true rfl⟩ (Nat.le_of_ble_eq_true rfl) rfl rfl dX5_drop_2 ?_
    refine G.pop C dX5_drop_5 rfl ?_
    refine G.aload_n C 0 dX5_drop_6 rfl rfl ?_
    refine G.getR (ci := 4) (k := 2) C rfl inlX5 (by decide) m9_17 rfl hf dX5_drop_7 (fun v5 hv5 hf => ?_)
    try dsimp only at hf
    refine G.aload_n C 0 dX5_drop_10 rfl rfl ?_
    refine G.getR (ci := 4) (k := 0) C rfl inlX5 (by decide) m9_12 rfl hf dX5_drop_11 (fun v6 hv6 hf => ?_)
    try dsimp only at hf
    obtain ⟨h7, hh7, hf⟩ := bind_some hf
    try dsimp only at hf
    refine G.callV C (st := []) (st2 := []) (ct_X0_save hh7) (ko_X0_save hh7) rfl m9_348 m9_349 m9_350 m9_16 m9_351 kd_X0_save ⟨Nat.le_of_ble_eq_true rfl, Nat.le_of_ble_eq_true rfl⟩ ⟨Nat.zero_le _, Nat.zero_le _⟩ (Nat.le_of_ble_eq_true rfl) rfl rfl dX5_drop_14 ?_
    refine G.aload_n C 0 dX5_drop_17 rfl rfl ?_
    refine G.getR (ci := 4) (k := 0) C rfl inlX5 (by decide) m9_12 rfl hf dX5_drop_18 (fun v8 hv8 hf => ?_)
    try dsimp only at hf
    refine G.iload_n C 1 dX5_drop_21 rfl rfl ?_
    obtain ⟨h9, hh9, hf⟩ := bind_some hf
    try dsimp only at hf
    refine G.callV C (st := []) (st2 := []) (ct_X3_removeRope hh9) (ko_X3_removeRope hh9) rfl m9_427 m9_428 m9_429 m9_11 m9_430 kd_X3_removeRope ⟨Nat.le_of_ble_eq_true rfl, Nat.le_of_ble_eq_true rfl⟩ ⟨Nat.zero_le _, Nat.zero_le _⟩ (Nat.le_of_ble_eq_true rfl) rfl rfl dX5_drop_22 ?_
    refine G.aload_n C 0 dX5_drop_25 rfl rfl ?_
    refine G.getR (ci := 4) (k := 0) C rfl inlX5 (by decide) m9_12 rfl hf dX5_drop_26 (fun v10 hv10 hf => ?_)
    try dsimp only at hf
    obtain ⟨v11, hv11, hf⟩ := bind_some hf
    try dsimp only at hf
    refine G.callV C (st := []) (st2 := [.int (v11)]) (ct_X3_ropeCount hv11) (ko_X3_ropeCount hv11) rfl m9_80 m9_81 m9_82 m9_11 m9_83 kd_X3_ropeCount ⟨Nat.le_of_ble_eq_true rfl, Nat.le_of_ble_eq_true rfl⟩ ⟨Nat.zero_le _, Nat.zero_le _⟩ (Nat.le_of_ble_eq_true rfl) rfl rfl dX5_drop_29 ?_
    cases hf
    refine G.retX rfl ?_
    exact G.iret C rfl dX5_drop_32
theorem ko_X5_requirePhase {h : PH} {a0 : Nat} {a1 : Int32} {a2 : Int32} {r : (Except String Unit)} (hf : f_X5_requirePhase h a0 a1 a2 = some r) : kO h a0 4 := by
  unfold f_X5_requirePhase at hf
  exact okO_k (gd_ok hf).1
theorem kd_X5_requirePhase : yX5_requirePhase.cls = RX5 ∧ yX5_requirePhase.cls ≠ "java/lang/invoke/MethodHandle" ∧ yX5_requirePhase.cls ≠ "java/lang/invoke/VarHandle" ∧ (parseMethodDescriptor yX5_requirePhase.desc).map (fun d => d.parameters.length) = some 2 := by decide +kernel
set_option maxRecDepth 20000 in
set_option maxHeartbeats 4000000 in
theorem cx_X5_requirePhase {l : Launch} {h : PH} {a0 : Nat} {a1 : Int32} {a2 : Int32} {r : (Except String Unit)} (hf : f_X5_requirePhase h a0 a1 a2 = some r) : CX l yX5_requirePhase cX5_requirePhase 3 none 6 90 [.ref (a0), .int (a1), .int (a2)] h (xV h r) := by
  refine CX.of (own := RX5) rfl (by decide) (Nat.le_of_ble_eq_true rfl) ?_
  intro p e R s m args below meth c g X hR C TT tab
  subst hR
  unfold f_X5_requirePhase at hf
  obtain ⟨hok, hf⟩ := gd_ok hf
  have hj16 : f_X5_requirePhase_J16 h = some r → G p l e ({ frames := 6, cells := cN (xV h r), slots := cS (xV h r), locals := 90 } : Room) s m args below meth c 3 g X h 0 0 (vx_MQ below (QX g X h s.heap.size (xV h r)) (XX g X h s.heap.size (xV h r)) args s (cN (xV h r)) (cS (xV h r)) (AF X h s.heap.size)) 16 [] [] h := by
    intro hf
    unfold f_X5_requirePhase_J16 at hf
    cases hf
    exact G.throwIAw (is := 275) (text := "the phase is out of range") C TT tab rfl m9_74 m9_75 (by decide +kernel) dX5_requirePhase_16 dX5_requirePhase_19 dX5_requirePhase_20 dX5_requirePhase_23 dX5_requirePhase_26 (Nat.le_of_ble_eq_true rfl) (Nat.le_of_ble_eq_true rfl) ⟨rfl, rfl⟩
  refine G.sub C [0, 1, 2] (lv' := [(0, .ref (a0)), (1, .int (a1)), (2, .int (a2))]) rfl ?_
  refine G.iload_n C 2 dX5_requirePhase_0 rfl rfl ?_
  refine G.if_lt (tgt := 16) C dX5_requirePhase_1 (by decide) hf (fun c4 hf => ?_) (fun c4 hf => ?_)
  · refine G.sub C [] (lv' := []) rfl ?_
    exact hj16  hf
  · refine G.iload_n C 2 dX5_requirePhase_4 rfl rfl ?_
    refine G.aload_n C 0 dX5_requirePhase_5 rfl rfl ?_
    refine G.getR (ci := 4) (k := 0) C rfl inlX5 (by decide) m9_12 rfl hf dX5_requirePhase_6 (fun v1 hv1 hf => ?_)
    try dsimp only at hf
    refine G.iload_n C 1 dX5_requirePhase_9 rfl rfl ?_
    obtain ⟨v2, hv2, hf⟩ := bind_some hf
    try dsimp only at hf
    refine G.callV C (st := [.int (a2)]) (st2 := [.int (v2), .int (a2)]) (ct_X3_gapAt hv2) (ko_X3_gapAt hv2) rfl m9_180 m9_181 m9_182 m9_11 m9_183 kd_X3_gapAt ⟨Nat.le_of_ble_eq_true rfl, Nat.le_of_ble_eq_true rfl⟩ ⟨Nat.zero_le _, Nat.zero_le _⟩ (Nat.le_of_ble_eq_true rfl) rfl rfl dX5_requirePhase_10 ?_
    refine G.icmp_lt (tgt := 27) C dX5_requirePhase_13 (by decide) hf (fun c3 hf => ?_) (fun c3 hf => ?_)
    · cases hf
      refine G.retX rfl ?_
      exact G.vret C rfl dX5_requirePhase_27
    · refine G.sub C [] (lv' := []) rfl ?_
      exact hj16  hf
theorem ko_X5_lay {h : PH} {a0 : Nat} {a1 : Int32} {a2 : Int32} {a3 : Int32} {r : (Except (String × PH) (Int32 × PH))} (hf : f_X5_lay h a0 a1 a2 a3 = some r) : kO h a0 4 := by
  unfold f_X5_lay at hf
  exact okO_k (gd_ok hf).1
theorem kd_X5_lay : yX5_lay.cls = RX5 ∧ yX5_lay.cls ≠ "java/lang/invoke/MethodHandle" ∧ yX5_lay.cls ≠ "java/lang/invoke/VarHandle" ∧ (parseMethodDescriptor yX5_lay.desc).map (fun d => d.parameters.length) = some 3 := by decide +kernel
set_option maxRecDepth 20000 in
set_option maxHeartbeats 4000000 in
theorem cx_X5_lay {l : Launch} {h : PH} {a0 : Nat} {a1 : Int32} {a2 : Int32} {a3 : Int32} {r : (Except (String × PH) (Int32 × PH))} (hf : f_X5_lay h a0 a1 a2 a3 = some r) : CX l yX5_lay cX5_lay 5 (some .int) 7 112 [.ref (a0), .int (a1), .int (a2), .int (a3)] h (xIW r) := by
  refine CX.of (own := RX5) rfl (by decide) (Nat.le_of_ble_eq_true rfl) ?_
  intro p e R s m args below meth c g X hR C TT tab
  subst hR
  unfold f_X5_lay at hf
  obtain ⟨hok, hf⟩ := gd_ok hf
  refine G.sub C [0, 1, 2, 3] (lv' := [(0, .ref (a0)), (1, .int (a1)), (2, .int (a2)), (3, .int (a3))]) rfl ?_
  refine G.aload_n C 0 dX5_lay_0 rfl rfl ?_
  refine G.iload_n C 1 dX5_lay_1 rfl rfl ?_
  obtain ⟨r1, hr1, hf⟩ := bind_some hf
  cases r1 with
  | error E4 =>
    try dsimp only at hf
    cases hf
    exact G.callXe C TT tab (st := []) (cx_X5_existing hr1) rfl rfl ⟨rfl, rfl⟩ (ko_X5_existing hr1) rfl m9_143 m9_144 m9_145 m9_2 m9_146 kd_X5_existing ⟨Nat.le_of_ble_eq_true rfl, Nat.le_of_ble_eq_true rfl⟩ (Nat.le_of_ble_eq_true rfl) rfl dX5_lay_2
  | ok v2 =>
    try dsimp only at hf
    refine G.callXo C TT (st := []) (st2 := [.ref (v2)]) (cx_X5_existing hr1) rfl (ko_X5_existing hr1) rfl m9_143 m9_144 m9_145 m9_2 m9_146 kd_X5_existing ⟨Nat.le_of_ble_eq_true rfl, Nat.le_of_ble_eq_true rfl⟩ (Nat.le_of_ble_eq_true rfl) rfl rfl dX5_lay_2 ?_
    refine G.astore (lv' := [(4, .ref (v2)), (0, .ref (a0)), (1, .int (a1)), (2, .int (a2)), (3, .int (a3))]) C dX5_lay_5 (by decide) rfl ?_
    refine G.aload_n C 1 dX5_lay_7 rfl rfl ?_
    refine G.iload_n C 3 dX5_lay_8 rfl rfl ?_
    obtain ⟨r5, hr5, hf⟩ := bind_some hf
    cases r5 with
    | error E8 =>
      try dsimp only at hf
      cases hf
      exact G.callXe C TT tab (st := []) (cx_X5_requireHue hr5) rfl rfl ⟨rfl, rfl⟩ (ko_X5_requireHue hr5) rfl m9_195 m9_196 m9_197 m9_2 m9_198 kd_X5_requireHue ⟨Nat.le_of_ble_eq_true rfl, Nat.le_of_ble_eq_true rfl⟩ (Nat.le_of_ble_eq_true rfl) rfl dX5_lay_9
    | ok v6 =>
      try dsimp only at hf
      refine G.callXo C TT (st := []) (st2 := []) (cx_X5_requireHue hr5) rfl (ko_X5_requireHue hr5) rfl m9_195 m9_196 m9_197 m9_2 m9_198 kd_X5_requireHue ⟨Nat.le_of_ble_eq_true rfl, Nat.le_of_ble_eq_true rfl⟩ (Nat.le_of_ble_eq_true rfl) rfl rfl dX5_lay_9 ?_
      refine G.aload_n C 1 dX5_lay_12 rfl rfl ?_
      refine G.iload_n C 3 dX5_lay_13 rfl rfl ?_
      refine G.iload_n C 4 dX5_lay_14 rfl rfl ?_
      obtain ⟨r9, hr9, hf⟩ := bind_some hf
      cases r9 with
      | error E12 =>
        try dsimp only at hf
        cases hf
        exact G.callXe C TT tab (st := []) (cx_X5_requirePhase hr9) rfl rfl ⟨rfl, rfl⟩ (ko_X5_requirePhase hr9) rfl m9_254 m9_255 m9_256 m9_2 m9_257 kd_X5_requirePhase ⟨Nat.le_of_ble_eq_true rfl, Nat.le_of_ble_eq_true rfl⟩ (Nat.le_of_ble_eq_true rfl) rfl dX5_lay_15
      | ok v10 =>
        try dsimp only at hf
        refine G.callXo C TT (st := []) (st2 := []) (cx_X5_requirePhase hr9) rfl (ko_X5_requirePhase hr9) rfl m9_254 m9_255 m9_256 m9_2 m9_257 kd_X5_requirePhase ⟨Nat.le_of_ble_eq_true rfl, Nat.le_of_ble_eq_true rfl⟩ (Nat.le_of_ble_eq_true rfl) rfl rfl dX5_lay_15 ?_
        refine G.aload C 0 dX5_lay_18 rfl ?_
        refine G.iload_n C 3 dX5_lay_20 rfl rfl ?_
        refine G.iload_n C 4 dX5_lay_21 rfl rfl ?_
        refine G.aload_n C 1 dX5_lay_22 rfl rfl ?_
        refine G.getR (ci := 4) (k := 0) C rfl inlX5 (by decide) m9_12 rfl hf dX5_lay_23 (fun v13 hv13 hf => ?_)
        try dsimp only at hf
        refine G.iload_n C 3 dX5_lay_26 rfl rfl ?_
        obtain ⟨v14, hv14, hf⟩ := bind_some hf
        try dsimp only at hf
        refine G.callV C (st := [.int (a3), .int (a2), .ref (v2)]) (st2 := [.int (v14), .int (a3), .int (a2), .ref (v2)]) (ct_X3_gapAt hv14) (ko_X3_gapAt hv14) rfl m9_180 m9_181 m9_182 m9_11 m9_183 kd_X3_gapAt ⟨Nat.le_of_ble_eq_true rfl, Nat.le_of_ble_eq_true rfl⟩ ⟨Nat.zero_le _, Nat.zero_le _⟩ (Nat.le_of_ble_eq_true rfl) rfl rfl dX5_lay_27 ?_
        obtain ⟨v15, hv15, hf⟩ := bind_some hf
        try dsimp only at hf
        refine G.callV C (st := []) (st2 := [.int (v15)]) (ct_X2_reasonAgainst hv15) (ko_X2_reasonAgainst hv15) rfl m9_258 m9_232 m9_233 m9_24 m9_234 kd_X2_reasonAgainst ⟨Nat.le_of_ble_eq_true rfl, Nat.le_of_ble_eq_true rfl⟩ ⟨Nat.zero_le _, Nat.zero_le _⟩ (Nat.le_of_ble_eq_true rfl) rfl rfl dX5_lay_30 ?_
        refine G.if_eq (tgt := 46) C dX5_lay_33 (by decide) hf (fun c23 hf => ?_) (fun c23 hf => ?_)
        · refine G.aload_n C 1 dX5_lay_46 rfl rfl ?_
          refine G.getR (ci := 4) (k := 2) C rfl inlX5 (by decide) m9_17 rfl hf dX5_lay_47 (fun v16 hv16 hf => ?_)
          try dsimp only at hf
          refine G.aload_n C 1 dX5_lay_50 rfl rfl ?_
          refine G.getR (ci := 4) (k := 0) C rfl inlX5 (by decide) m9_12 rfl hf dX5_lay_51 (fun v17 hv17 hf => ?_)
          try dsimp only at hf
          obtain ⟨h18, hh18, hf⟩ := bind_some hf
          try dsimp only at hf
          refine G.callV C (st := []) (st2 := []) (ct_X0_save hh18) (ko_X0_save hh18) rfl m9_348 m9_349 m9_350 m9_16 m9_351 kd_X0_save ⟨Nat.le_of_ble_eq_true rfl, Nat.le_of_ble_eq_true rfl⟩ ⟨Nat.zero_le _, Nat.zero_le _⟩ (Nat.le_of_ble_eq_true rfl) rfl rfl dX5_lay_54 ?_
          refine G.aload_n C 1 dX5_lay_57 rfl rfl ?_
          refine G.getR (ci := 4) (k := 0) C rfl inlX5 (by decide) m9_12 rfl hf dX5_lay_58 (fun v19 hv19 hf => ?_)
          try dsimp only at hf
          refine G.aload C 0 dX5_lay_61 rfl ?_
          refine G.iload_n C 3 dX5_lay_63 rfl rfl ?_
          refine G.iload_n C 4 dX5_lay_64 rfl rfl ?_
          obtain ⟨⟨v20, h21⟩, hv20, hf⟩ := bind_some hf
          try dsimp only at hf
          refine G.callV C (st := []) (st2 := [.int (v20)]) (ct_X3_layOn hv20) (ko_X3_layOn hv20) rfl m9_373 m9_374 m9_375 m9_11 m9_376 kd_X3_layOn ⟨Nat.le_of_ble_eq_true rfl, Nat.le_of_ble_eq_true rfl⟩ ⟨Nat.zero_le _, Nat.zero_le _⟩ (Nat.le_of_ble_eq_true rfl) rfl rfl dX5_lay_65 ?_
          cases hf
          refine G.retX rfl ?_
          exact G.iret C rfl dX5_lay_68
        · cases hf
          exact G.throwIS (is := 103) (text := "the hue cannot be laid") C TT tab rfl m9_346 m9_347 (by decide +kernel) dX5_lay_36 dX5_lay_39 dX5_lay_40 dX5_lay_42 dX5_lay_45 (Nat.le_of_ble_eq_true rfl) (Nat.le_of_ble_eq_true rfl) ⟨rfl, rfl⟩
theorem ko_X5_take {h : PH} {a0 : Nat} {a1 : Int32} {a2 : Int32} {r : (Except (String × PH) (Int32 × PH))} (hf : f_X5_take h a0 a1 a2 = some r) : kO h a0 4 := by
  unfold f_X5_take at hf
  exact okO_k (gd_ok hf).1
theorem kd_X5_take : yX5_take.cls = RX5 ∧ yX5_take.cls ≠ "java/lang/invoke/MethodHandle" ∧ yX5_take.cls ≠ "java/lang/invoke/VarHandle" ∧ (parseMethodDescriptor yX5_take.desc).map (fun d => d.parameters.length) = some 2 := by decide +kernel
set_option maxRecDepth 20000 in
set_option maxHeartbeats 4000000 in
theorem cx_X5_take {l : Launch} {h : PH} {a0 : Nat} {a1 : Int32} {a2 : Int32} {r : (Except (String × PH) (Int32 × PH))} (hf : f_X5_take h a0 a1 a2 = some r) : CX l yX5_take cX5_take 4 (some .int) 7 112 [.ref (a0), .int (a1), .int (a2)] h (xIW r) := by
  refine CX.of (own := RX5) rfl (by decide) (Nat.le_of_ble_eq_true rfl) ?_
  intro p e R s m args below meth c g X hR C TT tab
  subst hR
  unfold f_X5_take at hf
  obtain ⟨hok, hf⟩ := gd_ok hf
  refine G.sub C [0, 1, 2] (lv' := [(0, .ref (a0)), (1, .int (a1)), (2, .int (a2))]) rfl ?_
  refine G.aload_n C 0 dX5_take_0 rfl rfl ?_
  refine G.iload_n C 1 dX5_take_1 rfl rfl ?_
  obtain ⟨r1, hr1, hf⟩ := bind_some hf
  cases r1 with
  | error E4 =>
    try dsimp only at hf
    cases hf
    exact G.callXe C TT tab (st := []) (cx_X5_existing hr1) rfl rfl ⟨rfl, rfl⟩ (ko_X5_existing hr1) rfl m9_143 m9_144 m9_145 m9_2 m9_146 kd_X5_existing ⟨Nat.le_of_ble_eq_true rfl, Nat.le_of_ble_eq_true rfl⟩ (Nat.le_of_ble_eq_true rfl) rfl dX5_take_2
  | ok v2 =>
    try dsimp only at hf
    refine G.callXo C TT (st := []) (st2 := [.ref (v2)]) (cx_X5_existing hr1) rfl (ko_X5_existing hr1) rfl m9_143 m9_144 m9_145 m9_2 m9_146 kd_X5_existing ⟨Nat.le_of_ble_eq_true rfl, Nat.le_of_ble_eq_true rfl⟩ (Nat.le_of_ble_eq_true rfl) rfl rfl dX5_take_2 ?_
    refine G.astore_n (lv' := [(3, .ref (v2)), (0, .ref (a0)), (1, .int (a1)), (2, .int (a2))]) C dX5_take_5 rfl (by decide) rfl ?_
    refine G.aload_n C 1 dX5_take_6 rfl rfl ?_
    refine G.iload_n C 3 dX5_take_7 rfl rfl ?_
    obtain ⟨r5, hr5, hf⟩ := bind_some hf
    cases r5 with
    | error E8 =>
      try dsimp only at hf
      cases hf
      exact G.callXe C TT tab (st := []) (cx_X5_requireHue hr5) rfl rfl ⟨rfl, rfl⟩ (ko_X5_requireHue hr5) rfl m9_195 m9_196 m9_197 m9_2 m9_198 kd_X5_requireHue ⟨Nat.le_of_ble_eq_true rfl, Nat.le_of_ble_eq_true rfl⟩ (Nat.le_of_ble_eq_true rfl) rfl dX5_take_8
    | ok v6 =>
      try dsimp only at hf
      refine G.callXo C TT (st := []) (st2 := []) (cx_X5_requireHue hr5) rfl (ko_X5_requireHue hr5) rfl m9_195 m9_196 m9_197 m9_2 m9_198 kd_X5_requireHue ⟨Nat.le_of_ble_eq_true rfl, Nat.le_of_ble_eq_true rfl⟩ (Nat.le_of_ble_eq_true rfl) rfl rfl dX5_take_8 ?_
      refine G.aload_n C 0 dX5_take_11 rfl rfl ?_
      refine G.iload_n C 3 dX5_take_12 rfl rfl ?_
      obtain ⟨v9, hv9, hf⟩ := bind_some hf
      try dsimp only at hf
      refine G.callV C (st := []) (st2 := [.int (v9)]) (ct_X2_orderOf hv9) (ko_X2_orderOf hv9) rfl m9_283 m9_117 m9_118 m9_24 m9_119 kd_X2_orderOf ⟨Nat.le_of_ble_eq_true rfl, Nat.le_of_ble_eq_true rfl⟩ ⟨Nat.zero_le _, Nat.zero_le _⟩ (Nat.le_of_ble_eq_true rfl) rfl rfl dX5_take_13 ?_
      refine G.iconst (v := (-1)) C dX5_take_16 (by decide) ?_
      refine G.icmp_ne (tgt := 30) C dX5_take_17 (by decide) hf (fun c16 hf => ?_) (fun c16 hf => ?_)
      · refine G.aload_n C 1 dX5_take_30 rfl rfl ?_
        refine G.getR (ci := 4) (k := 2) C rfl inlX5 (by decide) m9_17 rfl hf dX5_take_31 (fun v10 hv10 hf => ?_)
        try dsimp only at hf
        refine G.aload_n C 1 dX5_take_34 rfl rfl ?_
        refine G.getR (ci := 4) (k := 0) C rfl inlX5 (by decide) m9_12 rfl hf dX5_take_35 (fun v11 hv11 hf => ?_)
        try dsimp only at hf
        obtain ⟨h12, hh12, hf⟩ := bind_some hf
        try dsimp only at hf
        refine G.callV C (st := []) (st2 := []) (ct_X0_save hh12) (ko_X0_save hh12) rfl m9_348 m9_349 m9_350 m9_16 m9_351 kd_X0_save ⟨Nat.le_of_ble_eq_true rfl, Nat.le_of_ble_eq_true rfl⟩ ⟨Nat.zero_le _, Nat.zero_le _⟩ (Nat.le_of_ble_eq_true rfl) rfl rfl dX5_take_38 ?_
        refine G.aload_n C 0 dX5_take_41 rfl rfl ?_
        refine G.iload_n C 3 dX5_take_42 rfl rfl ?_
        obtain ⟨⟨v13, h14⟩, hv13, hf⟩ := bind_some hf
        try dsimp only at hf
        refine G.callV C (st := []) (st2 := [.int (v13)]) (ct_X2_remove hv13) (ko_X2_remove hv13) rfl m9_383 m9_384 m9_385 m9_24 m9_386 kd_X2_remove ⟨Nat.le_of_ble_eq_true rfl, Nat.le_of_ble_eq_true rfl⟩ ⟨Nat.zero_le _, Nat.zero_le _⟩ (Nat.le_of_ble_eq_true rfl) rfl rfl dX5_take_43 ?_
        cases hf
        refine G.retX rfl ?_
        exact G.iret C rfl dX5_take_46
      · cases hf
        exact G.throwIS (is := 112) (text := "the hue is not laid there") C TT tab rfl m9_346 m9_347 (by decide +kernel) dX5_take_20 dX5_take_23 dX5_take_24 dX5_take_26 dX5_take_29 (Nat.le_of_ble_eq_true rfl) (Nat.le_of_ble_eq_true rfl) ⟨rfl, rfl⟩
theorem ko_X5_huesDueAt {h : PH} {a0 : Nat} {a1 : Nat} {a2 : Int32} {r : Int32} (hf : f_X5_huesDueAt h a0 a1 a2 = some r) : kO h a0 4 := by
  unfold f_X5_huesDueAt at hf
  exact okO_k (gd_ok hf).1
theorem kd_X5_huesDueAt : yX5_huesDueAt.cls = RX5 ∧ yX5_huesDueAt.cls ≠ "java/lang/invoke/MethodHandle" ∧ yX5_huesDueAt.cls ≠ "java/lang/invoke/VarHandle" ∧ (parseMethodDescriptor yX5_huesDueAt.desc).map (fun d => d.parameters.length) = some 2 := by decide +kernel
set_option maxRecDepth 20000 in
set_option maxHeartbeats 4000000 in
theorem ct_X5_huesDueAt {l : Launch} {h : PH} {a0 : Nat} {a1 : Nat} {a2 : Int32} {r : Int32} (hf : f_X5_huesDueAt h a0 a1 a2 = some r) : CT l yX5_huesDueAt cX5_huesDueAt 6 (some .int) 2 44 [.ref (a0), .ref (a1), .int (a2)] h (some (.int r)) h := by
  refine CT.of (own := RX5) rfl (by decide) (Nat.le_of_ble_eq_true rfl) ?_
  intro p e R s m args below meth c g X hR C
  subst hR
  unfold f_X5_huesDueAt at hf
  obtain ⟨hok, hf⟩ := gd_ok hf
  have hj55 : ∀ (x3 : Int32), f_X5_huesDueAt_J55 h (x3) = some r → G p l e ({ frames := 2, cells := 0, slots := 0, locals := 44 } : Room) s m args below meth c 6 g X h 0 0 (MQ below (QW g X h s.heap.size (some (.int r)) h) args s 0 0 (AF X h s.heap.size)) 55 [(3, .int (x3))] [] h := by
    intro x3 hf
    unfold f_X5_huesDueAt_J55 at hf
    refine G.iload_n C 0 dX5_huesDueAt_55 rfl rfl ?_
    cases hf
    exact G.iret C rfl dX5_huesDueAt_56
  refine G.sub C [0, 1, 2] (lv' := [(0, .ref (a0)), (1, .ref (a1)), (2, .int (a2))]) rfl ?_
  refine G.iconst (v := 0) C dX5_huesDueAt_0 (by decide) ?_
  refine G.istore_n (lv' := [(3, .int ((0 : Int32))), (0, .ref (a0)), (1, .ref (a1)), (2, .int (a2))]) C dX5_huesDueAt_1 rfl (by decide) rfl ?_
  refine G.iconst (v := 0) C dX5_huesDueAt_2 (by decide) ?_
  refine G.istore (lv' := [(4, .int ((0 : Int32))), (3, .int ((0 : Int32))), (0, .ref (a0)), (1, .ref (a1)), (2, .int (a2))]) C dX5_huesDueAt_3 (by decide) rfl ?_
  obtain ⟨z1, hlp1, hfo1⟩ := bind_some hf
  clear hf
  have hloop1 : ∀ (k : Nat), ∀ (x3 : Int32) (x4 : Int32), (lpn (f_X5_huesDueAt_L5 (h) (a0) (a1) (a2)) k (x3, x4)) = some z1 → G p l e ({ frames := 2, cells := 0, slots := 0, locals := 44 } : Room) s m args below meth c 6 g X h 0 0 (MQ below (QW g X h s.heap.size (some (.int r)) h) args s 0 0 (AF X h s.heap.size)) 5 [(0, .ref (a0)), (1, .ref (a1)), (2, .int (a2)), (3, .int (x3)), (4, .int (x4))] [] h := by
    intro k
    induction k with
    | zero => intro x3 x4 hlp1; exact (lpn_0 hlp1).elim
    | succ k ih1 =>
      intro x3 x4 hlp1
      obtain ⟨y1, hf, hlp1⟩ := lpn_s hlp1
      unfold f_X5_huesDueAt_L5 at hf
      try dsimp only at hf
      have hj49 : ∀ (x3 : Int32) (x4 : Int32), f_X5_huesDueAt_J49 h (a0) (a1) (a2) (x3) (x4) = some y1 → G p l e ({ frames := 2, cells := 0, slots := 0, locals := 44 } : Room) s m args below meth c 6 g X h 0 0 (MQ below (QW g X h s.heap.size (some (.int r)) h) args s 0 0 (AF X h s.heap.size)) 49 [(0, .ref (a0)), (1, .ref (a1)), (2, .int (a2)), (3, .int (x3)), (4, .int (x4))] [] h := by
        intro x3 x4 hf
        unfold f_X5_huesDueAt_J49 at hf
        refine G.iinc (k := 4) (v := (x4 + 1)) (lv' := [(4, .int ((x4 + 1))), (0, .ref (a0)), (1, .ref (a1)), (2, .int (a2)), (3, .int (x3))]) C dX5_huesDueAt_49 rfl rfl (by decide) rfl ?_
        refine G.goto (tgt := 5) C dX5_huesDueAt_52 (by decide) ?_
        cases hf
        refine G.sub C [1, 2, 3, 4, 0] (lv' := [(0, .ref (a0)), (1, .ref (a1)), (2, .int (a2)), (3, .int (x3)), (4, .int ((x4 + 1)))]) rfl ?_
        exact ih1 _ _ hlp1
      refine G.iload C 4 dX5_huesDueAt_5 rfl ?_
      refine G.aload_n C 1 dX5_huesDueAt_7 rfl rfl ?_
      obtain ⟨v2, hv2, hf⟩ := bind_some hf
      try dsimp only at hf
      refine G.callV C (st := [.int (x4)]) (st2 := [.int (v2), .int (x4)]) (ct_X2_hueCount hv2) (ko_X2_hueCount hv2) rfl m9_155 m9_156 m9_157 m9_24 m9_158 kd_X2_hueCount ⟨Nat.le_of_ble_eq_true rfl, Nat.le_of_ble_eq_true rfl⟩ ⟨Nat.zero_le _, Nat.zero_le _⟩ (Nat.le_of_ble_eq_true rfl) rfl rfl dX5_huesDueAt_8 ?_
      refine G.icmp_ge (tgt := 55) C dX5_huesDueAt_11 (by decide) hf (fun c9 hf => ?_) (fun c9 hf => ?_)
      · cases hf
        change some _ = some _ at hlp1
        have hf := hfo1
        try rw [← Option.some.inj hlp1] at hf
        try dsimp only at hf
        refine G.sub C [3] (lv' := [(3, .int (x3))]) rfl ?_
        exact hj55 _ hf
      · refine G.aload_n C 1 dX5_huesDueAt_14 rfl rfl ?_
        refine G.iload C 4 dX5_huesDueAt_15 rfl ?_
        obtain ⟨v3, hv3, hf⟩ := bind_some hf
        try dsimp only at hf
        refine G.callV C (st := []) (st2 := [.int (v3)]) (ct_X2_hueAt hv3) (ko_X2_hueAt hv3) rfl m9_176 m9_177 m9_178 m9_24 m9_179 kd_X2_hueAt ⟨Nat.le_of_ble_eq_true rfl, Nat.le_of_ble_eq_true rfl⟩ ⟨Nat.zero_le _, Nat.zero_le _⟩ (Nat.le_of_ble_eq_true rfl) rfl rfl dX5_huesDueAt_17 ?_
        refine G.istore (lv' := [(5, .int (v3)), (0, .ref (a0)), (1, .ref (a1)), (2, .int (a2)), (3, .int (x3)), (4, .int (x4))]) C dX5_huesDueAt_20 (by decide) rfl ?_
        refine G.iload_n C 3 dX5_huesDueAt_22 rfl rfl ?_
        refine G.aload_n C 2 dX5_huesDueAt_23 rfl rfl ?_
        refine G.iload C 0 dX5_huesDueAt_24 rfl ?_
        refine G.iconst (v := 0) C dX5_huesDueAt_26 (by decide) ?_
        obtain ⟨v4, hv4, hf⟩ := bind_some hf
        try dsimp only at hf
        refine G.callV C (st := [.int (a2)]) (st2 := [.int (v4), .int (a2)]) (ct_X2_firstFrom hv4) (ko_X2_firstFrom hv4) rfl m9_160 m9_161 m9_162 m9_24 m9_163 kd_X2_firstFrom ⟨Nat.le_of_ble_eq_true rfl, Nat.le_of_ble_eq_true rfl⟩ ⟨Nat.zero_le _, Nat.zero_le _⟩ (Nat.le_of_ble_eq_true rfl) rfl rfl dX5_huesDueAt_27 ?_
        refine G.isub C dX5_huesDueAt_30 ?_
        refine G.aload_n C 1 dX5_huesDueAt_31 rfl rfl ?_
        refine G.getR (ci := 4) (k := 0) C rfl inlX5 (by decide) m9_12 rfl hf dX5_huesDueAt_32 (fun v5 hv5 hf => ?_)
        try dsimp only at hf
        refine G.iload C 0 dX5_huesDueAt_35 rfl ?_
        obtain ⟨v6, hv6, hf⟩ := bind_some hf
        try dsimp only at hf
        refine G.callV C (st := [.int ((a2 - v4))]) (st2 := [.int (v6), .int ((a2 - v4))]) (ct_X3_gapAt hv6) (ko_X3_gapAt hv6) rfl m9_180 m9_181 m9_182 m9_11 m9_183 kd_X3_gapAt ⟨Nat.le_of_ble_eq_true rfl, Nat.le_of_ble_eq_true rfl⟩ ⟨Nat.zero_le _, Nat.zero_le _⟩ (Nat.le_of_ble_eq_true rfl) rfl rfl dX5_huesDueAt_37 ?_
        obtain ⟨v7, hv7, hf⟩ := bind_some hf
        try dsimp only at hf
        refine G.callS C (st := []) (st2 := [.int (v7)]) (ct_X1_remainder hv7) m9_271 m9_272 m9_186 m9_273 kd_X1_remainder ⟨Nat.le_of_ble_eq_true rfl, Nat.le_of_ble_eq_true rfl⟩ ⟨Nat.zero_le _, Nat.zero_le _⟩ (Nat.le_of_ble_eq_true rfl) rfl rfl dX5_huesDueAt_40 ?_
        refine G.if_ne (tgt := 49) C dX5_huesDueAt_43 (by decide) hf (fun c8 hf => ?_) (fun c8 hf => ?_)
        · refine G.sub C [1, 2, 3, 4, 5] (lv' := [(0, .ref (a0)), (1, .ref (a1)), (2, .int (a2)), (3, .int (x3)), (4, .int (x4))]) rfl ?_
          exact hj49 _ _ hf
        · refine G.iinc (k := 4) (v := (x3 + 1)) (lv' := [(3, .int ((x3 + 1))), (5, .int (v3)), (0, .ref (a0)), (1, .ref (a1)), (2, .int (a2)), (4, .int (x4))]) C dX5_huesDueAt_46 rfl rfl (by decide) rfl ?_
          refine G.sub C [2, 3, 4, 0, 5] (lv' := [(0, .ref (a0)), (1, .ref (a1)), (2, .int (a2)), (3, .int ((x3 + 1))), (4, .int (x4))]) rfl ?_
          exact hj49 _ _ hf
  refine G.sub C [2, 3, 4, 1, 0] (lv' := [(0, .ref (a0)), (1, .ref (a1)), (2, .int (a2)), (3, .int ((0 : Int32))), (4, .int ((0 : Int32)))]) rfl ?_
  exact hloop1 LF _ _ hlp1
theorem ko_X5_greatestLength {h : PH} {a0 : Nat} {a1 : Nat} {r : Int32} (hf : f_X5_greatestLength h a0 a1 = some r) : kO h a0 4 := by
  unfold f_X5_greatestLength at hf
  exact okO_k (gd_ok hf).1
theorem kd_X5_greatestLength : yX5_greatestLength.cls = RX5 ∧ yX5_greatestLength.cls ≠ "java/lang/invoke/MethodHandle" ∧ yX5_greatestLength.cls ≠ "java/lang/invoke/VarHandle" ∧ (parseMethodDescriptor yX5_greatestLength.desc).map (fun d => d.parameters.length) = some 1 := by decide +kernel
set_option maxRecDepth 20000 in
set_option maxHeartbeats 4000000 in
theorem ct_X5_greatestLength {l : Launch} {h : PH} {a0 : Nat} {a1 : Nat} {r : Int32} (hf : f_X5_greatestLength h a0 a1 = some r) : CT l yX5_greatestLength cX5_greatestLength 3 (some .int) 3 69 [.ref (a0), .ref (a1)] h (some (.int r)) h := by
  refine CT.of (own := RX5) rfl (by decide) (Nat.le_of_ble_eq_true rfl) ?_
  intro p e R s m args below meth c g X hR C
  subst hR
  unfold f_X5_greatestLength at hf
  obtain ⟨hok, hf⟩ := gd_ok hf
  have hj21 : ∀ (x2 : Int32), f_X5_greatestLength_J21 h (x2) = some r → G p l e ({ frames := 3, cells := 0, slots := 0, locals := 69 } : Room) s m args below meth c 3 g X h 0 0 (MQ below (QW g X h s.heap.size (some (.int r)) h) args s 0 0 (AF X h s.heap.size)) 21 [(2, .int (x2))] [] h := by
    intro x2 hf
    unfold f_X5_greatestLength_J21 at hf
    refine G.iload_n C 0 dX5_greatestLength_21 rfl rfl ?_
    cases hf
    exact G.iret C rfl dX5_greatestLength_22
  have hj29 : f_X5_greatestLength_J29 h = some r → G p l e ({ frames := 3, cells := 0, slots := 0, locals := 69 } : Room) s m args below meth c 3 g X h 0 0 (MQ below (QW g X h s.heap.size (some (.int r)) h) args s 0 0 (AF X h s.heap.size)) 29 [] [] h := by
    intro hf
    unfold f_X5_greatestLength_J29 at hf
    refine G.bipush (v := 60) C dX5_greatestLength_29 (by decide) ?_
    cases hf
    exact G.iret C rfl dX5_greatestLength_31
  refine G.sub C [0, 1] (lv' := [(0, .ref (a0)), (1, .ref (a1))]) rfl ?_
  refine G.aload_n C 1 dX5_greatestLength_0 rfl rfl ?_
  obtain ⟨v1, hv1, hf⟩ := bind_some hf
  try dsimp only at hf
  refine G.callV C (st := []) (st2 := [.int (v1)]) (ct_X2_length hv1) (ko_X2_length hv1) rfl m9_154 m9_93 m9_94 m9_24 m9_95 kd_X2_length ⟨Nat.le_of_ble_eq_true rfl, Nat.le_of_ble_eq_true rfl⟩ ⟨Nat.zero_le _, Nat.zero_le _⟩ (Nat.le_of_ble_eq_true rfl) rfl rfl dX5_greatestLength_1 ?_
  refine G.istore_n (lv' := [(2, .int (v1)), (0, .ref (a0)), (1, .ref (a1))]) C dX5_greatestLength_4 rfl (by decide) rfl ?_
  obtain ⟨z2, hlp2, hfo2⟩ := bind_some hf
  clear hf
  have hloop2 : ∀ (k : Nat), ∀ (x2 : Int32), (lpn (f_X5_greatestLength_L5 (h) (a0) (a1)) k (x2)) = some z2 → G p l e ({ frames := 3, cells := 0, slots := 0, locals := 69 } : Room) s m args below meth c 3 g X h 0 0 (MQ below (QW g X h s.heap.size (some (.int r)) h) args s 0 0 (AF X h s.heap.size)) 5 [(0, .ref (a0)), (1, .ref (a1)), (2, .int (x2))] [] h := by
    intro k
    induction k with
    | zero => intro x2 hlp2; exact (lpn_0 hlp2).elim
    | succ k ih2 =>
      intro x2 hlp2
      obtain ⟨y2, hf, hlp2⟩ := lpn_s hlp2
      unfold f_X5_greatestLength_L5 at hf
      try dsimp only at hf
      refine G.iload_n C 2 dX5_greatestLength_5 rfl rfl ?_
      refine G.bipush (v := 60) C dX5_greatestLength_6 (by decide) ?_
      refine G.icmp_ge (tgt := 29) C dX5_greatestLength_8 (by decide) hf (fun c5 hf => ?_) (fun c5 hf => ?_)
      · cases hf
        change some _ = some _ at hlp2
        have hf := hfo2
        try rw [← Option.some.inj hlp2] at hf
        try dsimp only at hf
        refine G.sub C [] (lv' := []) rfl ?_
        exact hj29  hf
      · refine G.aload_n C 0 dX5_greatestLength_11 rfl rfl ?_
        refine G.aload_n C 1 dX5_greatestLength_12 rfl rfl ?_
        refine G.iload_n C 2 dX5_greatestLength_13 rfl rfl ?_
        obtain ⟨v3, hv3, hf⟩ := bind_some hf
        try dsimp only at hf
        refine G.callV C (st := []) (st2 := [.int (v3)]) (ct_X5_huesDueAt hv3) (ko_X5_huesDueAt hv3) rfl m9_267 m9_268 m9_269 m9_2 m9_270 kd_X5_huesDueAt ⟨Nat.le_of_ble_eq_true rfl, Nat.le_of_ble_eq_true rfl⟩ ⟨Nat.zero_le _, Nat.zero_le _⟩ (Nat.le_of_ble_eq_true rfl) rfl rfl dX5_greatestLength_14 ?_
        refine G.iconst (v := 1) C dX5_greatestLength_17 (by decide) ?_
        refine G.icmp_le (tgt := 23) C dX5_greatestLength_18 (by decide) hf (fun c4 hf => ?_) (fun c4 hf => ?_)
        · refine G.iinc (k := 2) (v := (x2 + 1)) (lv' := [(2, .int ((x2 + 1))), (0, .ref (a0)), (1, .ref (a1))]) C dX5_greatestLength_23 rfl rfl (by decide) rfl ?_
          refine G.goto (tgt := 5) C dX5_greatestLength_26 (by decide) ?_
          cases hf
          refine G.sub C [1, 2, 0] (lv' := [(0, .ref (a0)), (1, .ref (a1)), (2, .int ((x2 + 1)))]) rfl ?_
          exact ih2 _ hlp2
        · cases hf
          change some _ = some _ at hlp2
          have hf := hfo2
          try rw [← Option.some.inj hlp2] at hf
          try dsimp only at hf
          refine G.sub C [2] (lv' := [(2, .int (x2))]) rfl ?_
          exact hj21 _ hf
  refine G.sub C [1, 2, 0] (lv' := [(0, .ref (a0)), (1, .ref (a1)), (2, .int (v1))]) rfl ?_
  exact hloop2 LF _ hlp2
theorem ko_X5_changeLength {h : PH} {a0 : Nat} {a1 : Nat} {a2 : Int32} {r : PH} (hf : f_X5_changeLength h a0 a1 a2 = some r) : kO h a0 4 := by
  unfold f_X5_changeLength at hf
  exact okO_k (gd_ok hf).1
theorem kd_X5_changeLength : yX5_changeLength.cls = RX5 ∧ yX5_changeLength.cls ≠ "java/lang/invoke/MethodHandle" ∧ yX5_changeLength.cls ≠ "java/lang/invoke/VarHandle" ∧ (parseMethodDescriptor yX5_changeLength.desc).map (fun d => d.parameters.length) = some 2 := by decide +kernel
set_option maxRecDepth 20000 in
set_option maxHeartbeats 4000000 in
theorem ct_X5_changeLength {l : Launch} {h : PH} {a0 : Nat} {a1 : Nat} {a2 : Int32} {r : PH} (hf : f_X5_changeLength h a0 a1 a2 = some r) : CT l yX5_changeLength cX5_changeLength 5 none 2 48 [.ref (a0), .ref (a1), .int (a2)] h none r := by
  refine CT.of (own := RX5) rfl (by decide) (Nat.le_of_ble_eq_true rfl) ?_
  intro p e R s m args below meth c g X hR C
  subst hR
  unfold f_X5_changeLength at hf
  obtain ⟨hok, hf⟩ := gd_ok hf
  have hj57 : ∀ (hh : PH) (x0 : Nat) (x1 : Nat), f_X5_changeLength_J57 hh (x0) (x1) = some r → G p l e ({ frames := 2, cells := 0, slots := 0, locals := 48 } : Room) s m args below meth c 5 g X h 0 0 (MQ below (QW g X h s.heap.size none r) args s 0 0 (AF X h s.heap.size)) 57 [(0, .ref (x0)), (1, .ref (x1))] [] hh := by
    intro hh x0 x1 hf
    unfold f_X5_changeLength_J57 at hf
    refine G.aload_n C 1 dX5_changeLength_57 rfl rfl ?_
    refine G.aload_n C 0 dX5_changeLength_58 rfl rfl ?_
    refine G.getR (ci := 4) (k := 4) C rfl inlX5 (by decide) m9_25 rfl hf dX5_changeLength_59 (fun v15 hv15 hf => ?_)
    try dsimp only at hf
    obtain ⟨h16, hh16, hf⟩ := bind_some hf
    try dsimp only at hf
    refine G.callV C (st := []) (st2 := []) (ct_X2_copyFrom hh16) (ko_X2_copyFrom hh16) rfl m9_407 m9_320 m9_321 m9_24 m9_322 kd_X2_copyFrom ⟨Nat.le_of_ble_eq_true rfl, Nat.le_of_ble_eq_true rfl⟩ ⟨Nat.zero_le _, Nat.zero_le _⟩ (Nat.le_of_ble_eq_true rfl) rfl rfl dX5_changeLength_62 ?_
    cases hf
    exact G.vret C rfl dX5_changeLength_65
  refine G.sub C [0, 1, 2] (lv' := [(0, .ref (a0)), (1, .ref (a1)), (2, .int (a2))]) rfl ?_
  refine G.aload_n C 0 dX5_changeLength_0 rfl rfl ?_
  refine G.getR (ci := 4) (k := 4) C rfl inlX5 (by decide) m9_25 rfl hf dX5_changeLength_1 (fun v1 hv1 hf => ?_)
  try dsimp only at hf
  refine G.iload_n C 2 dX5_changeLength_4 rfl rfl ?_
  obtain ⟨h2, hh2, hf⟩ := bind_some hf
  try dsimp only at hf
  refine G.callV C (st := []) (st2 := []) (ct_X2_begin hh2) (ko_X2_begin hh2) rfl m9_288 m9_289 m9_290 m9_24 m9_291 kd_X2_begin ⟨Nat.le_of_ble_eq_true rfl, Nat.le_of_ble_eq_true rfl⟩ ⟨Nat.zero_le _, Nat.zero_le _⟩ (Nat.le_of_ble_eq_true rfl) rfl rfl dX5_changeLength_5 ?_
  refine G.iconst (v := 0) C dX5_changeLength_8 (by decide) ?_
  refine G.istore_n (lv' := [(3, .int ((0 : Int32))), (0, .ref (a0)), (1, .ref (a1)), (2, .int (a2))]) C dX5_changeLength_9 rfl (by decide) rfl ?_
  obtain ⟨z3, hlp3, hfo3⟩ := bind_some hf
  clear hf
  have hloop3 : ∀ (k : Nat), ∀ (x3 : Int32) (hh : PH), (lpn (f_X5_changeLength_L10 (a0) (a1)) k (x3, hh)) = some z3 → G p l e ({ frames := 2, cells := 0, slots := 0, locals := 48 } : Room) s m args below meth c 5 g X h 0 0 (MQ below (QW g X h s.heap.size none r) args s 0 0 (AF X h s.heap.size)) 10 [(0, .ref (a0)), (1, .ref (a1)), (3, .int (x3))] [] hh := by
    intro k
    induction k with
    | zero => intro x3 hh hlp3; exact (lpn_0 hlp3).elim
    | succ k ih3 =>
      intro x3 hh hlp3
      obtain ⟨y3, hf, hlp3⟩ := lpn_s hlp3
      unfold f_X5_changeLength_L10 at hf
      try dsimp only at hf
      refine G.iload_n C 2 dX5_changeLength_10 rfl rfl ?_
      refine G.aload_n C 1 dX5_changeLength_11 rfl rfl ?_
      obtain ⟨v4, hv4, hf⟩ := bind_some hf
      try dsimp only at hf
      refine G.callV C (st := [.int (x3)]) (st2 := [.int (v4), .int (x3)]) (ct_X2_hueCount hv4) (ko_X2_hueCount hv4) rfl m9_155 m9_156 m9_157 m9_24 m9_158 kd_X2_hueCount ⟨Nat.le_of_ble_eq_true rfl, Nat.le_of_ble_eq_true rfl⟩ ⟨Nat.zero_le _, Nat.zero_le _⟩ (Nat.le_of_ble_eq_true rfl) rfl rfl dX5_changeLength_12 ?_
      refine G.icmp_ge (tgt := 57) C dX5_changeLength_15 (by decide) hf (fun c13 hf => ?_) (fun c13 hf => ?_)
      · cases hf
        change some _ = some _ at hlp3
        have hf := hfo3
        try rw [← Option.some.inj hlp3] at hf
        try dsimp only at hf
        refine G.sub C [0, 1] (lv' := [(0, .ref (a0)), (1, .ref (a1))]) rfl ?_
        exact hj57 _ _ _ hf
      · refine G.aload_n C 1 dX5_changeLength_18 rfl rfl ?_
        refine G.iload_n C 2 dX5_changeLength_19 rfl rfl ?_
        obtain ⟨v5, hv5, hf⟩ := bind_some hf
        try dsimp only at hf
        refine G.callV C (st := []) (st2 := [.int (v5)]) (ct_X2_hueAt hv5) (ko_X2_hueAt hv5) rfl m9_176 m9_177 m9_178 m9_24 m9_179 kd_X2_hueAt ⟨Nat.le_of_ble_eq_true rfl, Nat.le_of_ble_eq_true rfl⟩ ⟨Nat.zero_le _, Nat.zero_le _⟩ (Nat.le_of_ble_eq_true rfl) rfl rfl dX5_changeLength_20 ?_
        refine G.istore (lv' := [(4, .int (v5)), (0, .ref (a0)), (1, .ref (a1)), (3, .int (x3))]) C dX5_changeLength_23 (by decide) rfl ?_
        refine G.aload_n C 1 dX5_changeLength_25 rfl rfl ?_
        refine G.getR (ci := 4) (k := 4) C rfl inlX5 (by decide) m9_25 rfl hf dX5_changeLength_26 (fun v6 hv6 hf => ?_)
        try dsimp only at hf
        refine G.iload C 0 dX5_changeLength_29 rfl ?_
        refine G.aload_n C 2 dX5_changeLength_31 rfl rfl ?_
        refine G.iload C 0 dX5_changeLength_32 rfl ?_
        refine G.iconst (v := 0) C dX5_changeLength_34 (by decide) ?_
        obtain ⟨v7, hv7, hf⟩ := bind_some hf
        try dsimp only at hf
        refine G.callV C (st := [.int (v5), .ref (v6)]) (st2 := [.int (v7), .int (v5), .ref (v6)]) (ct_X2_firstFrom hv7) (ko_X2_firstFrom hv7) rfl m9_160 m9_161 m9_162 m9_24 m9_163 kd_X2_firstFrom ⟨Nat.le_of_ble_eq_true rfl, Nat.le_of_ble_eq_true rfl⟩ ⟨Nat.zero_le _, Nat.zero_le _⟩ (Nat.le_of_ble_eq_true rfl) rfl rfl dX5_changeLength_35 ?_
        refine G.aload_n C 1 dX5_changeLength_38 rfl rfl ?_
        refine G.getR (ci := 4) (k := 0) C rfl inlX5 (by decide) m9_12 rfl hf dX5_changeLength_39 (fun v8 hv8 hf => ?_)
        try dsimp only at hf
        refine G.iload C 0 dX5_changeLength_42 rfl ?_
        obtain ⟨v9, hv9, hf⟩ := bind_some hf
        try dsimp only at hf
        refine G.callV C (st := [.int (v7), .int (v5), .ref (v6)]) (st2 := [.int (v9), .int (v7), .int (v5), .ref (v6)]) (ct_X3_gapAt hv9) (ko_X3_gapAt hv9) rfl m9_180 m9_181 m9_182 m9_11 m9_183 kd_X3_gapAt ⟨Nat.le_of_ble_eq_true rfl, Nat.le_of_ble_eq_true rfl⟩ ⟨Nat.zero_le _, Nat.zero_le _⟩ (Nat.le_of_ble_eq_true rfl) rfl rfl dX5_changeLength_44 ?_
        obtain ⟨⟨v10, h11⟩, hv10, hf⟩ := bind_some hf
        try dsimp only at hf
        refine G.callV C (st := []) (st2 := [.int (v10)]) (ct_X2_put hv10) (ko_X2_put hv10) rfl m9_299 m9_300 m9_301 m9_24 m9_302 kd_X2_put ⟨Nat.le_of_ble_eq_true rfl, Nat.le_of_ble_eq_true rfl⟩ ⟨Nat.zero_le _, Nat.zero_le _⟩ (Nat.le_of_ble_eq_true rfl) rfl rfl dX5_changeLength_47 ?_
        refine G.pop C dX5_changeLength_50 rfl ?_
        refine G.iinc (k := 3) (v := (x3 + 1)) (lv' := [(3, .int ((x3 + 1))), (4, .int (v5)), (0, .ref (a0)), (1, .ref (a1))]) C dX5_changeLength_51 rfl rfl (by decide) rfl ?_
        refine G.goto (tgt := 10) C dX5_changeLength_54 (by decide) ?_
        cases hf
        refine G.sub C [2, 3, 0] (lv' := [(0, .ref (a0)), (1, .ref (a1)), (3, .int ((x3 + 1)))]) rfl ?_
        exact ih3 _ _ hlp3
  refine G.sub C [1, 2, 0] (lv' := [(0, .ref (a0)), (1, .ref (a1)), (3, .int ((0 : Int32)))]) rfl ?_
  exact hloop3 LF _ _ hlp3
theorem ko_X5_stretch {h : PH} {a0 : Nat} {a1 : Int32} {a2 : Int32} {r : (Except (String × PH) (Int32 × PH))} (hf : f_X5_stretch h a0 a1 a2 = some r) : kO h a0 4 := by
  unfold f_X5_stretch at hf
  exact okO_k (gd_ok hf).1
theorem kd_X5_stretch : yX5_stretch.cls = RX5 ∧ yX5_stretch.cls ≠ "java/lang/invoke/MethodHandle" ∧ yX5_stretch.cls ≠ "java/lang/invoke/VarHandle" ∧ (parseMethodDescriptor yX5_stretch.desc).map (fun d => d.parameters.length) = some 2 := by decide +kernel
set_option maxRecDepth 20000 in
set_option maxHeartbeats 4000000 in
theorem cx_X5_stretch {l : Launch} {h : PH} {a0 : Nat} {a1 : Int32} {a2 : Int32} {r : (Except (String × PH) (Int32 × PH))} (hf : f_X5_stretch h a0 a1 a2 = some r) : CX l yX5_stretch cX5_stretch 5 (some .int) 7 112 [.ref (a0), .int (a1), .int (a2)] h (xIW r) := by
  refine CX.of (own := RX5) rfl (by decide) (Nat.le_of_ble_eq_true rfl) ?_
  intro p e R s m args below meth c g X hR C TT tab
  subst hR
  unfold f_X5_stretch at hf
  obtain ⟨hok, hf⟩ := gd_ok hf
  refine G.sub C [0, 1, 2] (lv' := [(0, .ref (a0)), (1, .int (a1)), (2, .int (a2))]) rfl ?_
  refine G.aload_n C 0 dX5_stretch_0 rfl rfl ?_
  refine G.iload_n C 1 dX5_stretch_1 rfl rfl ?_
  obtain ⟨r1, hr1, hf⟩ := bind_some hf
  cases r1 with
  | error E4 =>
    try dsimp only at hf
    cases hf
    exact G.callXe C TT tab (st := []) (cx_X5_existing hr1) rfl rfl ⟨rfl, rfl⟩ (ko_X5_existing hr1) rfl m9_143 m9_144 m9_145 m9_2 m9_146 kd_X5_existing ⟨Nat.le_of_ble_eq_true rfl, Nat.le_of_ble_eq_true rfl⟩ (Nat.le_of_ble_eq_true rfl) rfl dX5_stretch_2
  | ok v2 =>
    try dsimp only at hf
    refine G.callXo C TT (st := []) (st2 := [.ref (v2)]) (cx_X5_existing hr1) rfl (ko_X5_existing hr1) rfl m9_143 m9_144 m9_145 m9_2 m9_146 kd_X5_existing ⟨Nat.le_of_ble_eq_true rfl, Nat.le_of_ble_eq_true rfl⟩ (Nat.le_of_ble_eq_true rfl) rfl rfl dX5_stretch_2 ?_
    refine G.astore_n (lv' := [(3, .ref (v2)), (0, .ref (a0)), (1, .int (a1)), (2, .int (a2))]) C dX5_stretch_5 rfl (by decide) rfl ?_
    refine G.aload_n C 1 dX5_stretch_6 rfl rfl ?_
    refine G.iload_n C 3 dX5_stretch_7 rfl rfl ?_
    obtain ⟨r5, hr5, hf⟩ := bind_some hf
    cases r5 with
    | error E8 =>
      try dsimp only at hf
      cases hf
      exact G.callXe C TT tab (st := []) (cx_X5_requireLength hr5) rfl rfl ⟨rfl, rfl⟩ (ko_X5_requireLength hr5) rfl m9_338 m9_339 m9_340 m9_2 m9_341 kd_X5_requireLength ⟨Nat.le_of_ble_eq_true rfl, Nat.le_of_ble_eq_true rfl⟩ (Nat.le_of_ble_eq_true rfl) rfl dX5_stretch_8
    | ok v6 =>
      try dsimp only at hf
      refine G.callXo C TT (st := []) (st2 := []) (cx_X5_requireLength hr5) rfl (ko_X5_requireLength hr5) rfl m9_338 m9_339 m9_340 m9_2 m9_341 kd_X5_requireLength ⟨Nat.le_of_ble_eq_true rfl, Nat.le_of_ble_eq_true rfl⟩ (Nat.le_of_ble_eq_true rfl) rfl rfl dX5_stretch_8 ?_
      refine G.iload_n C 3 dX5_stretch_11 rfl rfl ?_
      refine G.aload_n C 1 dX5_stretch_12 rfl rfl ?_
      refine G.aload_n C 0 dX5_stretch_13 rfl rfl ?_
      obtain ⟨v9, hv9, hf⟩ := bind_some hf
      try dsimp only at hf
      refine G.callV C (st := [.int (a2)]) (st2 := [.int (v9), .int (a2)]) (ct_X5_greatestLength hv9) (ko_X5_greatestLength hv9) rfl m9_263 m9_264 m9_265 m9_2 m9_266 kd_X5_greatestLength ⟨Nat.le_of_ble_eq_true rfl, Nat.le_of_ble_eq_true rfl⟩ ⟨Nat.zero_le _, Nat.zero_le _⟩ (Nat.le_of_ble_eq_true rfl) rfl rfl dX5_stretch_14 ?_
      refine G.icmp_le (tgt := 30) C dX5_stretch_17 (by decide) hf (fun c16 hf => ?_) (fun c16 hf => ?_)
      · refine G.aload_n C 1 dX5_stretch_30 rfl rfl ?_
        refine G.getR (ci := 4) (k := 2) C rfl inlX5 (by decide) m9_17 rfl hf dX5_stretch_31 (fun v10 hv10 hf => ?_)
        try dsimp only at hf
        refine G.aload_n C 1 dX5_stretch_34 rfl rfl ?_
        refine G.getR (ci := 4) (k := 0) C rfl inlX5 (by decide) m9_12 rfl hf dX5_stretch_35 (fun v11 hv11 hf => ?_)
        try dsimp only at hf
        obtain ⟨h12, hh12, hf⟩ := bind_some hf
        try dsimp only at hf
        refine G.callV C (st := []) (st2 := []) (ct_X0_save hh12) (ko_X0_save hh12) rfl m9_348 m9_349 m9_350 m9_16 m9_351 kd_X0_save ⟨Nat.le_of_ble_eq_true rfl, Nat.le_of_ble_eq_true rfl⟩ ⟨Nat.zero_le _, Nat.zero_le _⟩ (Nat.le_of_ble_eq_true rfl) rfl rfl dX5_stretch_38 ?_
        refine G.aload_n C 0 dX5_stretch_41 rfl rfl ?_
        obtain ⟨v13, hv13, hf⟩ := bind_some hf
        try dsimp only at hf
        refine G.callV C (st := []) (st2 := [.int (v13)]) (ct_X2_hueCount hv13) (ko_X2_hueCount hv13) rfl m9_155 m9_156 m9_157 m9_24 m9_158 kd_X2_hueCount ⟨Nat.le_of_ble_eq_true rfl, Nat.le_of_ble_eq_true rfl⟩ ⟨Nat.zero_le _, Nat.zero_le _⟩ (Nat.le_of_ble_eq_true rfl) rfl rfl dX5_stretch_42 ?_
        refine G.istore (lv' := [(4, .int (v13)), (3, .ref (v2)), (0, .ref (a0)), (1, .int (a1)), (2, .int (a2))]) C dX5_stretch_45 (by decide) rfl ?_
        refine G.aload_n C 2 dX5_stretch_47 rfl rfl ?_
        refine G.aload_n C 1 dX5_stretch_48 rfl rfl ?_
        refine G.iload_n C 4 dX5_stretch_49 rfl rfl ?_
        obtain ⟨h14, hh14, hf⟩ := bind_some hf
        try dsimp only at hf
        refine G.callV C (st := []) (st2 := []) (ct_X5_changeLength hh14) (ko_X5_changeLength hh14) rfl m9_403 m9_404 m9_405 m9_2 m9_406 kd_X5_changeLength ⟨Nat.le_of_ble_eq_true rfl, Nat.le_of_ble_eq_true rfl⟩ ⟨Nat.zero_le _, Nat.zero_le _⟩ (Nat.le_of_ble_eq_true rfl) rfl rfl dX5_stretch_50 ?_
        refine G.iload C 0 dX5_stretch_53 rfl ?_
        refine G.aload_n C 1 dX5_stretch_55 rfl rfl ?_
        obtain ⟨v15, hv15, hf⟩ := bind_some hf
        try dsimp only at hf
        refine G.callV C (st := [.int (v13)]) (st2 := [.int (v15), .int (v13)]) (ct_X2_hueCount hv15) (ko_X2_hueCount hv15) rfl m9_155 m9_156 m9_157 m9_24 m9_158 kd_X2_hueCount ⟨Nat.le_of_ble_eq_true rfl, Nat.le_of_ble_eq_true rfl⟩ ⟨Nat.zero_le _, Nat.zero_le _⟩ (Nat.le_of_ble_eq_true rfl) rfl rfl dX5_stretch_56 ?_
        refine G.isub C dX5_stretch_59 ?_
        cases hf
        refine G.retX rfl ?_
        exact G.iret C rfl dX5_stretch_60
      · cases hf
        exact G.throwIS (is := 121) (text := "two hues would take one place") C TT tab rfl m9_346 m9_347 (by decide +kernel) dX5_stretch_20 dX5_stretch_23 dX5_stretch_24 dX5_stretch_26 dX5_stretch_29 (Nat.le_of_ble_eq_true rfl) (Nat.le_of_ble_eq_true rfl) ⟨rfl, rfl⟩
theorem ko_X5_layBack {h : PH} {a0 : Nat} {a1 : Nat} {a2 : Int32} {a3 : Nat} {r : PH} (hf : f_X5_layBack h a0 a1 a2 a3 = some r) : kO h a0 4 := by
  unfold f_X5_layBack at hf
  exact okO_k (gd_ok hf).1
theorem kd_X5_layBack : yX5_layBack.cls = RX5 ∧ yX5_layBack.cls ≠ "java/lang/invoke/MethodHandle" ∧ yX5_layBack.cls ≠ "java/lang/invoke/VarHandle" ∧ (parseMethodDescriptor yX5_layBack.desc).map (fun d => d.parameters.length) = some 3 := by decide +kernel
set_option maxRecDepth 20000 in
set_option maxHeartbeats 4000000 in
theorem ct_X5_layBack {l : Launch} {h : PH} {a0 : Nat} {a1 : Nat} {a2 : Int32} {a3 : Nat} {r : PH} (hf : f_X5_layBack h a0 a1 a2 a3 = some r) : CT l yX5_layBack cX5_layBack 7 none 2 48 [.ref (a0), .ref (a1), .int (a2), .ref (a3)] h none r := by
  refine CT.of (own := RX5) rfl (by decide) (Nat.le_of_ble_eq_true rfl) ?_
  intro p e R s m args below meth c g X hR C
  subst hR
  unfold f_X5_layBack at hf
  obtain ⟨hok, hf⟩ := gd_ok hf
  have hj61 : ∀ (hh : PH), f_X5_layBack_J61 hh = some r → G p l e ({ frames := 2, cells := 0, slots := 0, locals := 48 } : Room) s m args below meth c 7 g X h 0 0 (MQ below (QW g X h s.heap.size none r) args s 0 0 (AF X h s.heap.size)) 61 [] [] hh := by
    intro hh hf
    unfold f_X5_layBack_J61 at hf
    cases hf
    exact G.vret C rfl dX5_layBack_61
  refine G.sub C [0, 1, 2, 3] (lv' := [(0, .ref (a0)), (1, .ref (a1)), (2, .int (a2)), (3, .ref (a3))]) rfl ?_
  refine G.iconst (v := 0) C dX5_layBack_0 (by decide) ?_
  refine G.istore (lv' := [(4, .int ((0 : Int32))), (0, .ref (a0)), (1, .ref (a1)), (2, .int (a2)), (3, .ref (a3))]) C dX5_layBack_1 (by decide) rfl ?_
  obtain ⟨z1, hlp1, hfo1⟩ := bind_some hf
  clear hf
  have hloop1 : ∀ (k : Nat), ∀ (x4 : Int32) (hh : PH), (lpn (f_X5_layBack_L3 (a0) (a1) (a2) (a3)) k (x4, hh)) = some z1 → G p l e ({ frames := 2, cells := 0, slots := 0, locals := 48 } : Room) s m args below meth c 7 g X h 0 0 (MQ below (QW g X h s.heap.size none r) args s 0 0 (AF X h s.heap.size)) 3 [(0, .ref (a0)), (1, .ref (a1)), (2, .int (a2)), (3, .ref (a3)), (4, .int (x4))] [] hh := by
    intro k
    induction k with
    | zero => intro x4 hh hlp1; exact (lpn_0 hlp1).elim
    | succ k ih1 =>
      intro x4 hh hlp1
      obtain ⟨y1, hf, hlp1⟩ := lpn_s hlp1
      unfold f_X5_layBack_L3 at hf
      try dsimp only at hf
      have hj55 : ∀ (hh : PH) (x4 : Int32), f_X5_layBack_J55 hh (a0) (a1) (a2) (a3) (x4) = some y1 → G p l e ({ frames := 2, cells := 0, slots := 0, locals := 48 } : Room) s m args below meth c 7 g X h 0 0 (MQ below (QW g X h s.heap.size none r) args s 0 0 (AF X h s.heap.size)) 55 [(0, .ref (a0)), (1, .ref (a1)), (2, .int (a2)), (3, .ref (a3)), (4, .int (x4))] [] hh := by
        intro hh x4 hf
        unfold f_X5_layBack_J55 at hf
        refine G.iinc (k := 4) (v := (x4 + 1)) (lv' := [(4, .int ((x4 + 1))), (0, .ref (a0)), (1, .ref (a1)), (2, .int (a2)), (3, .ref (a3))]) C dX5_layBack_55 rfl rfl (by decide) rfl ?_
        refine G.goto (tgt := 3) C dX5_layBack_58 (by decide) ?_
        cases hf
        refine G.sub C [1, 2, 3, 4, 0] (lv' := [(0, .ref (a0)), (1, .ref (a1)), (2, .int (a2)), (3, .ref (a3)), (4, .int ((x4 + 1)))]) rfl ?_
        exact ih1 _ _ hlp1
      refine G.iload C 4 dX5_layBack_3 rfl ?_
      refine G.aload_n C 1 dX5_layBack_5 rfl rfl ?_
      obtain ⟨v2, hv2, hf⟩ := bind_some hf
      try dsimp only at hf
      refine G.callV C (st := [.int (x4)]) (st2 := [.int (v2), .int (x4)]) (ct_X2_hueCount hv2) (ko_X2_hueCount hv2) rfl m9_155 m9_156 m9_157 m9_24 m9_158 kd_X2_hueCount ⟨Nat.le_of_ble_eq_true rfl, Nat.le_of_ble_eq_true rfl⟩ ⟨Nat.zero_le _, Nat.zero_le _⟩ (Nat.le_of_ble_eq_true rfl) rfl rfl dX5_layBack_6 ?_
      refine G.icmp_ge (tgt := 61) C dX5_layBack_9 (by decide) hf (fun c11 hf => ?_) (fun c11 hf => ?_)
      · cases hf
        change some _ = some _ at hlp1
        have hf := hfo1
        try rw [← Option.some.inj hlp1] at hf
        try dsimp only at hf
        refine G.sub C [] (lv' := []) rfl ?_
        exact hj61 _ hf
      · refine G.aload_n C 1 dX5_layBack_12 rfl rfl ?_
        refine G.iload C 4 dX5_layBack_13 rfl ?_
        obtain ⟨v3, hv3, hf⟩ := bind_some hf
        try dsimp only at hf
        refine G.callV C (st := []) (st2 := [.int (v3)]) (ct_X2_hueAt hv3) (ko_X2_hueAt hv3) rfl m9_176 m9_177 m9_178 m9_24 m9_179 kd_X2_hueAt ⟨Nat.le_of_ble_eq_true rfl, Nat.le_of_ble_eq_true rfl⟩ ⟨Nat.zero_le _, Nat.zero_le _⟩ (Nat.le_of_ble_eq_true rfl) rfl rfl dX5_layBack_15 ?_
        refine G.istore (lv' := [(5, .int (v3)), (0, .ref (a0)), (1, .ref (a1)), (2, .int (a2)), (3, .ref (a3)), (4, .int (x4))]) C dX5_layBack_18 (by decide) rfl ?_
        refine G.aload_n C 2 dX5_layBack_20 rfl rfl ?_
        refine G.iload C 0 dX5_layBack_21 rfl ?_
        refine G.iload_n C 3 dX5_layBack_23 rfl rfl ?_
        obtain ⟨v4, hv4, hf⟩ := bind_some hf
        try dsimp only at hf
        refine G.callV C (st := []) (st2 := [.int (v4)]) (ct_X2_firstFrom hv4) (ko_X2_firstFrom hv4) rfl m9_160 m9_161 m9_162 m9_24 m9_163 kd_X2_firstFrom ⟨Nat.le_of_ble_eq_true rfl, Nat.le_of_ble_eq_true rfl⟩ ⟨Nat.zero_le _, Nat.zero_le _⟩ (Nat.le_of_ble_eq_true rfl) rfl rfl dX5_layBack_24 ?_
        refine G.istore (lv' := [(6, .int (v4)), (5, .int (v3)), (0, .ref (a0)), (1, .ref (a1)), (2, .int (a2)), (3, .ref (a3)), (4, .int (x4))]) C dX5_layBack_27 (by decide) rfl ?_
        refine G.iload C 0 dX5_layBack_29 rfl ?_
        refine G.iconst (v := (-1)) C dX5_layBack_31 (by decide) ?_
        refine G.icmp_eq (tgt := 55) C dX5_layBack_32 (by decide) hf (fun c10 hf => ?_) (fun c10 hf => ?_)
        · refine G.sub C [2, 3, 4, 5, 6] (lv' := [(0, .ref (a0)), (1, .ref (a1)), (2, .int (a2)), (3, .ref (a3)), (4, .int (x4))]) rfl ?_
          exact hj55 _ _ hf
        · refine G.aload_n C 5 dX5_layBack_35 rfl rfl ?_
          refine G.iload C 1 dX5_layBack_36 rfl ?_
          refine G.iload C 0 dX5_layBack_38 rfl ?_
          refine G.iload_n C 4 dX5_layBack_40 rfl rfl ?_
          refine G.isub C dX5_layBack_41 ?_
          refine G.aload_n C 2 dX5_layBack_42 rfl rfl ?_
          refine G.getR (ci := 4) (k := 0) C rfl inlX5 (by decide) m9_12 rfl hf dX5_layBack_43 (fun v5 hv5 hf => ?_)
          try dsimp only at hf
          refine G.iload C 1 dX5_layBack_46 rfl ?_
          obtain ⟨v6, hv6, hf⟩ := bind_some hf
          try dsimp only at hf
          refine G.callV C (st := [.int ((v4 - a2)), .int (v3), .ref (a3)]) (st2 := [.int (v6), .int ((v4 - a2)), .int (v3), .ref (a3)]) (ct_X3_gapAt hv6) (ko_X3_gapAt hv6) rfl m9_180 m9_181 m9_182 m9_11 m9_183 kd_X3_gapAt ⟨Nat.le_of_ble_eq_true rfl, Nat.le_of_ble_eq_true rfl⟩ ⟨Nat.zero_le _, Nat.zero_le _⟩ (Nat.le_of_ble_eq_true rfl) rfl rfl dX5_layBack_48 ?_
          obtain ⟨⟨v7, h8⟩, hv7, hf⟩ := bind_some hf
          try dsimp only at hf
          refine G.callV C (st := []) (st2 := [.int (v7)]) (ct_X2_put hv7) (ko_X2_put hv7) rfl m9_299 m9_300 m9_301 m9_24 m9_302 kd_X2_put ⟨Nat.le_of_ble_eq_true rfl, Nat.le_of_ble_eq_true rfl⟩ ⟨Nat.zero_le _, Nat.zero_le _⟩ (Nat.le_of_ble_eq_true rfl) rfl rfl dX5_layBack_51 ?_
          refine G.pop C dX5_layBack_54 rfl ?_
          refine G.sub C [2, 3, 4, 5, 6] (lv' := [(0, .ref (a0)), (1, .ref (a1)), (2, .int (a2)), (3, .ref (a3)), (4, .int (x4))]) rfl ?_
          exact hj55 _ _ hf
  refine G.sub C [1, 2, 3, 4, 0] (lv' := [(0, .ref (a0)), (1, .ref (a1)), (2, .int (a2)), (3, .ref (a3)), (4, .int ((0 : Int32)))]) rfl ?_
  exact hloop1 LF _ _ hlp1
theorem ko_X5_cut {h : PH} {a0 : Nat} {a1 : Int32} {a2 : Int32} {r : (Except (String × PH) (Int32 × PH))} (hf : f_X5_cut h a0 a1 a2 = some r) : kO h a0 4 := by
  unfold f_X5_cut at hf
  exact okO_k (gd_ok hf).1
theorem kd_X5_cut : yX5_cut.cls = RX5 ∧ yX5_cut.cls ≠ "java/lang/invoke/MethodHandle" ∧ yX5_cut.cls ≠ "java/lang/invoke/VarHandle" ∧ (parseMethodDescriptor yX5_cut.desc).map (fun d => d.parameters.length) = some 2 := by decide +kernel
set_option maxRecDepth 20000 in
set_option maxHeartbeats 4000000 in
theorem cx_X5_cut {l : Launch} {h : PH} {a0 : Nat} {a1 : Int32} {a2 : Int32} {r : (Except (String × PH) (Int32 × PH))} (hf : f_X5_cut h a0 a1 a2 = some r) : CX l yX5_cut cX5_cut 5 (some .int) 7 112 [.ref (a0), .int (a1), .int (a2)] h (xIW r) := by
  refine CX.of (own := RX5) rfl (by decide) (Nat.le_of_ble_eq_true rfl) ?_
  intro p e R s m args below meth c g X hR C TT tab
  subst hR
  unfold f_X5_cut at hf
  obtain ⟨hok, hf⟩ := gd_ok hf
  have hj21 : f_X5_cut_J21 h = some r → G p l e ({ frames := 7, cells := cN (xIW r), slots := cS (xIW r), locals := 112 } : Room) s m args below meth c 5 g X h 0 0 (vx_MQ below (QX g X h s.heap.size (xIW r)) (XX g X h s.heap.size (xIW r)) args s (cN (xIW r)) (cS (xIW r)) (AF X h s.heap.size)) 21 [] [] h := by
    intro hf
    unfold f_X5_cut_J21 at hf
    cases hf
    exact G.throwIA (is := 133) (text := "the place is out of range") C TT tab rfl m9_74 m9_75 (by decide +kernel) dX5_cut_21 dX5_cut_24 dX5_cut_25 dX5_cut_27 dX5_cut_30 (Nat.le_of_ble_eq_true rfl) (Nat.le_of_ble_eq_true rfl) ⟨rfl, rfl⟩
  have hj74 : ∀ (hh : PH) (x0 : Nat) (x2 : Int32) (x3 : Nat), f_X5_cut_J74 hh (x0) (x2) (x3) = some r → G p l e ({ frames := 7, cells := cN (xIW r), slots := cS (xIW r), locals := 112 } : Room) s m args below meth c 5 g X h 0 0 (vx_MQ below (QX g X h s.heap.size (xIW r)) (XX g X h s.heap.size (xIW r)) args s (cN (xIW r)) (cS (xIW r)) (AF X h s.heap.size)) 74 [(0, .ref (x0)), (2, .int (x2)), (3, .ref (x3))] [] hh := by
    intro hh x0 x2 x3 hf
    unfold f_X5_cut_J74 at hf
    refine G.aload_n C 0 dX5_cut_74 rfl rfl ?_
    refine G.aload_n C 2 dX5_cut_75 rfl rfl ?_
    refine G.iload_n C 1 dX5_cut_76 rfl rfl ?_
    obtain ⟨h25, hh25, hf⟩ := bind_some hf
    try dsimp only at hf
    refine G.callV C (st := []) (st2 := []) (ct_X5_changeLength hh25) (ko_X5_changeLength hh25) rfl m9_403 m9_404 m9_405 m9_2 m9_406 kd_X5_changeLength ⟨Nat.le_of_ble_eq_true rfl, Nat.le_of_ble_eq_true rfl⟩ ⟨Nat.zero_le _, Nat.zero_le _⟩ (Nat.le_of_ble_eq_true rfl) rfl rfl dX5_cut_77 ?_
    refine G.aload_n C 0 dX5_cut_80 rfl rfl ?_
    refine G.getR (ci := 4) (k := 0) C rfl inlX5 (by decide) m9_12 rfl hf dX5_cut_81 (fun v26 hv26 hf => ?_)
    try dsimp only at hf
    obtain ⟨h27, hh27, hf⟩ := bind_some hf
    try dsimp only at hf
    refine G.callV C (st := []) (st2 := []) (ct_X3_countCut hh27) (ko_X3_countCut hh27) rfl m9_419 m9_420 m9_421 m9_11 m9_422 kd_X3_countCut ⟨Nat.le_of_ble_eq_true rfl, Nat.le_of_ble_eq_true rfl⟩ ⟨Nat.zero_le _, Nat.zero_le _⟩ (Nat.le_of_ble_eq_true rfl) rfl rfl dX5_cut_84 ?_
    refine G.aload_n C 0 dX5_cut_87 rfl rfl ?_
    refine G.getR (ci := 4) (k := 0) C rfl inlX5 (by decide) m9_12 rfl hf dX5_cut_88 (fun v28 hv28 hf => ?_)
    try dsimp only at hf
    obtain ⟨v29, hv29, hf⟩ := bind_some hf
    try dsimp only at hf
    refine G.callV C (st := []) (st2 := [.int (v29)]) (ct_X3_ropeCount hv29) (ko_X3_ropeCount hv29) rfl m9_80 m9_81 m9_82 m9_11 m9_83 kd_X3_ropeCount ⟨Nat.le_of_ble_eq_true rfl, Nat.le_of_ble_eq_true rfl⟩ ⟨Nat.zero_le _, Nat.zero_le _⟩ (Nat.le_of_ble_eq_true rfl) rfl rfl dX5_cut_91 ?_
    refine G.iconst (v := 1) C dX5_cut_94 (by decide) ?_
    refine G.isub C dX5_cut_95 ?_
    cases hf
    refine G.retX rfl ?_
    exact G.iret C rfl dX5_cut_96
  refine G.sub C [0, 1, 2] (lv' := [(0, .ref (a0)), (1, .int (a1)), (2, .int (a2))]) rfl ?_
  refine G.aload_n C 0 dX5_cut_0 rfl rfl ?_
  refine G.iload_n C 1 dX5_cut_1 rfl rfl ?_
  obtain ⟨r1, hr1, hf⟩ := bind_some hf
  cases r1 with
  | error E4 =>
    try dsimp only at hf
    cases hf
    exact G.callXe C TT tab (st := []) (cx_X5_existing hr1) rfl rfl ⟨rfl, rfl⟩ (ko_X5_existing hr1) rfl m9_143 m9_144 m9_145 m9_2 m9_146 kd_X5_existing ⟨Nat.le_of_ble_eq_true rfl, Nat.le_of_ble_eq_true rfl⟩ (Nat.le_of_ble_eq_true rfl) rfl dX5_cut_2
  | ok v2 =>
    try dsimp only at hf
    refine G.callXo C TT (st := []) (st2 := [.ref (v2)]) (cx_X5_existing hr1) rfl (ko_X5_existing hr1) rfl m9_143 m9_144 m9_145 m9_2 m9_146 kd_X5_existing ⟨Nat.le_of_ble_eq_true rfl, Nat.le_of_ble_eq_true rfl⟩ (Nat.le_of_ble_eq_true rfl) rfl rfl dX5_cut_2 ?_
    refine G.astore_n (lv' := [(3, .ref (v2)), (0, .ref (a0)), (1, .int (a1)), (2, .int (a2))]) C dX5_cut_5 rfl (by decide) rfl ?_
    refine G.iload_n C 3 dX5_cut_6 rfl rfl ?_
    refine G.iconst (v := 1) C dX5_cut_7 (by decide) ?_
    refine G.icmp_lt (tgt := 21) C dX5_cut_8 (by decide) hf (fun c22 hf => ?_) (fun c22 hf => ?_)
    · refine G.sub C [] (lv' := []) rfl ?_
      exact hj21  hf
    · refine G.iload_n C 3 dX5_cut_11 rfl rfl ?_
      refine G.aload_n C 0 dX5_cut_12 rfl rfl ?_
      obtain ⟨v5, hv5, hf⟩ := bind_some hf
      try dsimp only at hf
      refine G.callV C (st := [.int (a2)]) (st2 := [.int (v5), .int (a2)]) (ct_X2_length hv5) (ko_X2_length hv5) rfl m9_154 m9_93 m9_94 m9_24 m9_95 kd_X2_length ⟨Nat.le_of_ble_eq_true rfl, Nat.le_of_ble_eq_true rfl⟩ ⟨Nat.zero_le _, Nat.zero_le _⟩ (Nat.le_of_ble_eq_true rfl) rfl rfl dX5_cut_13 ?_
      refine G.iconst (v := 1) C dX5_cut_16 (by decide) ?_
      refine G.isub C dX5_cut_17 ?_
      refine G.icmp_le (tgt := 31) C dX5_cut_18 (by decide) hf (fun c21 hf => ?_) (fun c21 hf => ?_)
      · refine G.aload_n C 1 dX5_cut_31 rfl rfl ?_
        obtain ⟨r6, hr6, hf⟩ := bind_some hf
        cases r6 with
        | error E9 =>
          try dsimp only at hf
          cases hf
          exact G.callXe C TT tab (st := []) (cx_X5_requireRoomForRope hr6) rfl rfl ⟨rfl, rfl⟩ (ko_X5_requireRoomForRope hr6) rfl m9_342 m9_343 m9_344 m9_2 m9_345 kd_X5_requireRoomForRope ⟨Nat.le_of_ble_eq_true rfl, Nat.le_of_ble_eq_true rfl⟩ (Nat.le_of_ble_eq_true rfl) rfl dX5_cut_32
        | ok v7 =>
          try dsimp only at hf
          refine G.callXo C TT (st := []) (st2 := []) (cx_X5_requireRoomForRope hr6) rfl (ko_X5_requireRoomForRope hr6) rfl m9_342 m9_343 m9_344 m9_2 m9_345 kd_X5_requireRoomForRope ⟨Nat.le_of_ble_eq_true rfl, Nat.le_of_ble_eq_true rfl⟩ (Nat.le_of_ble_eq_true rfl) rfl rfl dX5_cut_32 ?_
          refine G.aload_n C 1 dX5_cut_35 rfl rfl ?_
          refine G.getR (ci := 4) (k := 2) C rfl inlX5 (by decide) m9_17 rfl hf dX5_cut_36 (fun v10 hv10 hf => ?_)
          try dsimp only at hf
          refine G.aload_n C 1 dX5_cut_39 rfl rfl ?_
          refine G.getR (ci := 4) (k := 0) C rfl inlX5 (by decide) m9_12 rfl hf dX5_cut_40 (fun v11 hv11 hf => ?_)
          try dsimp only at hf
          obtain ⟨h12, hh12, hf⟩ := bind_some hf
          try dsimp only at hf
          refine G.callV C (st := []) (st2 := []) (ct_X0_save hh12) (ko_X0_save hh12) rfl m9_348 m9_349 m9_350 m9_16 m9_351 kd_X0_save ⟨Nat.le_of_ble_eq_true rfl, Nat.le_of_ble_eq_true rfl⟩ ⟨Nat.zero_le _, Nat.zero_le _⟩ (Nat.le_of_ble_eq_true rfl) rfl rfl dX5_cut_43 ?_
          refine G.aload_n C 1 dX5_cut_46 rfl rfl ?_
          refine G.getR (ci := 4) (k := 0) C rfl inlX5 (by decide) m9_12 rfl hf dX5_cut_47 (fun v13 hv13 hf => ?_)
          try dsimp only at hf
          refine G.aload_n C 0 dX5_cut_50 rfl rfl ?_
          obtain ⟨v14, hv14, hf⟩ := bind_some hf
          try dsimp only at hf
          refine G.callV C (st := [.ref (v13)]) (st2 := [.int (v14), .ref (v13)]) (ct_X2_length hv14) (ko_X2_length hv14) rfl m9_154 m9_93 m9_94 m9_24 m9_95 kd_X2_length ⟨Nat.le_of_ble_eq_true rfl, Nat.le_of_ble_eq_true rfl⟩ ⟨Nat.zero_le _, Nat.zero_le _⟩ (Nat.le_of_ble_eq_true rfl) rfl rfl dX5_cut_51 ?_
          refine G.iload_n C 3 dX5_cut_54 rfl rfl ?_
          refine G.isub C dX5_cut_55 ?_
          obtain ⟨⟨v15, h16⟩, hv15, hf⟩ := bind_some hf
          try dsimp only at hf
          refine G.callV C (st := []) (st2 := [va_rf (v15)]) (ct_X3_addRope hv15) (ko_X3_addRope hv15) rfl m9_361 m9_362 m9_363 m9_11 m9_364 kd_X3_addRope ⟨Nat.le_of_ble_eq_true rfl, Nat.le_of_ble_eq_true rfl⟩ ⟨Nat.zero_le _, Nat.zero_le _⟩ (Nat.le_of_ble_eq_true rfl) rfl rfl dX5_cut_56 ?_
          refine G.qstore (lv' := [(4, va_rf (v15)), (3, .ref (v2)), (0, .ref (a0)), (1, .int (a1)), (2, .int (a2))]) C dX5_cut_59 (by decide) rfl ?_
          refine G.qload C 0 dX5_cut_61 rfl ?_
          refine G.ifnull (tgt := 74) C dX5_cut_63 (by decide) (fun e20 => ?_) (fun a18 e20 => ?_)
          · subst e20
            try dsimp only at hf
            refine G.sub C [2, 4, 1] (lv' := [(0, .ref (a0)), (2, .int (a2)), (3, .ref (v2))]) rfl ?_
            exact hj74 _ _ _ _ hf
          · subst e20
            try dsimp only at hf
            refine G.aload_n C 2 dX5_cut_66 rfl rfl ?_
            refine G.aload_n C 1 dX5_cut_67 rfl rfl ?_
            refine G.iload_n C 4 dX5_cut_68 rfl rfl ?_
            refine G.aload C 0 dX5_cut_69 rfl ?_
            obtain ⟨h19, hh19, hf⟩ := bind_some hf
            try dsimp only at hf
            refine G.callV C (st := []) (st2 := []) (ct_X5_layBack hh19) (ko_X5_layBack hh19) rfl m9_415 m9_416 m9_417 m9_2 m9_418 kd_X5_layBack ⟨Nat.le_of_ble_eq_true rfl, Nat.le_of_ble_eq_true rfl⟩ ⟨Nat.zero_le _, Nat.zero_le _⟩ (Nat.le_of_ble_eq_true rfl) rfl rfl dX5_cut_71 ?_
            refine G.sub C [2, 4, 1] (lv' := [(0, .ref (a0)), (2, .int (a2)), (3, .ref (v2))]) rfl ?_
            exact hj74 _ _ _ _ hf
      · refine G.sub C [] (lv' := []) rfl ?_
        exact hj21  hf
theorem ko_X5_turnRound {h : PH} {a0 : Nat} {a1 : Nat} {r : (Int32 × PH)} (hf : f_X5_turnRound h a0 a1 = some r) : kO h a0 4 := by
  unfold f_X5_turnRound at hf
  exact okO_k (gd_ok hf).1
theorem kd_X5_turnRound : yX5_turnRound.cls = RX5 ∧ yX5_turnRound.cls ≠ "java/lang/invoke/MethodHandle" ∧ yX5_turnRound.cls ≠ "java/lang/invoke/VarHandle" ∧ (parseMethodDescriptor yX5_turnRound.desc).map (fun d => d.parameters.length) = some 1 := by decide +kernel
set_option maxRecDepth 20000 in
set_option maxHeartbeats 4000000 in
theorem ct_X5_turnRound {l : Launch} {h : PH} {a0 : Nat} {a1 : Nat} {r : (Int32 × PH)} (hf : f_X5_turnRound h a0 a1 = some r) : CT l yX5_turnRound cX5_turnRound 4 (some .int) 2 48 [.ref (a0), .ref (a1)] h (some (.int r.1)) r.2 := by
  refine CT.of (own := RX5) rfl (by decide) (Nat.le_of_ble_eq_true rfl) ?_
  intro p e R s m args below meth c g X hR C
  subst hR
  unfold f_X5_turnRound at hf
  obtain ⟨hok, hf⟩ := gd_ok hf
  have hj62 : ∀ (hh : PH) (x0 : Nat) (x1 : Nat), f_X5_turnRound_J62 hh (x0) (x1) = some r → G p l e ({ frames := 2, cells := 0, slots := 0, locals := 48 } : Room) s m args below meth c 4 g X h 0 0 (MQ below (QW g X h s.heap.size (some (.int r.1)) r.2) args s 0 0 (AF X h s.heap.size)) 62 [(0, .ref (x0)), (1, .ref (x1))] [] hh := by
    intro hh x0 x1 hf
    unfold f_X5_turnRound_J62 at hf
    refine G.aload_n C 1 dX5_turnRound_62 rfl rfl ?_
    refine G.aload_n C 0 dX5_turnRound_63 rfl rfl ?_
    refine G.getR (ci := 4) (k := 4) C rfl inlX5 (by decide) m9_25 rfl hf dX5_turnRound_64 (fun v19 hv19 hf => ?_)
    try dsimp only at hf
    obtain ⟨v20, hv20, hf⟩ := bind_some hf
    try dsimp only at hf
    refine G.callV C (st := []) (st2 := [.int (v20)]) (ct_X2_differences hv20) (ko_X2_differences hv20) rfl m9_454 m9_455 m9_456 m9_24 m9_457 kd_X2_differences ⟨Nat.le_of_ble_eq_true rfl, Nat.le_of_ble_eq_true rfl⟩ ⟨Nat.zero_le _, Nat.zero_le _⟩ (Nat.le_of_ble_eq_true rfl) rfl rfl dX5_turnRound_67 ?_
    refine G.istore_n (lv' := [(2, .int (v20)), (0, .ref (x0)), (1, .ref (x1))]) C dX5_turnRound_70 rfl (by decide) rfl ?_
    refine G.aload_n C 2 dX5_turnRound_71 rfl rfl ?_
    refine G.aload_n C 1 dX5_turnRound_72 rfl rfl ?_
    refine G.getR (ci := 4) (k := 4) C rfl inlX5 (by decide) m9_25 rfl hf dX5_turnRound_73 (fun v21 hv21 hf => ?_)
    try dsimp only at hf
    obtain ⟨h22, hh22, hf⟩ := bind_some hf
    try dsimp only at hf
    refine G.callV C (st := []) (st2 := []) (ct_X2_copyFrom hh22) (ko_X2_copyFrom hh22) rfl m9_407 m9_320 m9_321 m9_24 m9_322 kd_X2_copyFrom ⟨Nat.le_of_ble_eq_true rfl, Nat.le_of_ble_eq_true rfl⟩ ⟨Nat.zero_le _, Nat.zero_le _⟩ (Nat.le_of_ble_eq_true rfl) rfl rfl dX5_turnRound_76 ?_
    refine G.iload_n C 0 dX5_turnRound_79 rfl rfl ?_
    cases hf
    exact G.iret C rfl dX5_turnRound_80
  refine G.sub C [0, 1] (lv' := [(0, .ref (a0)), (1, .ref (a1))]) rfl ?_
  refine G.aload_n C 0 dX5_turnRound_0 rfl rfl ?_
  refine G.getR (ci := 4) (k := 4) C rfl inlX5 (by decide) m9_25 rfl hf dX5_turnRound_1 (fun v1 hv1 hf => ?_)
  try dsimp only at hf
  refine G.aload_n C 1 dX5_turnRound_4 rfl rfl ?_
  obtain ⟨v2, hv2, hf⟩ := bind_some hf
  try dsimp only at hf
  refine G.callV C (st := [.ref (v1)]) (st2 := [.int (v2), .ref (v1)]) (ct_X2_length hv2) (ko_X2_length hv2) rfl m9_154 m9_93 m9_94 m9_24 m9_95 kd_X2_length ⟨Nat.le_of_ble_eq_true rfl, Nat.le_of_ble_eq_true rfl⟩ ⟨Nat.zero_le _, Nat.zero_le _⟩ (Nat.le_of_ble_eq_true rfl) rfl rfl dX5_turnRound_5 ?_
  obtain ⟨h3, hh3, hf⟩ := bind_some hf
  try dsimp only at hf
  refine G.callV C (st := []) (st2 := []) (ct_X2_begin hh3) (ko_X2_begin hh3) rfl m9_288 m9_289 m9_290 m9_24 m9_291 kd_X2_begin ⟨Nat.le_of_ble_eq_true rfl, Nat.le_of_ble_eq_true rfl⟩ ⟨Nat.zero_le _, Nat.zero_le _⟩ (Nat.le_of_ble_eq_true rfl) rfl rfl dX5_turnRound_8 ?_
  refine G.iconst (v := 0) C dX5_turnRound_11 (by decide) ?_
  refine G.istore_n (lv' := [(2, .int ((0 : Int32))), (0, .ref (a0)), (1, .ref (a1))]) C dX5_turnRound_12 rfl (by decide) rfl ?_
  obtain ⟨z4, hlp4, hfo4⟩ := bind_some hf
  clear hf
  have hloop4 : ∀ (k : Nat), ∀ (x2 : Int32) (hh : PH), (lpn (f_X5_turnRound_L13 (a0) (a1)) k (x2, hh)) = some z4 → G p l e ({ frames := 2, cells := 0, slots := 0, locals := 48 } : Room) s m args below meth c 4 g X h 0 0 (MQ below (QW g X h s.heap.size (some (.int r.1)) r.2) args s 0 0 (AF X h s.heap.size)) 13 [(0, .ref (a0)), (1, .ref (a1)), (2, .int (x2))] [] hh := by
    intro k
    induction k with
    | zero => intro x2 hh hlp4; exact (lpn_0 hlp4).elim
    | succ k ih4 =>
      intro x2 hh hlp4
      obtain ⟨y4, hf, hlp4⟩ := lpn_s hlp4
      unfold f_X5_turnRound_L13 at hf
      try dsimp only at hf
      refine G.iload_n C 2 dX5_turnRound_13 rfl rfl ?_
      refine G.aload_n C 1 dX5_turnRound_14 rfl rfl ?_
      obtain ⟨v5, hv5, hf⟩ := bind_some hf
      try dsimp only at hf
      refine G.callV C (st := [.int (x2)]) (st2 := [.int (v5), .int (x2)]) (ct_X2_hueCount hv5) (ko_X2_hueCount hv5) rfl m9_155 m9_156 m9_157 m9_24 m9_158 kd_X2_hueCount ⟨Nat.le_of_ble_eq_true rfl, Nat.le_of_ble_eq_true rfl⟩ ⟨Nat.zero_le _, Nat.zero_le _⟩ (Nat.le_of_ble_eq_true rfl) rfl rfl dX5_turnRound_15 ?_
      refine G.icmp_ge (tgt := 62) C dX5_turnRound_18 (by decide) hf (fun c15 hf => ?_) (fun c15 hf => ?_)
      · cases hf
        change some _ = some _ at hlp4
        have hf := hfo4
        try rw [← Option.some.inj hlp4] at hf
        try dsimp only at hf
        refine G.sub C [0, 1] (lv' := [(0, .ref (a0)), (1, .ref (a1))]) rfl ?_
        exact hj62 _ _ _ hf
      · refine G.aload_n C 1 dX5_turnRound_21 rfl rfl ?_
        refine G.iload_n C 2 dX5_turnRound_22 rfl rfl ?_
        obtain ⟨v6, hv6, hf⟩ := bind_some hf
        try dsimp only at hf
        refine G.callV C (st := []) (st2 := [.int (v6)]) (ct_X2_hueAt hv6) (ko_X2_hueAt hv6) rfl m9_176 m9_177 m9_178 m9_24 m9_179 kd_X2_hueAt ⟨Nat.le_of_ble_eq_true rfl, Nat.le_of_ble_eq_true rfl⟩ ⟨Nat.zero_le _, Nat.zero_le _⟩ (Nat.le_of_ble_eq_true rfl) rfl rfl dX5_turnRound_23 ?_
        refine G.istore_n (lv' := [(3, .int (v6)), (0, .ref (a0)), (1, .ref (a1)), (2, .int (x2))]) C dX5_turnRound_26 rfl (by decide) rfl ?_
        refine G.aload_n C 1 dX5_turnRound_27 rfl rfl ?_
        refine G.getR (ci := 4) (k := 4) C rfl inlX5 (by decide) m9_25 rfl hf dX5_turnRound_28 (fun v7 hv7 hf => ?_)
        try dsimp only at hf
        refine G.iload_n C 0 dX5_turnRound_31 rfl rfl ?_
        refine G.aload_n C 2 dX5_turnRound_32 rfl rfl ?_
        obtain ⟨v8, hv8, hf⟩ := bind_some hf
        try dsimp only at hf
        refine G.callV C (st := [.int (v6), .ref (v7)]) (st2 := [.int (v8), .int (v6), .ref (v7)]) (ct_X2_length hv8) (ko_X2_length hv8) rfl m9_154 m9_93 m9_94 m9_24 m9_95 kd_X2_length ⟨Nat.le_of_ble_eq_true rfl, Nat.le_of_ble_eq_true rfl⟩ ⟨Nat.zero_le _, Nat.zero_le _⟩ (Nat.le_of_ble_eq_true rfl) rfl rfl dX5_turnRound_33 ?_
        refine G.iconst (v := 1) C dX5_turnRound_36 (by decide) ?_
        refine G.isub C dX5_turnRound_37 ?_
        refine G.aload_n C 2 dX5_turnRound_38 rfl rfl ?_
        refine G.iload_n C 0 dX5_turnRound_39 rfl rfl ?_
        obtain ⟨v9, hv9, hf⟩ := bind_some hf
        try dsimp only at hf
        refine G.callV C (st := [.int ((v8 - (1 : Int32))), .int (v6), .ref (v7)]) (st2 := [.int (v9), .int ((v8 - (1 : Int32))), .int (v6), .ref (v7)]) (ct_X2_lastOf hv9) (ko_X2_lastOf hv9) rfl m9_282 m9_207 m9_208 m9_24 m9_209 kd_X2_lastOf ⟨Nat.le_of_ble_eq_true rfl, Nat.le_of_ble_eq_true rfl⟩ ⟨Nat.zero_le _, Nat.zero_le _⟩ (Nat.le_of_ble_eq_true rfl) rfl rfl dX5_turnRound_40 ?_
        refine G.isub C dX5_turnRound_43 ?_
        refine G.aload_n C 1 dX5_turnRound_44 rfl rfl ?_
        refine G.getR (ci := 4) (k := 0) C rfl inlX5 (by decide) m9_12 rfl hf dX5_turnRound_45 (fun v10 hv10 hf => ?_)
        try dsimp only at hf
        refine G.iload_n C 0 dX5_turnRound_48 rfl rfl ?_
        obtain ⟨v11, hv11, hf⟩ := bind_some hf
        try dsimp only at hf
        refine G.callV C (st := [.int (((v8 - (1 : Int32)) - v9)), .int (v6), .ref (v7)]) (st2 := [.int (v11), .int (((v8 - (1 : Int32)) - v9)), .int (v6), .ref (v7)]) (ct_X3_gapAt hv11) (ko_X3_gapAt hv11) rfl m9_180 m9_181 m9_182 m9_11 m9_183 kd_X3_gapAt ⟨Nat.le_of_ble_eq_true rfl, Nat.le_of_ble_eq_true rfl⟩ ⟨Nat.zero_le _, Nat.zero_le _⟩ (Nat.le_of_ble_eq_true rfl) rfl rfl dX5_turnRound_49 ?_
        obtain ⟨⟨v12, h13⟩, hv12, hf⟩ := bind_some hf
        try dsimp only at hf
        refine G.callV C (st := []) (st2 := [.int (v12)]) (ct_X2_put hv12) (ko_X2_put hv12) rfl m9_299 m9_300 m9_301 m9_24 m9_302 kd_X2_put ⟨Nat.le_of_ble_eq_true rfl, Nat.le_of_ble_eq_true rfl⟩ ⟨Nat.zero_le _, Nat.zero_le _⟩ (Nat.le_of_ble_eq_true rfl) rfl rfl dX5_turnRound_52 ?_
        refine G.pop C dX5_turnRound_55 rfl ?_
        refine G.iinc (k := 3) (v := (x2 + 1)) (lv' := [(2, .int ((x2 + 1))), (3, .int (v6)), (0, .ref (a0)), (1, .ref (a1))]) C dX5_turnRound_56 rfl rfl (by decide) rfl ?_
        refine G.goto (tgt := 13) C dX5_turnRound_59 (by decide) ?_
        cases hf
        refine G.sub C [2, 3, 0] (lv' := [(0, .ref (a0)), (1, .ref (a1)), (2, .int ((x2 + 1)))]) rfl ?_
        exact ih4 _ _ hlp4
  refine G.sub C [1, 2, 0] (lv' := [(0, .ref (a0)), (1, .ref (a1)), (2, .int ((0 : Int32)))]) rfl ?_
  exact hloop4 LF _ _ hlp4
theorem ko_X5_turn {h : PH} {a0 : Nat} {a1 : Int32} {r : (Except (String × PH) (Int32 × PH))} (hf : f_X5_turn h a0 a1 = some r) : kO h a0 4 := by
  unfold f_X5_turn at hf
  exact okO_k (gd_ok hf).1
theorem kd_X5_turn : yX5_turn.cls = RX5 ∧ yX5_turn.cls ≠ "java/lang/invoke/MethodHandle" ∧ yX5_turn.cls ≠ "java/lang/invoke/VarHandle" ∧ (parseMethodDescriptor yX5_turn.desc).map (fun d => d.parameters.length) = some 1 := by decide +kernel
set_option maxRecDepth 20000 in
set_option maxHeartbeats 4000000 in
theorem cx_X5_turn {l : Launch} {h : PH} {a0 : Nat} {a1 : Int32} {r : (Except (String × PH) (Int32 × PH))} (hf : f_X5_turn h a0 a1 = some r) : CX l yX5_turn cX5_turn 3 (some .int) 7 112 [.ref (a0), .int (a1)] h (xIW r) := by
  refine CX.of (own := RX5) rfl (by decide) (Nat.le_of_ble_eq_true rfl) ?_
  intro p e R s m args below meth c g X hR C TT tab
  subst hR
  unfold f_X5_turn at hf
  obtain ⟨hok, hf⟩ := gd_ok hf
  refine G.sub C [0, 1] (lv' := [(0, .ref (a0)), (1, .int (a1))]) rfl ?_
  refine G.aload_n C 0 dX5_turn_0 rfl rfl ?_
  refine G.iload_n C 1 dX5_turn_1 rfl rfl ?_
  obtain ⟨r1, hr1, hf⟩ := bind_some hf
  cases r1 with
  | error E4 =>
    try dsimp only at hf
    cases hf
    exact G.callXe C TT tab (st := []) (cx_X5_existing hr1) rfl rfl ⟨rfl, rfl⟩ (ko_X5_existing hr1) rfl m9_143 m9_144 m9_145 m9_2 m9_146 kd_X5_existing ⟨Nat.le_of_ble_eq_true rfl, Nat.le_of_ble_eq_true rfl⟩ (Nat.le_of_ble_eq_true rfl) rfl dX5_turn_2
  | ok v2 =>
    try dsimp only at hf
    refine G.callXo C TT (st := []) (st2 := [.ref (v2)]) (cx_X5_existing hr1) rfl (ko_X5_existing hr1) rfl m9_143 m9_144 m9_145 m9_2 m9_146 kd_X5_existing ⟨Nat.le_of_ble_eq_true rfl, Nat.le_of_ble_eq_true rfl⟩ (Nat.le_of_ble_eq_true rfl) rfl rfl dX5_turn_2 ?_
    refine G.astore_n (lv' := [(2, .ref (v2)), (0, .ref (a0)), (1, .int (a1))]) C dX5_turn_5 rfl (by decide) rfl ?_
    refine G.aload_n C 1 dX5_turn_6 rfl rfl ?_
    refine G.getR (ci := 4) (k := 2) C rfl inlX5 (by decide) m9_17 rfl hf dX5_turn_7 (fun v5 hv5 hf => ?_)
    try dsimp only at hf
    refine G.aload_n C 1 dX5_turn_10 rfl rfl ?_
    refine G.getR (ci := 4) (k := 0) C rfl inlX5 (by decide) m9_12 rfl hf dX5_turn_11 (fun v6 hv6 hf => ?_)
    try dsimp only at hf
    obtain ⟨h7, hh7, hf⟩ := bind_some hf
    try dsimp only at hf
    refine G.callV C (st := []) (st2 := []) (ct_X0_save hh7) (ko_X0_save hh7) rfl m9_348 m9_349 m9_350 m9_16 m9_351 kd_X0_save ⟨Nat.le_of_ble_eq_true rfl, Nat.le_of_ble_eq_true rfl⟩ ⟨Nat.zero_le _, Nat.zero_le _⟩ (Nat.le_of_ble_eq_true rfl) rfl rfl dX5_turn_14 ?_
    refine G.aload_n C 1 dX5_turn_17 rfl rfl ?_
    refine G.aload_n C 0 dX5_turn_18 rfl rfl ?_
    obtain ⟨⟨v8, h9⟩, hv8, hf⟩ := bind_some hf
    try dsimp only at hf
    refine G.callV C (st := []) (st2 := [.int (v8)]) (ct_X5_turnRound hv8) (ko_X5_turnRound hv8) rfl m9_450 m9_451 m9_452 m9_2 m9_453 kd_X5_turnRound ⟨Nat.le_of_ble_eq_true rfl, Nat.le_of_ble_eq_true rfl⟩ ⟨Nat.zero_le _, Nat.zero_le _⟩ (Nat.le_of_ble_eq_true rfl) rfl rfl dX5_turn_19 ?_
    cases hf
    refine G.retX rfl ?_
    exact G.iret C rfl dX5_turn_22
theorem ko_X5_draftLaid {h : PH} {a0 : Nat} {a1 : Int32} {a2 : Int32} {r : (Int32 × PH)} (hf : f_X5_draftLaid h a0 a1 a2 = some r) : kO h a0 4 := by
  unfold f_X5_draftLaid at hf
  exact okO_k (gd_ok hf).1
theorem kd_X5_draftLaid : yX5_draftLaid.cls = RX5 ∧ yX5_draftLaid.cls ≠ "java/lang/invoke/MethodHandle" ∧ yX5_draftLaid.cls ≠ "java/lang/invoke/VarHandle" ∧ (parseMethodDescriptor yX5_draftLaid.desc).map (fun d => d.parameters.length) = some 2 := by decide +kernel
set_option maxRecDepth 20000 in
set_option maxHeartbeats 4000000 in
theorem ct_X5_draftLaid {l : Launch} {h : PH} {a0 : Nat} {a1 : Int32} {a2 : Int32} {r : (Int32 × PH)} (hf : f_X5_draftLaid h a0 a1 a2 = some r) : CT l yX5_draftLaid cX5_draftLaid 4 (some .boolean) 2 48 [.ref (a0), .int (a1), .int (a2)] h (some (.int r.1)) r.2 := by
  refine CT.of (own := RX5) rfl (by decide) (Nat.le_of_ble_eq_true rfl) ?_
  intro p e R s m args below meth c g X hR C
  subst hR
  unfold f_X5_draftLaid at hf
  obtain ⟨hok, hf⟩ := gd_ok hf
  refine G.sub C [0, 1, 2] (lv' := [(0, .ref (a0)), (1, .int (a1)), (2, .int (a2))]) rfl ?_
  refine G.aload_n C 0 dX5_draftLaid_0 rfl rfl ?_
  refine G.getR (ci := 4) (k := 0) C rfl inlX5 (by decide) m9_12 rfl hf dX5_draftLaid_1 (fun v1 hv1 hf => ?_)
  try dsimp only at hf
  refine G.iload_n C 1 dX5_draftLaid_4 rfl rfl ?_
  obtain ⟨v2, hv2, hf⟩ := bind_some hf
  try dsimp only at hf
  refine G.callV C (st := []) (st2 := [.int (v2)]) (ct_X3_gapAt hv2) (ko_X3_gapAt hv2) rfl m9_180 m9_181 m9_182 m9_11 m9_183 kd_X3_gapAt ⟨Nat.le_of_ble_eq_true rfl, Nat.le_of_ble_eq_true rfl⟩ ⟨Nat.zero_le _, Nat.zero_le _⟩ (Nat.le_of_ble_eq_true rfl) rfl rfl dX5_draftLaid_5 ?_
  refine G.istore_n (lv' := [(3, .int (v2)), (0, .ref (a0)), (1, .int (a1)), (2, .int (a2))]) C dX5_draftLaid_8 rfl (by decide) rfl ?_
  refine G.aload_n C 1 dX5_draftLaid_9 rfl rfl ?_
  refine G.getR (ci := 4) (k := 4) C rfl inlX5 (by decide) m9_25 rfl hf dX5_draftLaid_10 (fun v3 hv3 hf => ?_)
  try dsimp only at hf
  refine G.iload_n C 2 dX5_draftLaid_13 rfl rfl ?_
  refine G.iload_n C 3 dX5_draftLaid_14 rfl rfl ?_
  refine G.iload_n C 0 dX5_draftLaid_15 rfl rfl ?_
  obtain ⟨v4, hv4, hf⟩ := bind_some hf
  try dsimp only at hf
  refine G.callV C (st := []) (st2 := [.int (v4)]) (ct_X2_reasonAgainst hv4) (ko_X2_reasonAgainst hv4) rfl m9_258 m9_232 m9_233 m9_24 m9_234 kd_X2_reasonAgainst ⟨Nat.le_of_ble_eq_true rfl, Nat.le_of_ble_eq_true rfl⟩ ⟨Nat.zero_le _, Nat.zero_le _⟩ (Nat.le_of_ble_eq_true rfl) rfl rfl dX5_draftLaid_16 ?_
  refine G.if_eq (tgt := 24) C dX5_draftLaid_19 (by decide) hf (fun c9 hf => ?_) (fun c9 hf => ?_)
  · refine G.aload_n C 1 dX5_draftLaid_24 rfl rfl ?_
    refine G.getR (ci := 4) (k := 4) C rfl inlX5 (by decide) m9_25 rfl hf dX5_draftLaid_25 (fun v5 hv5 hf => ?_)
    try dsimp only at hf
    refine G.iload_n C 2 dX5_draftLaid_28 rfl rfl ?_
    refine G.iload_n C 3 dX5_draftLaid_29 rfl rfl ?_
    refine G.iload_n C 0 dX5_draftLaid_30 rfl rfl ?_
    obtain ⟨⟨v6, h7⟩, hv6, hf⟩ := bind_some hf
    try dsimp only at hf
    refine G.callV C (st := []) (st2 := [.int (v6)]) (ct_X2_put hv6) (ko_X2_put hv6) rfl m9_299 m9_300 m9_301 m9_24 m9_302 kd_X2_put ⟨Nat.le_of_ble_eq_true rfl, Nat.le_of_ble_eq_true rfl⟩ ⟨Nat.zero_le _, Nat.zero_le _⟩ (Nat.le_of_ble_eq_true rfl) rfl rfl dX5_draftLaid_31 ?_
    refine G.pop C dX5_draftLaid_34 rfl ?_
    refine G.iconst (v := 1) C dX5_draftLaid_35 (by decide) ?_
    cases hf
    exact G.zret (v := (1 : Int32)) C rfl rfl dX5_draftLaid_36
  · refine G.iconst (v := 0) C dX5_draftLaid_22 (by decide) ?_
    cases hf
    exact G.zret (v := (0 : Int32)) C rfl rfl dX5_draftLaid_23
theorem ko_X5_draftJoined {h : PH} {a0 : Nat} {a1 : Nat} {a2 : Nat} {r : (Int32 × PH)} (hf : f_X5_draftJoined h a0 a1 a2 = some r) : kO h a0 4 := by
  unfold f_X5_draftJoined at hf
  exact okO_k (gd_ok hf).1
theorem kd_X5_draftJoined : yX5_draftJoined.cls = RX5 ∧ yX5_draftJoined.cls ≠ "java/lang/invoke/MethodHandle" ∧ yX5_draftJoined.cls ≠ "java/lang/invoke/VarHandle" ∧ (parseMethodDescriptor yX5_draftJoined.desc).map (fun d => d.parameters.length) = some 2 := by decide +kernel
set_option maxRecDepth 20000 in
set_option maxHeartbeats 4000000 in
theorem ct_X5_draftJoined {l : Launch} {h : PH} {a0 : Nat} {a1 : Nat} {a2 : Nat} {r : (Int32 × PH)} (hf : f_X5_draftJoined h a0 a1 a2 = some r) : CT l yX5_draftJoined cX5_draftJoined 7 (some .boolean) 3 71 [.ref (a0), .ref (a1), .ref (a2)] h (some (.int r.1)) r.2 := by
  refine CT.of (own := RX5) rfl (by decide) (Nat.le_of_ble_eq_true rfl) ?_
  intro p e R s m args below meth c g X hR C
  subst hR
  unfold f_X5_draftJoined at hf
  obtain ⟨hok, hf⟩ := gd_ok hf
  have hj153 : ∀ (hh : PH) (x3 : Int32), f_X5_draftJoined_J153 hh (x3) = some r → G p l e ({ frames := 3, cells := 0, slots := 0, locals := 71 } : Room) s m args below meth c 7 g X h 0 0 (MQ below (QW g X h s.heap.size (some (.int r.1)) r.2) args s 0 0 (AF X h s.heap.size)) 153 [(3, .int (x3))] [] hh := by
    intro hh x3 hf
    unfold f_X5_draftJoined_J153 at hf
    refine G.iload_n C 0 dX5_draftJoined_153 rfl rfl ?_
    obtain ⟨c25, hf⟩ := gd_ok hf
    cases hf
    exact G.zret C rfl (z01_n c25) dX5_draftJoined_154
  have hj70 : ∀ (hh : PH) (x0 : Nat) (x1 : Nat) (x2 : Nat) (x3 : Int32), f_X5_draftJoined_J70 hh (x0) (x1) (x2) (x3) = some r → G p l e ({ frames := 3, cells := 0, slots := 0, locals := 71 } : Room) s m args below meth c 7 g X h 0 0 (MQ below (QW g X h s.heap.size (some (.int r.1)) r.2) args s 0 0 (AF X h s.heap.size)) 70 [(0, .ref (x0)), (1, .ref (x1)), (2, .ref (x2)), (3, .int (x3))] [] hh := by
    intro hh x0 x1 x2 x3 hf
    unfold f_X5_draftJoined_J70 at hf
    refine G.iconst (v := 0) C dX5_draftJoined_70 (by decide) ?_
    refine G.istore (lv' := [(4, .int ((0 : Int32))), (0, .ref (x0)), (1, .ref (x1)), (2, .ref (x2)), (3, .int (x3))]) C dX5_draftJoined_71 (by decide) rfl ?_
    obtain ⟨z26, hlp26, hfo26⟩ := bind_some hf
    clear hf
    have hloop26 : ∀ (k : Nat), ∀ (x3 : Int32) (x4 : Int32) (hh : PH), (lpn (f_X5_draftJoined_L73 (x0) (x1) (x2)) k (x3, x4, hh)) = some z26 → G p l e ({ frames := 3, cells := 0, slots := 0, locals := 71 } : Room) s m args below meth c 7 g X h 0 0 (MQ below (QW g X h s.heap.size (some (.int r.1)) r.2) args s 0 0 (AF X h s.heap.size)) 73 [(0, .ref (x0)), (1, .ref (x1)), (2, .ref (x2)), (3, .int (x3)), (4, .int (x4))] [] hh := by
      intro k
      induction k with
      | zero => intro x3 x4 hh hlp26; exact (lpn_0 hlp26).elim
      | succ k ih26 =>
        intro x3 x4 hh hlp26
        obtain ⟨y26, hf, hlp26⟩ := lpn_s hlp26
        unfold f_X5_draftJoined_L73 at hf
        try dsimp only at hf
        have hj147 : ∀ (hh : PH) (x3 : Int32) (x4 : Int32), f_X5_draftJoined_J147 hh (x0) (x1) (x2) (x3) (x4) = some y26 → G p l e ({ frames := 3, cells := 0, slots := 0, locals := 71 } : Room) s m args below meth c 7 g X h 0 0 (MQ below (QW g X h s.heap.size (some (.int r.1)) r.2) args s 0 0 (AF X h s.heap.size)) 147 [(0, .ref (x0)), (1, .ref (x1)), (2, .ref (x2)), (3, .int (x3)), (4, .int (x4))] [] hh := by
          intro hh x3 x4 hf
          unfold f_X5_draftJoined_J147 at hf
          refine G.iinc (k := 4) (v := (x4 + 1)) (lv' := [(4, .int ((x4 + 1))), (0, .ref (x0)), (1, .ref (x1)), (2, .ref (x2)), (3, .int (x3))]) C dX5_draftJoined_147 rfl rfl (by decide) rfl ?_
          refine G.goto (tgt := 73) C dX5_draftJoined_150 (by decide) ?_
          cases hf
          refine G.sub C [1, 2, 3, 4, 0] (lv' := [(0, .ref (x0)), (1, .ref (x1)), (2, .ref (x2)), (3, .int (x3)), (4, .int ((x4 + 1)))]) rfl ?_
          exact ih26 _ _ _ hlp26
        have hj146 : ∀ (hh : PH) (x4 : Int32) (k0 : Int32), f_X5_draftJoined_J146 hh (x0) (x1) (x2) (x4) k0 = some y26 → G p l e ({ frames := 3, cells := 0, slots := 0, locals := 71 } : Room) s m args below meth c 7 g X h 0 0 (MQ below (QW g X h s.heap.size (some (.int r.1)) r.2) args s 0 0 (AF X h s.heap.size)) 146 [(0, .ref (x0)), (1, .ref (x1)), (2, .ref (x2)), (4, .int (x4))] [.int (k0)] hh := by
          intro hh x4 k0 hf
          unfold f_X5_draftJoined_J146 at hf
          refine G.istore_n (lv' := [(3, .int (k0)), (0, .ref (x0)), (1, .ref (x1)), (2, .ref (x2)), (4, .int (x4))]) C dX5_draftJoined_146 rfl (by decide) rfl ?_
          refine G.sub C [1, 2, 3, 0, 4] (lv' := [(0, .ref (x0)), (1, .ref (x1)), (2, .ref (x2)), (3, .int (k0)), (4, .int (x4))]) rfl ?_
          exact hj147 _ _ _ hf
        have hj145 : ∀ (hh : PH) (x4 : Int32), f_X5_draftJoined_J145 hh (x0) (x1) (x2) (x4) = some y26 → G p l e ({ frames := 3, cells := 0, slots := 0, locals := 71 } : Room) s m args below meth c 7 g X h 0 0 (MQ below (QW g X h s.heap.size (some (.int r.1)) r.2) args s 0 0 (AF X h s.heap.size)) 145 [(0, .ref (x0)), (1, .ref (x1)), (2, .ref (x2)), (4, .int (x4))] [] hh := by
          intro hh x4 hf
          unfold f_X5_draftJoined_J145 at hf
          refine G.iconst (v := 0) C dX5_draftJoined_145 (by decide) ?_
          refine G.sub C [0, 1, 2, 3] (lv' := [(0, .ref (x0)), (1, .ref (x1)), (2, .ref (x2)), (4, .int (x4))]) rfl ?_
          exact hj146 _ _ _ hf
        refine G.iload C 4 dX5_draftJoined_73 rfl ?_
        refine G.aload_n C 2 dX5_draftJoined_75 rfl rfl ?_
        obtain ⟨v27, hv27, hf⟩ := bind_some hf
        try dsimp only at hf
        refine G.callV C (st := [.int (x4)]) (st2 := [.int (v27), .int (x4)]) (ct_X2_hueCount hv27) (ko_X2_hueCount hv27) rfl m9_155 m9_156 m9_157 m9_24 m9_158 kd_X2_hueCount ⟨Nat.le_of_ble_eq_true rfl, Nat.le_of_ble_eq_true rfl⟩ ⟨Nat.zero_le _, Nat.zero_le _⟩ (Nat.le_of_ble_eq_true rfl) rfl rfl dX5_draftJoined_76 ?_
        refine G.icmp_ge (tgt := 153) C dX5_draftJoined_79 (by decide) hf (fun c41 hf => ?_) (fun c41 hf => ?_)
        · cases hf
          change some _ = some _ at hlp26
          have hf := hfo26
          try rw [← Option.some.inj hlp26] at hf
          try dsimp only at hf
          refine G.sub C [3] (lv' := [(3, .int (x3))]) rfl ?_
          exact hj153 _ _ hf
        · refine G.aload_n C 2 dX5_draftJoined_82 rfl rfl ?_
          refine G.iload C 4 dX5_draftJoined_83 rfl ?_
          obtain ⟨v28, hv28, hf⟩ := bind_some hf
          try dsimp only at hf
          refine G.callV C (st := []) (st2 := [.int (v28)]) (ct_X2_hueAt hv28) (ko_X2_hueAt hv28) rfl m9_176 m9_177 m9_178 m9_24 m9_179 kd_X2_hueAt ⟨Nat.le_of_ble_eq_true rfl, Nat.le_of_ble_eq_true rfl⟩ ⟨Nat.zero_le _, Nat.zero_le _⟩ (Nat.le_of_ble_eq_true rfl) rfl rfl dX5_draftJoined_85 ?_
          refine G.istore (lv' := [(5, .int (v28)), (0, .ref (x0)), (1, .ref (x1)), (2, .ref (x2)), (3, .int (x3)), (4, .int (x4))]) C dX5_draftJoined_88 (by decide) rfl ?_
          refine G.aload_n C 2 dX5_draftJoined_90 rfl rfl ?_
          refine G.iload C 0 dX5_draftJoined_91 rfl ?_
          obtain ⟨v29, hv29, hf⟩ := bind_some hf
          try dsimp only at hf
          refine G.callV C (st := []) (st2 := [.int (v29)]) (ct_X2_orderOf hv29) (ko_X2_orderOf hv29) rfl m9_283 m9_117 m9_118 m9_24 m9_119 kd_X2_orderOf ⟨Nat.le_of_ble_eq_true rfl, Nat.le_of_ble_eq_true rfl⟩ ⟨Nat.zero_le _, Nat.zero_le _⟩ (Nat.le_of_ble_eq_true rfl) rfl rfl dX5_draftJoined_93 ?_
          refine G.iconst (v := (-1)) C dX5_draftJoined_96 (by decide) ?_
          refine G.icmp_ne (tgt := 147) C dX5_draftJoined_97 (by decide) hf (fun c40 hf => ?_) (fun c40 hf => ?_)
          · refine G.sub C [1, 2, 3, 4, 5] (lv' := [(0, .ref (x0)), (1, .ref (x1)), (2, .ref (x2)), (3, .int (x3)), (4, .int (x4))]) rfl ?_
            exact hj147 _ _ _ hf
          · refine G.aload_n C 2 dX5_draftJoined_100 rfl rfl ?_
            obtain ⟨v30, hv30, hf⟩ := bind_some hf
            try dsimp only at hf
            refine G.callV C (st := []) (st2 := [.int (v30)]) (ct_X2_length hv30) (ko_X2_length hv30) rfl m9_154 m9_93 m9_94 m9_24 m9_95 kd_X2_length ⟨Nat.le_of_ble_eq_true rfl, Nat.le_of_ble_eq_true rfl⟩ ⟨Nat.zero_le _, Nat.zero_le _⟩ (Nat.le_of_ble_eq_true rfl) rfl rfl dX5_draftJoined_101 ?_
            refine G.aload_n C 3 dX5_draftJoined_104 rfl rfl ?_
            refine G.iload C 0 dX5_draftJoined_105 rfl ?_
            refine G.iconst (v := 0) C dX5_draftJoined_107 (by decide) ?_
            obtain ⟨v31, hv31, hf⟩ := bind_some hf
            try dsimp only at hf
            refine G.callV C (st := [.int (v30)]) (st2 := [.int (v31), .int (v30)]) (ct_X2_firstFrom hv31) (ko_X2_firstFrom hv31) rfl m9_160 m9_161 m9_162 m9_24 m9_163 kd_X2_firstFrom ⟨Nat.le_of_ble_eq_true rfl, Nat.le_of_ble_eq_true rfl⟩ ⟨Nat.zero_le _, Nat.zero_le _⟩ (Nat.le_of_ble_eq_true rfl) rfl rfl dX5_draftJoined_108 ?_
            refine G.iadd C dX5_draftJoined_111 ?_
            refine G.istore (lv' := [(6, .int ((v30 + v31))), (5, .int (v28)), (0, .ref (x0)), (1, .ref (x1)), (2, .ref (x2)), (3, .int (x3)), (4, .int (x4))]) C dX5_draftJoined_112 (by decide) rfl ?_
            refine G.aload_n C 2 dX5_draftJoined_114 rfl rfl ?_
            refine G.iload C 1 dX5_draftJoined_115 rfl ?_
            refine G.iload C 0 dX5_draftJoined_117 rfl ?_
            refine G.aload_n C 2 dX5_draftJoined_119 rfl rfl ?_
            refine G.getR (ci := 4) (k := 0) C rfl inlX5 (by decide) m9_12 rfl hf dX5_draftJoined_120 (fun v32 hv32 hf => ?_)
            try dsimp only at hf
            refine G.iload C 1 dX5_draftJoined_123 rfl ?_
            obtain ⟨v33, hv33, hf⟩ := bind_some hf
            try dsimp only at hf
            refine G.callV C (st := [.int ((v30 + v31)), .int (v28), .ref (x0)]) (st2 := [.int (v33), .int ((v30 + v31)), .int (v28), .ref (x0)]) (ct_X3_gapAt hv33) (ko_X3_gapAt hv33) rfl m9_180 m9_181 m9_182 m9_11 m9_183 kd_X3_gapAt ⟨Nat.le_of_ble_eq_true rfl, Nat.le_of_ble_eq_true rfl⟩ ⟨Nat.zero_le _, Nat.zero_le _⟩ (Nat.le_of_ble_eq_true rfl) rfl rfl dX5_draftJoined_125 ?_
            obtain ⟨v34, hv34, hf⟩ := bind_some hf
            try dsimp only at hf
            refine G.callS C (st := [.int (v28), .ref (x0)]) (st2 := [.int (v34), .int (v28), .ref (x0)]) (ct_X1_remainder hv34) m9_271 m9_272 m9_186 m9_273 kd_X1_remainder ⟨Nat.le_of_ble_eq_true rfl, Nat.le_of_ble_eq_true rfl⟩ ⟨Nat.zero_le _, Nat.zero_le _⟩ (Nat.le_of_ble_eq_true rfl) rfl rfl dX5_draftJoined_128 ?_
            obtain ⟨⟨v35, h36⟩, hv35, hf⟩ := bind_some hf
            try dsimp only at hf
            refine G.callV C (st := []) (st2 := [.int (v35)]) (ct_X5_draftLaid hv35) (ko_X5_draftLaid hv35) rfl m9_295 m9_296 m9_297 m9_2 m9_298 kd_X5_draftLaid ⟨Nat.le_of_ble_eq_true rfl, Nat.le_of_ble_eq_true rfl⟩ ⟨Nat.zero_le _, Nat.zero_le _⟩ (Nat.le_of_ble_eq_true rfl) rfl rfl dX5_draftJoined_131 ?_
            refine G.if_eq (tgt := 145) C dX5_draftJoined_134 (by decide) hf (fun c39 hf => ?_) (fun c39 hf => ?_)
            · refine G.sub C [2, 3, 4, 6] (lv' := [(0, .ref (x0)), (1, .ref (x1)), (2, .ref (x2)), (4, .int (x4))]) rfl ?_
              exact hj145 _ _ hf
            · refine G.iload_n C 5 dX5_draftJoined_137 rfl rfl ?_
              refine G.if_eq (tgt := 145) C dX5_draftJoined_138 (by decide) hf (fun c38 hf => ?_) (fun c38 hf => ?_)
              · refine G.sub C [2, 3, 4, 6] (lv' := [(0, .ref (x0)), (1, .ref (x1)), (2, .ref (x2)), (4, .int (x4))]) rfl ?_
                exact hj145 _ _ hf
              · refine G.iconst (v := 1) C dX5_draftJoined_141 (by decide) ?_
                refine G.goto (tgt := 146) C dX5_draftJoined_142 (by decide) ?_
                refine G.sub C [2, 3, 4, 6] (lv' := [(0, .ref (x0)), (1, .ref (x1)), (2, .ref (x2)), (4, .int (x4))]) rfl ?_
                exact hj146 _ _ _ hf
    refine G.sub C [1, 2, 3, 4, 0] (lv' := [(0, .ref (x0)), (1, .ref (x1)), (2, .ref (x2)), (3, .int (x3)), (4, .int ((0 : Int32)))]) rfl ?_
    exact hloop26 LF _ _ _ hlp26
  refine G.sub C [0, 1, 2] (lv' := [(0, .ref (a0)), (1, .ref (a1)), (2, .ref (a2))]) rfl ?_
  refine G.aload_n C 0 dX5_draftJoined_0 rfl rfl ?_
  refine G.getR (ci := 4) (k := 4) C rfl inlX5 (by decide) m9_25 rfl hf dX5_draftJoined_1 (fun v1 hv1 hf => ?_)
  try dsimp only at hf
  refine G.aload_n C 1 dX5_draftJoined_4 rfl rfl ?_
  obtain ⟨v2, hv2, hf⟩ := bind_some hf
  try dsimp only at hf
  refine G.callV C (st := [.ref (v1)]) (st2 := [.int (v2), .ref (v1)]) (ct_X2_length hv2) (ko_X2_length hv2) rfl m9_154 m9_93 m9_94 m9_24 m9_95 kd_X2_length ⟨Nat.le_of_ble_eq_true rfl, Nat.le_of_ble_eq_true rfl⟩ ⟨Nat.zero_le _, Nat.zero_le _⟩ (Nat.le_of_ble_eq_true rfl) rfl rfl dX5_draftJoined_5 ?_
  refine G.aload_n C 2 dX5_draftJoined_8 rfl rfl ?_
  obtain ⟨v3, hv3, hf⟩ := bind_some hf
  try dsimp only at hf
  refine G.callV C (st := [.int (v2), .ref (v1)]) (st2 := [.int (v3), .int (v2), .ref (v1)]) (ct_X2_length hv3) (ko_X2_length hv3) rfl m9_154 m9_93 m9_94 m9_24 m9_95 kd_X2_length ⟨Nat.le_of_ble_eq_true rfl, Nat.le_of_ble_eq_true rfl⟩ ⟨Nat.zero_le _, Nat.zero_le _⟩ (Nat.le_of_ble_eq_true rfl) rfl rfl dX5_draftJoined_9 ?_
  refine G.iadd C dX5_draftJoined_12 ?_
  obtain ⟨h4, hh4, hf⟩ := bind_some hf
  try dsimp only at hf
  refine G.callV C (st := []) (st2 := []) (ct_X2_begin hh4) (ko_X2_begin hh4) rfl m9_288 m9_289 m9_290 m9_24 m9_291 kd_X2_begin ⟨Nat.le_of_ble_eq_true rfl, Nat.le_of_ble_eq_true rfl⟩ ⟨Nat.zero_le _, Nat.zero_le _⟩ (Nat.le_of_ble_eq_true rfl) rfl rfl dX5_draftJoined_13 ?_
  refine G.iconst (v := 1) C dX5_draftJoined_16 (by decide) ?_
  refine G.istore_n (lv' := [(3, .int ((1 : Int32))), (0, .ref (a0)), (1, .ref (a1)), (2, .ref (a2))]) C dX5_draftJoined_17 rfl (by decide) rfl ?_
  refine G.iconst (v := 0) C dX5_draftJoined_18 (by decide) ?_
  refine G.istore (lv' := [(4, .int ((0 : Int32))), (3, .int ((1 : Int32))), (0, .ref (a0)), (1, .ref (a1)), (2, .ref (a2))]) C dX5_draftJoined_19 (by decide) rfl ?_
  obtain ⟨z5, hlp5, hfo5⟩ := bind_some hf
  clear hf
  have hloop5 : ∀ (k : Nat), ∀ (x3 : Int32) (x4 : Int32) (hh : PH), (lpn (f_X5_draftJoined_L21 (a0) (a1) (a2)) k (x3, x4, hh)) = some z5 → G p l e ({ frames := 3, cells := 0, slots := 0, locals := 71 } : Room) s m args below meth c 7 g X h 0 0 (MQ below (QW g X h s.heap.size (some (.int r.1)) r.2) args s 0 0 (AF X h s.heap.size)) 21 [(0, .ref (a0)), (1, .ref (a1)), (2, .ref (a2)), (3, .int (x3)), (4, .int (x4))] [] hh := by
    intro k
    induction k with
    | zero => intro x3 x4 hh hlp5; exact (lpn_0 hlp5).elim
    | succ k ih5 =>
      intro x3 x4 hh hlp5
      obtain ⟨y5, hf, hlp5⟩ := lpn_s hlp5
      unfold f_X5_draftJoined_L21 at hf
      try dsimp only at hf
      have hj63 : ∀ (hh : PH) (x4 : Int32) (k0 : Int32), f_X5_draftJoined_J63 hh (a0) (a1) (a2) (x4) k0 = some y5 → G p l e ({ frames := 3, cells := 0, slots := 0, locals := 71 } : Room) s m args below meth c 7 g X h 0 0 (MQ below (QW g X h s.heap.size (some (.int r.1)) r.2) args s 0 0 (AF X h s.heap.size)) 63 [(0, .ref (a0)), (1, .ref (a1)), (2, .ref (a2)), (4, .int (x4))] [.int (k0)] hh := by
        intro hh x4 k0 hf
        unfold f_X5_draftJoined_J63 at hf
        refine G.istore_n (lv' := [(3, .int (k0)), (0, .ref (a0)), (1, .ref (a1)), (2, .ref (a2)), (4, .int (x4))]) C dX5_draftJoined_63 rfl (by decide) rfl ?_
        refine G.iinc (k := 4) (v := (x4 + 1)) (lv' := [(4, .int ((x4 + 1))), (3, .int (k0)), (0, .ref (a0)), (1, .ref (a1)), (2, .ref (a2))]) C dX5_draftJoined_64 rfl rfl (by decide) rfl ?_
        refine G.goto (tgt := 21) C dX5_draftJoined_67 (by decide) ?_
        cases hf
        refine G.sub C [2, 3, 4, 1, 0] (lv' := [(0, .ref (a0)), (1, .ref (a1)), (2, .ref (a2)), (3, .int (k0)), (4, .int ((x4 + 1)))]) rfl ?_
        exact ih5 _ _ _ hlp5
      have hj62 : ∀ (hh : PH) (x4 : Int32), f_X5_draftJoined_J62 hh (a0) (a1) (a2) (x4) = some y5 → G p l e ({ frames := 3, cells := 0, slots := 0, locals := 71 } : Room) s m args below meth c 7 g X h 0 0 (MQ below (QW g X h s.heap.size (some (.int r.1)) r.2) args s 0 0 (AF X h s.heap.size)) 62 [(0, .ref (a0)), (1, .ref (a1)), (2, .ref (a2)), (4, .int (x4))] [] hh := by
        intro hh x4 hf
        unfold f_X5_draftJoined_J62 at hf
        refine G.iconst (v := 0) C dX5_draftJoined_62 (by decide) ?_
        refine G.sub C [0, 1, 2, 3] (lv' := [(0, .ref (a0)), (1, .ref (a1)), (2, .ref (a2)), (4, .int (x4))]) rfl ?_
        exact hj63 _ _ _ hf
      refine G.iload C 4 dX5_draftJoined_21 rfl ?_
      refine G.aload_n C 1 dX5_draftJoined_23 rfl rfl ?_
      obtain ⟨v6, hv6, hf⟩ := bind_some hf
      try dsimp only at hf
      refine G.callV C (st := [.int (x4)]) (st2 := [.int (v6), .int (x4)]) (ct_X2_hueCount hv6) (ko_X2_hueCount hv6) rfl m9_155 m9_156 m9_157 m9_24 m9_158 kd_X2_hueCount ⟨Nat.le_of_ble_eq_true rfl, Nat.le_of_ble_eq_true rfl⟩ ⟨Nat.zero_le _, Nat.zero_le _⟩ (Nat.le_of_ble_eq_true rfl) rfl rfl dX5_draftJoined_24 ?_
      refine G.icmp_ge (tgt := 70) C dX5_draftJoined_27 (by decide) hf (fun c14 hf => ?_) (fun c14 hf => ?_)
      · cases hf
        change some _ = some _ at hlp5
        have hf := hfo5
        try rw [← Option.some.inj hlp5] at hf
        try dsimp only at hf
        refine G.sub C [0, 1, 2, 3] (lv' := [(0, .ref (a0)), (1, .ref (a1)), (2, .ref (a2)), (3, .int (x3))]) rfl ?_
        exact hj70 _ _ _ _ _ hf
      · refine G.aload_n C 1 dX5_draftJoined_30 rfl rfl ?_
        refine G.iload C 4 dX5_draftJoined_31 rfl ?_
        obtain ⟨v7, hv7, hf⟩ := bind_some hf
        try dsimp only at hf
        refine G.callV C (st := []) (st2 := [.int (v7)]) (ct_X2_hueAt hv7) (ko_X2_hueAt hv7) rfl m9_176 m9_177 m9_178 m9_24 m9_179 kd_X2_hueAt ⟨Nat.le_of_ble_eq_true rfl, Nat.le_of_ble_eq_true rfl⟩ ⟨Nat.zero_le _, Nat.zero_le _⟩ (Nat.le_of_ble_eq_true rfl) rfl rfl dX5_draftJoined_33 ?_
        refine G.istore (lv' := [(5, .int (v7)), (0, .ref (a0)), (1, .ref (a1)), (2, .ref (a2)), (3, .int (x3)), (4, .int (x4))]) C dX5_draftJoined_36 (by decide) rfl ?_
        refine G.aload_n C 1 dX5_draftJoined_38 rfl rfl ?_
        refine G.iload C 0 dX5_draftJoined_39 rfl ?_
        refine G.aload_n C 2 dX5_draftJoined_41 rfl rfl ?_
        refine G.iload C 0 dX5_draftJoined_42 rfl ?_
        refine G.iconst (v := 0) C dX5_draftJoined_44 (by decide) ?_
        obtain ⟨v8, hv8, hf⟩ := bind_some hf
        try dsimp only at hf
        refine G.callV C (st := [.int (v7), .ref (a0)]) (st2 := [.int (v8), .int (v7), .ref (a0)]) (ct_X2_firstFrom hv8) (ko_X2_firstFrom hv8) rfl m9_160 m9_161 m9_162 m9_24 m9_163 kd_X2_firstFrom ⟨Nat.le_of_ble_eq_true rfl, Nat.le_of_ble_eq_true rfl⟩ ⟨Nat.zero_le _, Nat.zero_le _⟩ (Nat.le_of_ble_eq_true rfl) rfl rfl dX5_draftJoined_45 ?_
        obtain ⟨⟨v9, h10⟩, hv9, hf⟩ := bind_some hf
        try dsimp only at hf
        refine G.callV C (st := []) (st2 := [.int (v9)]) (ct_X5_draftLaid hv9) (ko_X5_draftLaid hv9) rfl m9_295 m9_296 m9_297 m9_2 m9_298 kd_X5_draftLaid ⟨Nat.le_of_ble_eq_true rfl, Nat.le_of_ble_eq_true rfl⟩ ⟨Nat.zero_le _, Nat.zero_le _⟩ (Nat.le_of_ble_eq_true rfl) rfl rfl dX5_draftJoined_48 ?_
        refine G.if_eq (tgt := 62) C dX5_draftJoined_51 (by decide) hf (fun c13 hf => ?_) (fun c13 hf => ?_)
        · refine G.sub C [1, 2, 3, 5] (lv' := [(0, .ref (a0)), (1, .ref (a1)), (2, .ref (a2)), (4, .int (x4))]) rfl ?_
          exact hj62 _ _ hf
        · refine G.iload_n C 4 dX5_draftJoined_54 rfl rfl ?_
          refine G.if_eq (tgt := 62) C dX5_draftJoined_55 (by decide) hf (fun c12 hf => ?_) (fun c12 hf => ?_)
          · refine G.sub C [1, 2, 3, 5] (lv' := [(0, .ref (a0)), (1, .ref (a1)), (2, .ref (a2)), (4, .int (x4))]) rfl ?_
            exact hj62 _ _ hf
          · refine G.iconst (v := 1) C dX5_draftJoined_58 (by decide) ?_
            refine G.goto (tgt := 63) C dX5_draftJoined_59 (by decide) ?_
            refine G.sub C [1, 2, 3, 5] (lv' := [(0, .ref (a0)), (1, .ref (a1)), (2, .ref (a2)), (4, .int (x4))]) rfl ?_
            exact hj63 _ _ _ hf
  refine G.sub C [2, 3, 4, 1, 0] (lv' := [(0, .ref (a0)), (1, .ref (a1)), (2, .ref (a2)), (3, .int ((1 : Int32))), (4, .int ((0 : Int32)))]) rfl ?_
  exact hloop5 LF _ _ _ hlp5
theorem ko_X5_reasonAgainstJoining {h : PH} {a0 : Nat} {a1 : Nat} {a2 : Nat} {r : (Int32 × PH)} (hf : f_X5_reasonAgainstJoining h a0 a1 a2 = some r) : kO h a0 4 := by
  unfold f_X5_reasonAgainstJoining at hf
  exact okO_k (gd_ok hf).1
theorem kd_X5_reasonAgainstJoining : yX5_reasonAgainstJoining.cls = RX5 ∧ yX5_reasonAgainstJoining.cls ≠ "java/lang/invoke/MethodHandle" ∧ yX5_reasonAgainstJoining.cls ≠ "java/lang/invoke/VarHandle" ∧ (parseMethodDescriptor yX5_reasonAgainstJoining.desc).map (fun d => d.parameters.length) = some 2 := by decide +kernel
set_option maxRecDepth 20000 in
set_option maxHeartbeats 4000000 in
theorem ct_X5_reasonAgainstJoining {l : Launch} {h : PH} {a0 : Nat} {a1 : Nat} {a2 : Nat} {r : (Int32 × PH)} (hf : f_X5_reasonAgainstJoining h a0 a1 a2 = some r) : CT l yX5_reasonAgainstJoining cX5_reasonAgainstJoining 6 (some .int) 4 97 [.ref (a0), .ref (a1), .ref (a2)] h (some (.int r.1)) r.2 := by
  refine CT.of (own := RX5) rfl (by decide) (Nat.le_of_ble_eq_true rfl) ?_
  intro p e R s m args below meth c g X hR C
  subst hR
  unfold f_X5_reasonAgainstJoining at hf
  obtain ⟨hok, hf⟩ := gd_ok hf
  have hj78 : f_X5_reasonAgainstJoining_J78 h = some r → G p l e ({ frames := 4, cells := 0, slots := 0, locals := 97 } : Room) s m args below meth c 6 g X h 0 0 (MQ below (QW g X h s.heap.size (some (.int r.1)) r.2) args s 0 0 (AF X h s.heap.size)) 78 [] [] h := by
    intro hf
    unfold f_X5_reasonAgainstJoining_J78 at hf
    refine G.iconst (v := 3) C dX5_reasonAgainstJoining_78 (by decide) ?_
    cases hf
    exact G.iret C rfl dX5_reasonAgainstJoining_79
  have hj100 : ∀ (hh : PH) (k0 : Int32), f_X5_reasonAgainstJoining_J100 hh k0 = some r → G p l e ({ frames := 4, cells := 0, slots := 0, locals := 97 } : Room) s m args below meth c 6 g X h 0 0 (MQ below (QW g X h s.heap.size (some (.int r.1)) r.2) args s 0 0 (AF X h s.heap.size)) 100 [] [.int (k0)] hh := by
    intro hh k0 hf
    unfold f_X5_reasonAgainstJoining_J100 at hf
    cases hf
    exact G.iret C rfl dX5_reasonAgainstJoining_100
  have hj86 : ∀ (x0 : Nat) (x1 : Nat) (x2 : Nat), f_X5_reasonAgainstJoining_J86 h (x0) (x1) (x2) = some r → G p l e ({ frames := 4, cells := 0, slots := 0, locals := 97 } : Room) s m args below meth c 6 g X h 0 0 (MQ below (QW g X h s.heap.size (some (.int r.1)) r.2) args s 0 0 (AF X h s.heap.size)) 86 [(0, .ref (x0)), (1, .ref (x1)), (2, .ref (x2))] [] h := by
    intro x0 x1 x2 hf
    unfold f_X5_reasonAgainstJoining_J86 at hf
    refine G.aload_n C 0 dX5_reasonAgainstJoining_86 rfl rfl ?_
    refine G.aload_n C 1 dX5_reasonAgainstJoining_87 rfl rfl ?_
    refine G.aload_n C 2 dX5_reasonAgainstJoining_88 rfl rfl ?_
    obtain ⟨⟨v15, h16⟩, hv15, hf⟩ := bind_some hf
    try dsimp only at hf
    refine G.callV C (st := []) (st2 := [.int (v15)]) (ct_X5_draftJoined hv15) (ko_X5_draftJoined hv15) rfl m9_284 m9_285 m9_286 m9_2 m9_287 kd_X5_draftJoined ⟨Nat.le_of_ble_eq_true rfl, Nat.le_of_ble_eq_true rfl⟩ ⟨Nat.zero_le _, Nat.zero_le _⟩ (Nat.le_of_ble_eq_true rfl) rfl rfl dX5_reasonAgainstJoining_89 ?_
    refine G.if_eq (tgt := 99) C dX5_reasonAgainstJoining_92 (by decide) hf (fun c18 hf => ?_) (fun c18 hf => ?_)
    · refine G.iconst (v := 4) C dX5_reasonAgainstJoining_99 (by decide) ?_
      refine G.sub C [] (lv' := []) rfl ?_
      exact hj100 _ _ hf
    · refine G.iconst (v := 0) C dX5_reasonAgainstJoining_95 (by decide) ?_
      refine G.goto (tgt := 100) C dX5_reasonAgainstJoining_96 (by decide) ?_
      refine G.sub C [] (lv' := []) rfl ?_
      exact hj100 _ _ hf
  refine G.sub C [0, 1, 2] (lv' := [(0, .ref (a0)), (1, .ref (a1)), (2, .ref (a2))]) rfl ?_
  refine G.aload_n C 1 dX5_reasonAgainstJoining_0 rfl rfl ?_
  obtain ⟨v1, hv1, hf⟩ := bind_some hf
  try dsimp only at hf
  refine G.callV C (st := []) (st2 := [.int (v1)]) (ct_X2_length hv1) (ko_X2_length hv1) rfl m9_154 m9_93 m9_94 m9_24 m9_95 kd_X2_length ⟨Nat.le_of_ble_eq_true rfl, Nat.le_of_ble_eq_true rfl⟩ ⟨Nat.zero_le _, Nat.zero_le _⟩ (Nat.le_of_ble_eq_true rfl) rfl rfl dX5_reasonAgainstJoining_1 ?_
  refine G.aload_n C 2 dX5_reasonAgainstJoining_4 rfl rfl ?_
  obtain ⟨v2, hv2, hf⟩ := bind_some hf
  try dsimp only at hf
  refine G.callV C (st := [.int (v1)]) (st2 := [.int (v2), .int (v1)]) (ct_X2_length hv2) (ko_X2_length hv2) rfl m9_154 m9_93 m9_94 m9_24 m9_95 kd_X2_length ⟨Nat.le_of_ble_eq_true rfl, Nat.le_of_ble_eq_true rfl⟩ ⟨Nat.zero_le _, Nat.zero_le _⟩ (Nat.le_of_ble_eq_true rfl) rfl rfl dX5_reasonAgainstJoining_5 ?_
  refine G.iadd C dX5_reasonAgainstJoining_8 ?_
  refine G.bipush (v := 60) C dX5_reasonAgainstJoining_9 (by decide) ?_
  refine G.icmp_le (tgt := 16) C dX5_reasonAgainstJoining_11 (by decide) hf (fun c15 hf => ?_) (fun c15 hf => ?_)
  · refine G.iconst (v := 0) C dX5_reasonAgainstJoining_16 (by decide) ?_
    refine G.istore_n (lv' := [(3, .int ((0 : Int32))), (0, .ref (a0)), (1, .ref (a1)), (2, .ref (a2))]) C dX5_reasonAgainstJoining_17 rfl (by decide) rfl ?_
    obtain ⟨z3, hlp3, hfo3⟩ := bind_some hf
    clear hf
    have hloop3 : ∀ (k : Nat), ∀ (x3 : Int32), (lpn (f_X5_reasonAgainstJoining_L18 (h) (a0) (a1) (a2)) k (x3)) = some z3 → G p l e ({ frames := 4, cells := 0, slots := 0, locals := 97 } : Room) s m args below meth c 6 g X h 0 0 (MQ below (QW g X h s.heap.size (some (.int r.1)) r.2) args s 0 0 (AF X h s.heap.size)) 18 [(0, .ref (a0)), (1, .ref (a1)), (2, .ref (a2)), (3, .int (x3))] [] h := by
      intro k
      induction k with
      | zero => intro x3 hlp3; exact (lpn_0 hlp3).elim
      | succ k ih3 =>
        intro x3 hlp3
        obtain ⟨y3, hf, hlp3⟩ := lpn_s hlp3
        unfold f_X5_reasonAgainstJoining_L18 at hf
        try dsimp only at hf
        have hj80 : ∀ (x3 : Int32), f_X5_reasonAgainstJoining_J80 h (a0) (a1) (a2) (x3) = some y3 → G p l e ({ frames := 4, cells := 0, slots := 0, locals := 97 } : Room) s m args below meth c 6 g X h 0 0 (MQ below (QW g X h s.heap.size (some (.int r.1)) r.2) args s 0 0 (AF X h s.heap.size)) 80 [(0, .ref (a0)), (1, .ref (a1)), (2, .ref (a2)), (3, .int (x3))] [] h := by
          intro x3 hf
          unfold f_X5_reasonAgainstJoining_J80 at hf
          refine G.iinc (k := 3) (v := (x3 + 1)) (lv' := [(3, .int ((x3 + 1))), (0, .ref (a0)), (1, .ref (a1)), (2, .ref (a2))]) C dX5_reasonAgainstJoining_80 rfl rfl (by decide) rfl ?_
          refine G.goto (tgt := 18) C dX5_reasonAgainstJoining_83 (by decide) ?_
          cases hf
          refine G.sub C [1, 2, 3, 0] (lv' := [(0, .ref (a0)), (1, .ref (a1)), (2, .ref (a2)), (3, .int ((x3 + 1)))]) rfl ?_
          exact ih3 _ hlp3
        refine G.iload_n C 3 dX5_reasonAgainstJoining_18 rfl rfl ?_
        refine G.aload_n C 1 dX5_reasonAgainstJoining_19 rfl rfl ?_
        obtain ⟨v4, hv4, hf⟩ := bind_some hf
        try dsimp only at hf
        refine G.callV C (st := [.int (x3)]) (st2 := [.int (v4), .int (x3)]) (ct_X2_hueCount hv4) (ko_X2_hueCount hv4) rfl m9_155 m9_156 m9_157 m9_24 m9_158 kd_X2_hueCount ⟨Nat.le_of_ble_eq_true rfl, Nat.le_of_ble_eq_true rfl⟩ ⟨Nat.zero_le _, Nat.zero_le _⟩ (Nat.le_of_ble_eq_true rfl) rfl rfl dX5_reasonAgainstJoining_20 ?_
        refine G.icmp_ge (tgt := 86) C dX5_reasonAgainstJoining_23 (by decide) hf (fun c14 hf => ?_) (fun c14 hf => ?_)
        · cases hf
          change some _ = some _ at hlp3
          have hf := hfo3
          try rw [← Option.some.inj hlp3] at hf
          try dsimp only at hf
          refine G.sub C [0, 1, 2] (lv' := [(0, .ref (a0)), (1, .ref (a1)), (2, .ref (a2))]) rfl ?_
          exact hj86 _ _ _ hf
        · refine G.aload_n C 1 dX5_reasonAgainstJoining_26 rfl rfl ?_
          refine G.iload_n C 3 dX5_reasonAgainstJoining_27 rfl rfl ?_
          obtain ⟨v5, hv5, hf⟩ := bind_some hf
          try dsimp only at hf
          refine G.callV C (st := []) (st2 := [.int (v5)]) (ct_X2_hueAt hv5) (ko_X2_hueAt hv5) rfl m9_176 m9_177 m9_178 m9_24 m9_179 kd_X2_hueAt ⟨Nat.le_of_ble_eq_true rfl, Nat.le_of_ble_eq_true rfl⟩ ⟨Nat.zero_le _, Nat.zero_le _⟩ (Nat.le_of_ble_eq_true rfl) rfl rfl dX5_reasonAgainstJoining_28 ?_
          refine G.istore (lv' := [(4, .int (v5)), (0, .ref (a0)), (1, .ref (a1)), (2, .ref (a2)), (3, .int (x3))]) C dX5_reasonAgainstJoining_31 (by decide) rfl ?_
          refine G.aload_n C 2 dX5_reasonAgainstJoining_33 rfl rfl ?_
          refine G.iload C 0 dX5_reasonAgainstJoining_34 rfl ?_
          obtain ⟨v6, hv6, hf⟩ := bind_some hf
          try dsimp only at hf
          refine G.callV C (st := []) (st2 := [.int (v6)]) (ct_X2_lastOf hv6) (ko_X2_lastOf hv6) rfl m9_282 m9_207 m9_208 m9_24 m9_209 kd_X2_lastOf ⟨Nat.le_of_ble_eq_true rfl, Nat.le_of_ble_eq_true rfl⟩ ⟨Nat.zero_le _, Nat.zero_le _⟩ (Nat.le_of_ble_eq_true rfl) rfl rfl dX5_reasonAgainstJoining_36 ?_
          refine G.aload_n C 1 dX5_reasonAgainstJoining_39 rfl rfl ?_
          refine G.getR (ci := 4) (k := 0) C rfl inlX5 (by decide) m9_12 rfl hf dX5_reasonAgainstJoining_40 (fun v7 hv7 hf => ?_)
          try dsimp only at hf
          refine G.iload C 0 dX5_reasonAgainstJoining_43 rfl ?_
          obtain ⟨v8, hv8, hf⟩ := bind_some hf
          try dsimp only at hf
          refine G.callV C (st := [.int (v6)]) (st2 := [.int (v8), .int (v6)]) (ct_X3_gapAt hv8) (ko_X3_gapAt hv8) rfl m9_180 m9_181 m9_182 m9_11 m9_183 kd_X3_gapAt ⟨Nat.le_of_ble_eq_true rfl, Nat.le_of_ble_eq_true rfl⟩ ⟨Nat.zero_le _, Nat.zero_le _⟩ (Nat.le_of_ble_eq_true rfl) rfl rfl dX5_reasonAgainstJoining_45 ?_
          refine G.iadd C dX5_reasonAgainstJoining_48 ?_
          refine G.istore (lv' := [(5, .int ((v6 + v8))), (4, .int (v5)), (0, .ref (a0)), (1, .ref (a1)), (2, .ref (a2)), (3, .int (x3))]) C dX5_reasonAgainstJoining_49 (by decide) rfl ?_
          refine G.aload_n C 4 dX5_reasonAgainstJoining_51 rfl rfl ?_
          refine G.iload C 1 dX5_reasonAgainstJoining_52 rfl ?_
          obtain ⟨v9, hv9, hf⟩ := bind_some hf
          try dsimp only at hf
          refine G.callV C (st := []) (st2 := [.int (v9)]) (ct_X2_orderOf hv9) (ko_X2_orderOf hv9) rfl m9_283 m9_117 m9_118 m9_24 m9_119 kd_X2_orderOf ⟨Nat.le_of_ble_eq_true rfl, Nat.le_of_ble_eq_true rfl⟩ ⟨Nat.zero_le _, Nat.zero_le _⟩ (Nat.le_of_ble_eq_true rfl) rfl rfl dX5_reasonAgainstJoining_54 ?_
          refine G.iconst (v := (-1)) C dX5_reasonAgainstJoining_57 (by decide) ?_
          refine G.icmp_eq (tgt := 80) C dX5_reasonAgainstJoining_58 (by decide) hf (fun c13 hf => ?_) (fun c13 hf => ?_)
          · refine G.sub C [2, 3, 4, 5] (lv' := [(0, .ref (a0)), (1, .ref (a1)), (2, .ref (a2)), (3, .int (x3))]) rfl ?_
            exact hj80 _ hf
          · refine G.iload C 0 dX5_reasonAgainstJoining_61 rfl ?_
            refine G.aload_n C 3 dX5_reasonAgainstJoining_63 rfl rfl ?_
            obtain ⟨v10, hv10, hf⟩ := bind_some hf
            try dsimp only at hf
            refine G.callV C (st := [.int ((v6 + v8))]) (st2 := [.int (v10), .int ((v6 + v8))]) (ct_X2_length hv10) (ko_X2_length hv10) rfl m9_154 m9_93 m9_94 m9_24 m9_95 kd_X2_length ⟨Nat.le_of_ble_eq_true rfl, Nat.le_of_ble_eq_true rfl⟩ ⟨Nat.zero_le _, Nat.zero_le _⟩ (Nat.le_of_ble_eq_true rfl) rfl rfl dX5_reasonAgainstJoining_64 ?_
            refine G.aload_n C 4 dX5_reasonAgainstJoining_67 rfl rfl ?_
            refine G.iload C 1 dX5_reasonAgainstJoining_68 rfl ?_
            refine G.iconst (v := 0) C dX5_reasonAgainstJoining_70 (by decide) ?_
            obtain ⟨v11, hv11, hf⟩ := bind_some hf
            try dsimp only at hf
            refine G.callV C (st := [.int (v10), .int ((v6 + v8))]) (st2 := [.int (v11), .int (v10), .int ((v6 + v8))]) (ct_X2_firstFrom hv11) (ko_X2_firstFrom hv11) rfl m9_160 m9_161 m9_162 m9_24 m9_163 kd_X2_firstFrom ⟨Nat.le_of_ble_eq_true rfl, Nat.le_of_ble_eq_true rfl⟩ ⟨Nat.zero_le _, Nat.zero_le _⟩ (Nat.le_of_ble_eq_true rfl) rfl rfl dX5_reasonAgainstJoining_71 ?_
            refine G.iadd C dX5_reasonAgainstJoining_74 ?_
            refine G.icmp_eq (tgt := 80) C dX5_reasonAgainstJoining_75 (by decide) hf (fun c12 hf => ?_) (fun c12 hf => ?_)
            · refine G.sub C [2, 3, 4, 5] (lv' := [(0, .ref (a0)), (1, .ref (a1)), (2, .ref (a2)), (3, .int (x3))]) rfl ?_
              exact hj80 _ hf
            · cases hf
              change some _ = some _ at hlp3
              have hf := hfo3
              try rw [← Option.some.inj hlp3] at hf
              try dsimp only at hf
              refine G.sub C [] (lv' := []) rfl ?_
              exact hj78  hf
    refine G.sub C [1, 2, 3, 0] (lv' := [(0, .ref (a0)), (1, .ref (a1)), (2, .ref (a2)), (3, .int ((0 : Int32)))]) rfl ?_
    exact hloop3 LF _ hlp3
  · refine G.iconst (v := 2) C dX5_reasonAgainstJoining_14 (by decide) ?_
    cases hf
    exact G.iret C rfl dX5_reasonAgainstJoining_15
theorem ko_X5_join {h : PH} {a0 : Nat} {a1 : Int32} {a2 : Int32} {r : (Except (String × PH) (Int32 × PH))} (hf : f_X5_join h a0 a1 a2 = some r) : kO h a0 4 := by
  unfold f_X5_join at hf
  exact okO_k (gd_ok hf).1
theorem kd_X5_join : yX5_join.cls = RX5 ∧ yX5_join.cls ≠ "java/lang/invoke/MethodHandle" ∧ yX5_join.cls ≠ "java/lang/invoke/VarHandle" ∧ (parseMethodDescriptor yX5_join.desc).map (fun d => d.parameters.length) = some 2 := by decide +kernel
set_option maxRecDepth 20000 in
set_option maxHeartbeats 4000000 in
theorem cx_X5_join {l : Launch} {h : PH} {a0 : Nat} {a1 : Int32} {a2 : Int32} {r : (Except (String × PH) (Int32 × PH))} (hf : f_X5_join h a0 a1 a2 = some r) : CX l yX5_join cX5_join 5 (some .int) 7 122 [.ref (a0), .int (a1), .int (a2)] h (xIW r) := by
  refine CX.of (own := RX5) rfl (by decide) (Nat.le_of_ble_eq_true rfl) ?_
  intro p e R s m args below meth c g X hR C TT tab
  subst hR
  unfold f_X5_join at hf
  obtain ⟨hok, hf⟩ := gd_ok hf
  have hj28 : ∀ (hh : PH), f_X5_join_J28 hh = some r → G p l e ({ frames := 7, cells := cN (xIW r), slots := cS (xIW r), locals := 122 } : Room) s m args below meth c 5 g X h 0 0 (vx_MQ below (QX g X h s.heap.size (xIW r)) (XX g X h s.heap.size (xIW r)) args s (cN (xIW r)) (cS (xIW r)) (AF X h s.heap.size)) 28 [] [] hh := by
    intro hh hf
    unfold f_X5_join_J28 at hf
    cases hf
    exact G.throwIS (is := 149) (text := "the ropes cannot be joined") C TT tab rfl m9_346 m9_347 (by decide +kernel) dX5_join_28 dX5_join_31 dX5_join_32 dX5_join_34 dX5_join_37 (Nat.le_of_ble_eq_true rfl) (Nat.le_of_ble_eq_true rfl) ⟨rfl, rfl⟩
  refine G.sub C [0, 1, 2] (lv' := [(0, .ref (a0)), (1, .int (a1)), (2, .int (a2))]) rfl ?_
  refine G.aload_n C 0 dX5_join_0 rfl rfl ?_
  refine G.iload_n C 1 dX5_join_1 rfl rfl ?_
  obtain ⟨r1, hr1, hf⟩ := bind_some hf
  cases r1 with
  | error E4 =>
    try dsimp only at hf
    cases hf
    exact G.callXe C TT tab (st := []) (cx_X5_existing hr1) rfl rfl ⟨rfl, rfl⟩ (ko_X5_existing hr1) rfl m9_143 m9_144 m9_145 m9_2 m9_146 kd_X5_existing ⟨Nat.le_of_ble_eq_true rfl, Nat.le_of_ble_eq_true rfl⟩ (Nat.le_of_ble_eq_true rfl) rfl dX5_join_2
  | ok v2 =>
    try dsimp only at hf
    refine G.callXo C TT (st := []) (st2 := [.ref (v2)]) (cx_X5_existing hr1) rfl (ko_X5_existing hr1) rfl m9_143 m9_144 m9_145 m9_2 m9_146 kd_X5_existing ⟨Nat.le_of_ble_eq_true rfl, Nat.le_of_ble_eq_true rfl⟩ (Nat.le_of_ble_eq_true rfl) rfl rfl dX5_join_2 ?_
    refine G.astore_n (lv' := [(3, .ref (v2)), (0, .ref (a0)), (1, .int (a1)), (2, .int (a2))]) C dX5_join_5 rfl (by decide) rfl ?_
    refine G.aload_n C 1 dX5_join_6 rfl rfl ?_
    refine G.iload_n C 3 dX5_join_7 rfl rfl ?_
    obtain ⟨r5, hr5, hf⟩ := bind_some hf
    cases r5 with
    | error E8 =>
      try dsimp only at hf
      cases hf
      exact G.callXe C TT tab (st := []) (cx_X5_existing hr5) rfl rfl ⟨rfl, rfl⟩ (ko_X5_existing hr5) rfl m9_143 m9_144 m9_145 m9_2 m9_146 kd_X5_existing ⟨Nat.le_of_ble_eq_true rfl, Nat.le_of_ble_eq_true rfl⟩ (Nat.le_of_ble_eq_true rfl) rfl dX5_join_8
    | ok v6 =>
      try dsimp only at hf
      refine G.callXo C TT (st := []) (st2 := [.ref (v6)]) (cx_X5_existing hr5) rfl (ko_X5_existing hr5) rfl m9_143 m9_144 m9_145 m9_2 m9_146 kd_X5_existing ⟨Nat.le_of_ble_eq_true rfl, Nat.le_of_ble_eq_true rfl⟩ (Nat.le_of_ble_eq_true rfl) rfl rfl dX5_join_8 ?_
      refine G.astore (lv' := [(4, .ref (v6)), (3, .ref (v2)), (0, .ref (a0)), (1, .int (a1)), (2, .int (a2))]) C dX5_join_11 (by decide) rfl ?_
      refine G.iload_n C 3 dX5_join_13 rfl rfl ?_
      refine G.iload_n C 4 dX5_join_14 rfl rfl ?_
      refine G.icmp_eq (tgt := 28) C dX5_join_15 (by decide) hf (fun c26 hf => ?_) (fun c26 hf => ?_)
      · refine G.sub C [] (lv' := []) rfl ?_
        exact hj28 _ hf
      · refine G.aload_n C 2 dX5_join_18 rfl rfl ?_
        refine G.aload_n C 1 dX5_join_19 rfl rfl ?_
        refine G.aload C 0 dX5_join_20 rfl ?_
        obtain ⟨⟨v9, h10⟩, hv9, hf⟩ := bind_some hf
        try dsimp only at hf
        refine G.callV C (st := []) (st2 := [.int (v9)]) (ct_X5_reasonAgainstJoining hv9) (ko_X5_reasonAgainstJoining hv9) rfl m9_278 m9_279 m9_280 m9_2 m9_281 kd_X5_reasonAgainstJoining ⟨Nat.le_of_ble_eq_true rfl, Nat.le_of_ble_eq_true rfl⟩ ⟨Nat.zero_le _, Nat.zero_le _⟩ (Nat.le_of_ble_eq_true rfl) rfl rfl dX5_join_22 ?_
        refine G.if_eq (tgt := 38) C dX5_join_25 (by decide) hf (fun c25 hf => ?_) (fun c25 hf => ?_)
        · refine G.aload_n C 2 dX5_join_38 rfl rfl ?_
          refine G.getR (ci := 4) (k := 2) C rfl inlX5 (by decide) m9_17 rfl hf dX5_join_39 (fun v12 hv12 hf => ?_)
          try dsimp only at hf
          refine G.aload_n C 2 dX5_join_42 rfl rfl ?_
          refine G.getR (ci := 4) (k := 0) C rfl inlX5 (by decide) m9_12 rfl hf dX5_join_43 (fun v13 hv13 hf => ?_)
          try dsimp only at hf
          obtain ⟨h14, hh14, hf⟩ := bind_some hf
          try dsimp only at hf
          refine G.callV C (st := []) (st2 := []) (ct_X0_save hh14) (ko_X0_save hh14) rfl m9_348 m9_349 m9_350 m9_16 m9_351 kd_X0_save ⟨Nat.le_of_ble_eq_true rfl, Nat.le_of_ble_eq_true rfl⟩ ⟨Nat.zero_le _, Nat.zero_le _⟩ (Nat.le_of_ble_eq_true rfl) rfl rfl dX5_join_46 ?_
          refine G.aload_n C 2 dX5_join_49 rfl rfl ?_
          refine G.aload_n C 1 dX5_join_50 rfl rfl ?_
          refine G.aload C 0 dX5_join_51 rfl ?_
          obtain ⟨⟨v15, h16⟩, hv15, hf⟩ := bind_some hf
          try dsimp only at hf
          refine G.callV C (st := []) (st2 := [.int (v15)]) (ct_X5_draftJoined hv15) (ko_X5_draftJoined hv15) rfl m9_284 m9_285 m9_286 m9_2 m9_287 kd_X5_draftJoined ⟨Nat.le_of_ble_eq_true rfl, Nat.le_of_ble_eq_true rfl⟩ ⟨Nat.zero_le _, Nat.zero_le _⟩ (Nat.le_of_ble_eq_true rfl) rfl rfl dX5_join_53 ?_
          refine G.pop C dX5_join_56 rfl ?_
          refine G.aload_n C 1 dX5_join_57 rfl rfl ?_
          refine G.aload_n C 2 dX5_join_58 rfl rfl ?_
          refine G.getR (ci := 4) (k := 4) C rfl inlX5 (by decide) m9_25 rfl hf dX5_join_59 (fun v18 hv18 hf => ?_)
          try dsimp only at hf
          obtain ⟨h19, hh19, hf⟩ := bind_some hf
          try dsimp only at hf
          refine G.callV C (st := []) (st2 := []) (ct_X2_copyFrom hh19) (ko_X2_copyFrom hh19) rfl m9_407 m9_320 m9_321 m9_24 m9_322 kd_X2_copyFrom ⟨Nat.le_of_ble_eq_true rfl, Nat.le_of_ble_eq_true rfl⟩ ⟨Nat.zero_le _, Nat.zero_le _⟩ (Nat.le_of_ble_eq_true rfl) rfl rfl dX5_join_62 ?_
          refine G.aload_n C 2 dX5_join_65 rfl rfl ?_
          refine G.getR (ci := 4) (k := 0) C rfl inlX5 (by decide) m9_12 rfl hf dX5_join_66 (fun v20 hv20 hf => ?_)
          try dsimp only at hf
          refine G.iload_n C 4 dX5_join_69 rfl rfl ?_
          obtain ⟨h21, hh21, hf⟩ := bind_some hf
          try dsimp only at hf
          refine G.callV C (st := []) (st2 := []) (ct_X3_removeRope hh21) (ko_X3_removeRope hh21) rfl m9_427 m9_428 m9_429 m9_11 m9_430 kd_X3_removeRope ⟨Nat.le_of_ble_eq_true rfl, Nat.le_of_ble_eq_true rfl⟩ ⟨Nat.zero_le _, Nat.zero_le _⟩ (Nat.le_of_ble_eq_true rfl) rfl rfl dX5_join_70 ?_
          refine G.aload_n C 2 dX5_join_73 rfl rfl ?_
          refine G.getR (ci := 4) (k := 0) C rfl inlX5 (by decide) m9_12 rfl hf dX5_join_74 (fun v22 hv22 hf => ?_)
          try dsimp only at hf
          obtain ⟨h23, hh23, hf⟩ := bind_some hf
          try dsimp only at hf
          refine G.callV C (st := []) (st2 := []) (ct_X3_countJoin hh23) (ko_X3_countJoin hh23) rfl m9_431 m9_432 m9_433 m9_11 m9_434 kd_X3_countJoin ⟨Nat.le_of_ble_eq_true rfl, Nat.le_of_ble_eq_true rfl⟩ ⟨Nat.zero_le _, Nat.zero_le _⟩ (Nat.le_of_ble_eq_true rfl) rfl rfl dX5_join_77 ?_
          refine G.aload_n C 1 dX5_join_80 rfl rfl ?_
          obtain ⟨v24, hv24, hf⟩ := bind_some hf
          try dsimp only at hf
          refine G.callV C (st := []) (st2 := [.int (v24)]) (ct_X2_length hv24) (ko_X2_length hv24) rfl m9_154 m9_93 m9_94 m9_24 m9_95 kd_X2_length ⟨Nat.le_of_ble_eq_true rfl, Nat.le_of_ble_eq_true rfl⟩ ⟨Nat.zero_le _, Nat.zero_le _⟩ (Nat.le_of_ble_eq_true rfl) rfl rfl dX5_join_81 ?_
          cases hf
          refine G.retX rfl ?_
          exact G.iret C rfl dX5_join_84
        · refine G.sub C [] (lv' := []) rfl ?_
          exact hj28 _ hf
theorem ko_X5_undo {h : PH} {a0 : Nat} {r : (Except (String × PH) (Int32 × PH))} (hf : f_X5_undo h a0 = some r) : kO h a0 4 := by
  unfold f_X5_undo at hf
  exact okO_k (gd_ok hf).1
theorem kd_X5_undo : yX5_undo.cls = RX5 ∧ yX5_undo.cls ≠ "java/lang/invoke/MethodHandle" ∧ yX5_undo.cls ≠ "java/lang/invoke/VarHandle" ∧ (parseMethodDescriptor yX5_undo.desc).map (fun d => d.parameters.length) = some 0 := by decide +kernel
set_option maxRecDepth 20000 in
set_option maxHeartbeats 4000000 in
theorem cx_X5_undo {l : Launch} {h : PH} {a0 : Nat} {r : (Except (String × PH) (Int32 × PH))} (hf : f_X5_undo h a0 = some r) : CX l yX5_undo cX5_undo 1 (some .int) 6 90 [.ref (a0)] h (xIW r) := by
  refine CX.of (own := RX5) rfl (by decide) (Nat.le_of_ble_eq_true rfl) ?_
  intro p e R s m args below meth c g X hR C TT tab
  subst hR
  unfold f_X5_undo at hf
  obtain ⟨hok, hf⟩ := gd_ok hf
  refine G.sub C [0] (lv' := [(0, .ref (a0))]) rfl ?_
  refine G.aload_n C 0 dX5_undo_0 rfl rfl ?_
  refine G.getR (ci := 4) (k := 2) C rfl inlX5 (by decide) m9_17 rfl hf dX5_undo_1 (fun v1 hv1 hf => ?_)
  try dsimp only at hf
  obtain ⟨v2, hv2, hf⟩ := bind_some hf
  try dsimp only at hf
  refine G.callV C (st := []) (st2 := [.int (v2)]) (ct_X0_size hv2) (ko_X0_size hv2) rfl m9_132 m9_133 m9_134 m9_16 m9_135 kd_X0_size ⟨Nat.le_of_ble_eq_true rfl, Nat.le_of_ble_eq_true rfl⟩ ⟨Nat.zero_le _, Nat.zero_le _⟩ (Nat.le_of_ble_eq_true rfl) rfl rfl dX5_undo_4 ?_
  refine G.if_ne (tgt := 20) C dX5_undo_7 (by decide) hf (fun c8 hf => ?_) (fun c8 hf => ?_)
  · refine G.aload_n C 0 dX5_undo_20 rfl rfl ?_
    refine G.getR (ci := 4) (k := 2) C rfl inlX5 (by decide) m9_17 rfl hf dX5_undo_21 (fun v3 hv3 hf => ?_)
    try dsimp only at hf
    refine G.aload_n C 0 dX5_undo_24 rfl rfl ?_
    refine G.getR (ci := 4) (k := 0) C rfl inlX5 (by decide) m9_12 rfl hf dX5_undo_25 (fun v4 hv4 hf => ?_)
    try dsimp only at hf
    obtain ⟨h5, hh5, hf⟩ := bind_some hf
    try dsimp only at hf
    refine G.callV C (st := []) (st2 := []) (ct_X0_restoreLatest hh5) (ko_X0_restoreLatest hh5) rfl m9_439 m9_440 m9_441 m9_16 m9_442 kd_X0_restoreLatest ⟨Nat.le_of_ble_eq_true rfl, Nat.le_of_ble_eq_true rfl⟩ ⟨Nat.zero_le _, Nat.zero_le _⟩ (Nat.le_of_ble_eq_true rfl) rfl rfl dX5_undo_28 ?_
    refine G.aload_n C 0 dX5_undo_31 rfl rfl ?_
    refine G.getR (ci := 4) (k := 2) C rfl inlX5 (by decide) m9_17 rfl hf dX5_undo_32 (fun v6 hv6 hf => ?_)
    try dsimp only at hf
    obtain ⟨v7, hv7, hf⟩ := bind_some hf
    try dsimp only at hf
    refine G.callV C (st := []) (st2 := [.int (v7)]) (ct_X0_size hv7) (ko_X0_size hv7) rfl m9_132 m9_133 m9_134 m9_16 m9_135 kd_X0_size ⟨Nat.le_of_ble_eq_true rfl, Nat.le_of_ble_eq_true rfl⟩ ⟨Nat.zero_le _, Nat.zero_le _⟩ (Nat.le_of_ble_eq_true rfl) rfl rfl dX5_undo_35 ?_
    cases hf
    refine G.retX rfl ?_
    exact G.iret C rfl dX5_undo_38
  · cases hf
    exact G.throwIS (is := 195) (text := "there is no saved state") C TT tab rfl m9_346 m9_347 (by decide +kernel) dX5_undo_10 dX5_undo_13 dX5_undo_14 dX5_undo_16 dX5_undo_19 (Nat.le_of_ble_eq_true rfl) (Nat.le_of_ble_eq_true rfl) ⟨rfl, rfl⟩
theorem ko_X5_keep {h : PH} {a0 : Nat} {r : (Int32 × PH)} (hf : f_X5_keep h a0 = some r) : kO h a0 4 := by
  unfold f_X5_keep at hf
  exact okO_k (gd_ok hf).1
theorem kd_X5_keep : yX5_keep.cls = RX5 ∧ yX5_keep.cls ≠ "java/lang/invoke/MethodHandle" ∧ yX5_keep.cls ≠ "java/lang/invoke/VarHandle" ∧ (parseMethodDescriptor yX5_keep.desc).map (fun d => d.parameters.length) = some 0 := by decide +kernel
set_option maxRecDepth 20000 in
set_option maxHeartbeats 4000000 in
theorem ct_X5_keep {l : Launch} {h : PH} {a0 : Nat} {r : (Int32 × PH)} (hf : f_X5_keep h a0 = some r) : CT l yX5_keep cX5_keep 1 (some .int) 2 46 [.ref (a0)] h (some (.int r.1)) r.2 := by
  refine CT.of (own := RX5) rfl (by decide) (Nat.le_of_ble_eq_true rfl) ?_
  intro p e R s m args below meth c g X hR C
  subst hR
  unfold f_X5_keep at hf
  obtain ⟨hok, hf⟩ := gd_ok hf
  refine G.sub C [0] (lv' := [(0, .ref (a0))]) rfl ?_
  refine G.aload_n C 0 dX5_keep_0 rfl rfl ?_
  refine G.getR (ci := 4) (k := 1) C rfl inlX5 (by decide) m9_13 rfl hf dX5_keep_1 (fun v1 hv1 hf => ?_)
  try dsimp only at hf
  refine G.aload_n C 0 dX5_keep_4 rfl rfl ?_
  refine G.getR (ci := 4) (k := 0) C rfl inlX5 (by decide) m9_12 rfl hf dX5_keep_5 (fun v2 hv2 hf => ?_)
  try dsimp only at hf
  obtain ⟨h3, hh3, hf⟩ := bind_some hf
  try dsimp only at hf
  refine G.callV C (st := []) (st2 := []) (ct_X3_copyFrom hh3) (ko_X3_copyFrom hh3) rfl m9_315 m9_316 m9_317 m9_11 m9_318 kd_X3_copyFrom ⟨Nat.le_of_ble_eq_true rfl, Nat.le_of_ble_eq_true rfl⟩ ⟨Nat.zero_le _, Nat.zero_le _⟩ (Nat.le_of_ble_eq_true rfl) rfl rfl dX5_keep_8 ?_
  refine G.aload_n C 0 dX5_keep_11 rfl rfl ?_
  refine G.iconst (v := 1) C dX5_keep_12 (by decide) ?_
  refine G.put (ci := 4) (k := 5) C rfl inlX5 (by decide) m9_26 rfl tyX5 tyX5_ok nmX5 rfl rfl rfl hf dX5_keep_13 (fun h4 hh4 hf => ?_)
  try dsimp only at hf
  refine G.aload_n C 0 dX5_keep_16 rfl rfl ?_
  refine G.getR (ci := 4) (k := 0) C rfl inlX5 (by decide) m9_12 rfl hf dX5_keep_17 (fun v5 hv5 hf => ?_)
  try dsimp only at hf
  obtain ⟨v6, hv6, hf⟩ := bind_some hf
  try dsimp only at hf
  refine G.callV C (st := []) (st2 := [.int (v6)]) (ct_X3_ropeCount hv6) (ko_X3_ropeCount hv6) rfl m9_80 m9_81 m9_82 m9_11 m9_83 kd_X3_ropeCount ⟨Nat.le_of_ble_eq_true rfl, Nat.le_of_ble_eq_true rfl⟩ ⟨Nat.zero_le _, Nat.zero_le _⟩ (Nat.le_of_ble_eq_true rfl) rfl rfl dX5_keep_20 ?_
  cases hf
  exact G.iret C rfl dX5_keep_23
theorem ko_X5_restore {h : PH} {a0 : Nat} {r : (Except (String × PH) (Int32 × PH))} (hf : f_X5_restore h a0 = some r) : kO h a0 4 := by
  unfold f_X5_restore at hf
  exact okO_k (gd_ok hf).1
theorem kd_X5_restore : yX5_restore.cls = RX5 ∧ yX5_restore.cls ≠ "java/lang/invoke/MethodHandle" ∧ yX5_restore.cls ≠ "java/lang/invoke/VarHandle" ∧ (parseMethodDescriptor yX5_restore.desc).map (fun d => d.parameters.length) = some 0 := by decide +kernel
set_option maxRecDepth 20000 in
set_option maxHeartbeats 4000000 in
theorem cx_X5_restore {l : Launch} {h : PH} {a0 : Nat} {r : (Except (String × PH) (Int32 × PH))} (hf : f_X5_restore h a0 = some r) : CX l yX5_restore cX5_restore 1 (some .int) 6 90 [.ref (a0)] h (xIW r) := by
  refine CX.of (own := RX5) rfl (by decide) (Nat.le_of_ble_eq_true rfl) ?_
  intro p e R s m args below meth c g X hR C TT tab
  subst hR
  unfold f_X5_restore at hf
  obtain ⟨hok, hf⟩ := gd_ok hf
  refine G.sub C [0] (lv' := [(0, .ref (a0))]) rfl ?_
  refine G.aload_n C 0 dX5_restore_0 rfl rfl ?_
  refine G.getI (ci := 4) (k := 5) C rfl inlX5 (by decide) m9_26 rfl hf dX5_restore_1 (fun v1 hv1 hf => ?_)
  try dsimp only at hf
  refine G.if_ne (tgt := 17) C dX5_restore_4 (by decide) hf (fun c10 hf => ?_) (fun c10 hf => ?_)
  · refine G.aload_n C 0 dX5_restore_17 rfl rfl ?_
    refine G.getR (ci := 4) (k := 2) C rfl inlX5 (by decide) m9_17 rfl hf dX5_restore_18 (fun v2 hv2 hf => ?_)
    try dsimp only at hf
    refine G.aload_n C 0 dX5_restore_21 rfl rfl ?_
    refine G.getR (ci := 4) (k := 0) C rfl inlX5 (by decide) m9_12 rfl hf dX5_restore_22 (fun v3 hv3 hf => ?_)
    try dsimp only at hf
    obtain ⟨h4, hh4, hf⟩ := bind_some hf
    try dsimp only at hf
    refine G.callV C (st := []) (st2 := []) (ct_X0_save hh4) (ko_X0_save hh4) rfl m9_348 m9_349 m9_350 m9_16 m9_351 kd_X0_save ⟨Nat.le_of_ble_eq_true rfl, Nat.le_of_ble_eq_true rfl⟩ ⟨Nat.zero_le _, Nat.zero_le _⟩ (Nat.le_of_ble_eq_true rfl) rfl rfl dX5_restore_25 ?_
    refine G.aload_n C 0 dX5_restore_28 rfl rfl ?_
    refine G.getR (ci := 4) (k := 0) C rfl inlX5 (by decide) m9_12 rfl hf dX5_restore_29 (fun v5 hv5 hf => ?_)
    try dsimp only at hf
    refine G.aload_n C 0 dX5_restore_32 rfl rfl ?_
    refine G.getR (ci := 4) (k := 1) C rfl inlX5 (by decide) m9_13 rfl hf dX5_restore_33 (fun v6 hv6 hf => ?_)
    try dsimp only at hf
    obtain ⟨h7, hh7, hf⟩ := bind_some hf
    try dsimp only at hf
    refine G.callV C (st := []) (st2 := []) (ct_X3_copyFrom hh7) (ko_X3_copyFrom hh7) rfl m9_315 m9_316 m9_317 m9_11 m9_318 kd_X3_copyFrom ⟨Nat.le_of_ble_eq_true rfl, Nat.le_of_ble_eq_true rfl⟩ ⟨Nat.zero_le _, Nat.zero_le _⟩ (Nat.le_of_ble_eq_true rfl) rfl rfl dX5_restore_36 ?_
    refine G.aload_n C 0 dX5_restore_39 rfl rfl ?_
    refine G.getR (ci := 4) (k := 0) C rfl inlX5 (by decide) m9_12 rfl hf dX5_restore_40 (fun v8 hv8 hf => ?_)
    try dsimp only at hf
    obtain ⟨v9, hv9, hf⟩ := bind_some hf
    try dsimp only at hf
    refine G.callV C (st := []) (st2 := [.int (v9)]) (ct_X3_ropeCount hv9) (ko_X3_ropeCount hv9) rfl m9_80 m9_81 m9_82 m9_11 m9_83 kd_X3_ropeCount ⟨Nat.le_of_ble_eq_true rfl, Nat.le_of_ble_eq_true rfl⟩ ⟨Nat.zero_le _, Nat.zero_le _⟩ (Nat.le_of_ble_eq_true rfl) rfl rfl dX5_restore_43 ?_
    cases hf
    refine G.retX rfl ?_
    exact G.iret C rfl dX5_restore_46
  · cases hf
    exact G.throwIS (is := 202) (text := "there is no snapshot") C TT tab rfl m9_346 m9_347 (by decide +kernel) dX5_restore_7 dX5_restore_10 dX5_restore_11 dX5_restore_13 dX5_restore_16 (Nat.le_of_ble_eq_true rfl) (Nat.le_of_ble_eq_true rfl) ⟨rfl, rfl⟩
theorem ko_X5_place {h : PH} {a0 : Nat} {a1 : Int32} {a2 : Int32} {r : (Except String Int32)} (hf : f_X5_place h a0 a1 a2 = some r) : kO h a0 4 := by
  unfold f_X5_place at hf
  exact okO_k (gd_ok hf).1
theorem kd_X5_place : yX5_place.cls = RX5 ∧ yX5_place.cls ≠ "java/lang/invoke/MethodHandle" ∧ yX5_place.cls ≠ "java/lang/invoke/VarHandle" ∧ (parseMethodDescriptor yX5_place.desc).map (fun d => d.parameters.length) = some 2 := by decide +kernel
set_option maxRecDepth 20000 in
set_option maxHeartbeats 4000000 in
theorem cx_X5_place {l : Launch} {h : PH} {a0 : Nat} {a1 : Int32} {a2 : Int32} {r : (Except String Int32)} (hf : f_X5_place h a0 a1 a2 = some r) : CX l yX5_place cX5_place 4 (some .int) 7 112 [.ref (a0), .int (a1), .int (a2)] h (xI h r) := by
  refine CX.of (own := RX5) rfl (by decide) (Nat.le_of_ble_eq_true rfl) ?_
  intro p e R s m args below meth c g X hR C TT tab
  subst hR
  unfold f_X5_place at hf
  obtain ⟨hok, hf⟩ := gd_ok hf
  have hj18 : f_X5_place_J18 h = some r → G p l e ({ frames := 7, cells := cN (xI h r), slots := cS (xI h r), locals := 112 } : Room) s m args below meth c 4 g X h 0 0 (vx_MQ below (QX g X h s.heap.size (xI h r)) (XX g X h s.heap.size (xI h r)) args s (cN (xI h r)) (cS (xI h r)) (AF X h s.heap.size)) 18 [] [] h := by
    intro hf
    unfold f_X5_place_J18 at hf
    cases hf
    exact G.throwIO (is := 206) (text := "there is no such place") C TT tab rfl m9_147 m9_148 (by decide +kernel) dX5_place_18 dX5_place_21 dX5_place_22 dX5_place_24 dX5_place_27 (Nat.le_of_ble_eq_true rfl) (Nat.le_of_ble_eq_true rfl) ⟨rfl, rfl⟩
  refine G.sub C [0, 1, 2] (lv' := [(0, .ref (a0)), (1, .int (a1)), (2, .int (a2))]) rfl ?_
  refine G.aload_n C 0 dX5_place_0 rfl rfl ?_
  refine G.iload_n C 1 dX5_place_1 rfl rfl ?_
  obtain ⟨r1, hr1, hf⟩ := bind_some hf
  cases r1 with
  | error E4 =>
    try dsimp only at hf
    cases hf
    exact G.callXe C TT tab (st := []) (cx_X5_existing hr1) rfl rfl ⟨rfl, rfl⟩ (ko_X5_existing hr1) rfl m9_143 m9_144 m9_145 m9_2 m9_146 kd_X5_existing ⟨Nat.le_of_ble_eq_true rfl, Nat.le_of_ble_eq_true rfl⟩ (Nat.le_of_ble_eq_true rfl) rfl dX5_place_2
  | ok v2 =>
    try dsimp only at hf
    refine G.callXo C TT (st := []) (st2 := [.ref (v2)]) (cx_X5_existing hr1) rfl (ko_X5_existing hr1) rfl m9_143 m9_144 m9_145 m9_2 m9_146 kd_X5_existing ⟨Nat.le_of_ble_eq_true rfl, Nat.le_of_ble_eq_true rfl⟩ (Nat.le_of_ble_eq_true rfl) rfl rfl dX5_place_2 ?_
    refine G.astore_n (lv' := [(3, .ref (v2)), (0, .ref (a0)), (1, .int (a1)), (2, .int (a2))]) C dX5_place_5 rfl (by decide) rfl ?_
    refine G.iload_n C 3 dX5_place_6 rfl rfl ?_
    refine G.if_lt (tgt := 18) C dX5_place_7 (by decide) hf (fun c8 hf => ?_) (fun c8 hf => ?_)
    · refine G.sub C [] (lv' := []) rfl ?_
      exact hj18  hf
    · refine G.iload_n C 3 dX5_place_10 rfl rfl ?_
      refine G.aload_n C 0 dX5_place_11 rfl rfl ?_
      obtain ⟨v5, hv5, hf⟩ := bind_some hf
      try dsimp only at hf
      refine G.callV C (st := [.int (a2)]) (st2 := [.int (v5), .int (a2)]) (ct_X2_length hv5) (ko_X2_length hv5) rfl m9_154 m9_93 m9_94 m9_24 m9_95 kd_X2_length ⟨Nat.le_of_ble_eq_true rfl, Nat.le_of_ble_eq_true rfl⟩ ⟨Nat.zero_le _, Nat.zero_le _⟩ (Nat.le_of_ble_eq_true rfl) rfl rfl dX5_place_12 ?_
      refine G.icmp_lt (tgt := 28) C dX5_place_15 (by decide) hf (fun c7 hf => ?_) (fun c7 hf => ?_)
      · refine G.aload_n C 0 dX5_place_28 rfl rfl ?_
        refine G.iload_n C 3 dX5_place_29 rfl rfl ?_
        obtain ⟨v6, hv6, hf⟩ := bind_some hf
        try dsimp only at hf
        refine G.callV C (st := []) (st2 := [.int (v6)]) (ct_X2_colourAt hv6) (ko_X2_colourAt hv6) rfl m9_218 m9_105 m9_106 m9_24 m9_107 kd_X2_colourAt ⟨Nat.le_of_ble_eq_true rfl, Nat.le_of_ble_eq_true rfl⟩ ⟨Nat.zero_le _, Nat.zero_le _⟩ (Nat.le_of_ble_eq_true rfl) rfl rfl dX5_place_30 ?_
        cases hf
        refine G.retX rfl ?_
        exact G.iret C rfl dX5_place_33
      · refine G.sub C [] (lv' := []) rfl ?_
        exact hj18  hf
theorem ko_X5_requireWhat {h : PH} {a0 : Nat} {a1 : Int32} {a2 : Int32} {r : (Except String Unit)} (hf : f_X5_requireWhat h a0 a1 a2 = some r) : kO h a0 4 := by
  unfold f_X5_requireWhat at hf
  exact okO_k (gd_ok hf).1
theorem kd_X5_requireWhat : yX5_requireWhat.cls = RX5 ∧ yX5_requireWhat.cls ≠ "java/lang/invoke/MethodHandle" ∧ yX5_requireWhat.cls ≠ "java/lang/invoke/VarHandle" ∧ (parseMethodDescriptor yX5_requireWhat.desc).map (fun d => d.parameters.length) = some 2 := by decide +kernel
set_option maxRecDepth 20000 in
set_option maxHeartbeats 4000000 in
theorem cx_X5_requireWhat {l : Launch} {h : PH} {a0 : Nat} {a1 : Int32} {a2 : Int32} {r : (Except String Unit)} (hf : f_X5_requireWhat h a0 a1 a2 = some r) : CX l yX5_requireWhat cX5_requireWhat 3 none 6 90 [.ref (a0), .int (a1), .int (a2)] h (xV h r) := by
  refine CX.of (own := RX5) rfl (by decide) (Nat.le_of_ble_eq_true rfl) ?_
  intro p e R s m args below meth c g X hR C TT tab
  subst hR
  unfold f_X5_requireWhat at hf
  obtain ⟨hok, hf⟩ := gd_ok hf
  have hj9 : f_X5_requireWhat_J9 h = some r → G p l e ({ frames := 6, cells := cN (xV h r), slots := cS (xV h r), locals := 90 } : Room) s m args below meth c 3 g X h 0 0 (vx_MQ below (QX g X h s.heap.size (xV h r)) (XX g X h s.heap.size (xV h r)) args s (cN (xV h r)) (cS (xV h r)) (AF X h s.heap.size)) 9 [] [] h := by
    intro hf
    unfold f_X5_requireWhat_J9 at hf
    cases hf
    exact G.throwIAw (is := 279) (text := "there is no such number") C TT tab rfl m9_74 m9_75 (by decide +kernel) dX5_requireWhat_9 dX5_requireWhat_12 dX5_requireWhat_13 dX5_requireWhat_16 dX5_requireWhat_19 (Nat.le_of_ble_eq_true rfl) (Nat.le_of_ble_eq_true rfl) ⟨rfl, rfl⟩
  refine G.sub C [0, 1, 2] (lv' := [(0, .ref (a0)), (1, .int (a1)), (2, .int (a2))]) rfl ?_
  refine G.iload_n C 1 dX5_requireWhat_0 rfl rfl ?_
  refine G.if_lt (tgt := 9) C dX5_requireWhat_1 (by decide) hf (fun c2 hf => ?_) (fun c2 hf => ?_)
  · refine G.sub C [] (lv' := []) rfl ?_
    exact hj9  hf
  · refine G.iload_n C 1 dX5_requireWhat_4 rfl rfl ?_
    refine G.iload_n C 2 dX5_requireWhat_5 rfl rfl ?_
    refine G.icmp_lt (tgt := 20) C dX5_requireWhat_6 (by decide) hf (fun c1 hf => ?_) (fun c1 hf => ?_)
    · cases hf
      refine G.retX rfl ?_
      exact G.vret C rfl dX5_requireWhat_20
    · refine G.sub C [] (lv' := []) rfl ?_
      exact hj9  hf
theorem ko_X5_period {h : PH} {a0 : Nat} {a1 : Nat} {r : Int32} (hf : f_X5_period h a0 a1 = some r) : kO h a0 4 := by
  unfold f_X5_period at hf
  exact okO_k (gd_ok hf).1
theorem kd_X5_period : yX5_period.cls = RX5 ∧ yX5_period.cls ≠ "java/lang/invoke/MethodHandle" ∧ yX5_period.cls ≠ "java/lang/invoke/VarHandle" ∧ (parseMethodDescriptor yX5_period.desc).map (fun d => d.parameters.length) = some 1 := by decide +kernel
set_option maxRecDepth 20000 in
set_option maxHeartbeats 4000000 in
theorem ct_X5_period {l : Launch} {h : PH} {a0 : Nat} {a1 : Nat} {r : Int32} (hf : f_X5_period h a0 a1 = some r) : CT l yX5_period cX5_period 4 (some .int) 2 47 [.ref (a0), .ref (a1)] h (some (.int r)) h := by
  refine CT.of (own := RX5) rfl (by decide) (Nat.le_of_ble_eq_true rfl) ?_
  intro p e R s m args below meth c g X hR C
  subst hR
  unfold f_X5_period at hf
  obtain ⟨hok, hf⟩ := gd_ok hf
  have hj35 : ∀ (x2 : Int32), f_X5_period_J35 h (x2) = some r → G p l e ({ frames := 2, cells := 0, slots := 0, locals := 47 } : Room) s m args below meth c 4 g X h 0 0 (MQ below (QW g X h s.heap.size (some (.int r)) h) args s 0 0 (AF X h s.heap.size)) 35 [(2, .int (x2))] [] h := by
    intro x2 hf
    unfold f_X5_period_J35 at hf
    refine G.iload_n C 0 dX5_period_35 rfl rfl ?_
    cases hf
    exact G.iret C rfl dX5_period_36
  refine G.sub C [0, 1] (lv' := [(0, .ref (a0)), (1, .ref (a1))]) rfl ?_
  refine G.iconst (v := 1) C dX5_period_0 (by decide) ?_
  refine G.istore_n (lv' := [(2, .int ((1 : Int32))), (0, .ref (a0)), (1, .ref (a1))]) C dX5_period_1 rfl (by decide) rfl ?_
  refine G.iconst (v := 0) C dX5_period_2 (by decide) ?_
  refine G.istore_n (lv' := [(3, .int ((0 : Int32))), (2, .int ((1 : Int32))), (0, .ref (a0)), (1, .ref (a1))]) C dX5_period_3 rfl (by decide) rfl ?_
  obtain ⟨z1, hlp1, hfo1⟩ := bind_some hf
  clear hf
  have hloop1 : ∀ (k : Nat), ∀ (x2 : Int32) (x3 : Int32), (lpn (f_X5_period_L4 (h) (a0) (a1)) k (x2, x3)) = some z1 → G p l e ({ frames := 2, cells := 0, slots := 0, locals := 47 } : Room) s m args below meth c 4 g X h 0 0 (MQ below (QW g X h s.heap.size (some (.int r)) h) args s 0 0 (AF X h s.heap.size)) 4 [(0, .ref (a0)), (1, .ref (a1)), (2, .int (x2)), (3, .int (x3))] [] h := by
    intro k
    induction k with
    | zero => intro x2 x3 hlp1; exact (lpn_0 hlp1).elim
    | succ k ih1 =>
      intro x2 x3 hlp1
      obtain ⟨y1, hf, hlp1⟩ := lpn_s hlp1
      unfold f_X5_period_L4 at hf
      try dsimp only at hf
      refine G.iload_n C 3 dX5_period_4 rfl rfl ?_
      refine G.aload_n C 1 dX5_period_5 rfl rfl ?_
      obtain ⟨v2, hv2, hf⟩ := bind_some hf
      try dsimp only at hf
      refine G.callV C (st := [.int (x3)]) (st2 := [.int (v2), .int (x3)]) (ct_X2_hueCount hv2) (ko_X2_hueCount hv2) rfl m9_155 m9_156 m9_157 m9_24 m9_158 kd_X2_hueCount ⟨Nat.le_of_ble_eq_true rfl, Nat.le_of_ble_eq_true rfl⟩ ⟨Nat.zero_le _, Nat.zero_le _⟩ (Nat.le_of_ble_eq_true rfl) rfl rfl dX5_period_6 ?_
      refine G.icmp_ge (tgt := 35) C dX5_period_9 (by decide) hf (fun c7 hf => ?_) (fun c7 hf => ?_)
      · cases hf
        change some _ = some _ at hlp1
        have hf := hfo1
        try rw [← Option.some.inj hlp1] at hf
        try dsimp only at hf
        refine G.sub C [2] (lv' := [(2, .int (x2))]) rfl ?_
        exact hj35 _ hf
      · refine G.iload_n C 2 dX5_period_12 rfl rfl ?_
        refine G.aload_n C 0 dX5_period_13 rfl rfl ?_
        refine G.getR (ci := 4) (k := 0) C rfl inlX5 (by decide) m9_12 rfl hf dX5_period_14 (fun v3 hv3 hf => ?_)
        try dsimp only at hf
        refine G.aload_n C 1 dX5_period_17 rfl rfl ?_
        refine G.iload_n C 3 dX5_period_18 rfl rfl ?_
        obtain ⟨v4, hv4, hf⟩ := bind_some hf
        try dsimp only at hf
        refine G.callV C (st := [.ref (v3), .int (x2)]) (st2 := [.int (v4), .ref (v3), .int (x2)]) (ct_X2_hueAt hv4) (ko_X2_hueAt hv4) rfl m9_176 m9_177 m9_178 m9_24 m9_179 kd_X2_hueAt ⟨Nat.le_of_ble_eq_true rfl, Nat.le_of_ble_eq_true rfl⟩ ⟨Nat.zero_le _, Nat.zero_le _⟩ (Nat.le_of_ble_eq_true rfl) rfl rfl dX5_period_19 ?_
        obtain ⟨v5, hv5, hf⟩ := bind_some hf
        try dsimp only at hf
        refine G.callV C (st := [.int (x2)]) (st2 := [.int (v5), .int (x2)]) (ct_X3_gapAt hv5) (ko_X3_gapAt hv5) rfl m9_180 m9_181 m9_182 m9_11 m9_183 kd_X3_gapAt ⟨Nat.le_of_ble_eq_true rfl, Nat.le_of_ble_eq_true rfl⟩ ⟨Nat.zero_le _, Nat.zero_le _⟩ (Nat.le_of_ble_eq_true rfl) rfl rfl dX5_period_22 ?_
        obtain ⟨v6, hv6, hf⟩ := bind_some hf
        try dsimp only at hf
        refine G.callS C (st := []) (st2 := [.int (v6)]) (ct_X1_leastCommonMultiple hv6) m9_184 m9_185 m9_186 m9_187 kd_X1_leastCommonMultiple ⟨Nat.le_of_ble_eq_true rfl, Nat.le_of_ble_eq_true rfl⟩ ⟨Nat.zero_le _, Nat.zero_le _⟩ (Nat.le_of_ble_eq_true rfl) rfl rfl dX5_period_25 ?_
        refine G.istore_n (lv' := [(2, .int (v6)), (0, .ref (a0)), (1, .ref (a1)), (3, .int (x3))]) C dX5_period_28 rfl (by decide) rfl ?_
        refine G.iinc (k := 3) (v := (x3 + 1)) (lv' := [(3, .int ((x3 + 1))), (2, .int (v6)), (0, .ref (a0)), (1, .ref (a1))]) C dX5_period_29 rfl rfl (by decide) rfl ?_
        refine G.goto (tgt := 4) C dX5_period_32 (by decide) ?_
        cases hf
        refine G.sub C [2, 3, 1, 0] (lv' := [(0, .ref (a0)), (1, .ref (a1)), (2, .int (v6)), (3, .int ((x3 + 1)))]) rfl ?_
        exact ih1 _ _ hlp1
  refine G.sub C [2, 3, 1, 0] (lv' := [(0, .ref (a0)), (1, .ref (a1)), (2, .int ((1 : Int32))), (3, .int ((0 : Int32)))]) rfl ?_
  exact hloop1 LF _ _ hlp1
theorem ko_X5_ropeNumber {h : PH} {a0 : Nat} {a1 : Nat} {a2 : Int32} {r : Int32} (hf : f_X5_ropeNumber h a0 a1 a2 = some r) : kO h a0 4 := by
  unfold f_X5_ropeNumber at hf
  exact okO_k (gd_ok hf).1
theorem kd_X5_ropeNumber : yX5_ropeNumber.cls = RX5 ∧ yX5_ropeNumber.cls ≠ "java/lang/invoke/MethodHandle" ∧ yX5_ropeNumber.cls ≠ "java/lang/invoke/VarHandle" ∧ (parseMethodDescriptor yX5_ropeNumber.desc).map (fun d => d.parameters.length) = some 2 := by decide +kernel
set_option maxRecDepth 20000 in
set_option maxHeartbeats 4000000 in
theorem ct_X5_ropeNumber {l : Launch} {h : PH} {a0 : Nat} {a1 : Nat} {a2 : Int32} {r : Int32} (hf : f_X5_ropeNumber h a0 a1 a2 = some r) : CT l yX5_ropeNumber cX5_ropeNumber 3 (some .int) 3 70 [.ref (a0), .ref (a1), .int (a2)] h (some (.int r)) h := by
  refine CT.of (own := RX5) rfl (by decide) (Nat.le_of_ble_eq_true rfl) ?_
  intro p e R s m args below meth c g X hR C
  subst hR
  unfold f_X5_ropeNumber at hf
  obtain ⟨hok, hf⟩ := gd_ok hf
  refine G.sub C [0, 1, 2] (lv' := [(0, .ref (a0)), (1, .ref (a1)), (2, .int (a2))]) rfl ?_
  refine G.iload_n C 2 dX5_ropeNumber_0 rfl rfl ?_
  by_cases c1 : a2 = 0
  · rw [if_pos c1] at hf
    refine G.tswIn (tgt := 36) (off := 35) C c1 dX5_ropeNumber_1 (by decide) (by decide) rfl (by decide) ?_
    refine G.aload_n C 1 dX5_ropeNumber_36 rfl rfl ?_
    obtain ⟨v2, hv2, hf⟩ := bind_some hf
    try dsimp only at hf
    refine G.callV C (st := []) (st2 := [.int (v2)]) (ct_X2_length hv2) (ko_X2_length hv2) rfl m9_154 m9_93 m9_94 m9_24 m9_95 kd_X2_length ⟨Nat.le_of_ble_eq_true rfl, Nat.le_of_ble_eq_true rfl⟩ ⟨Nat.zero_le _, Nat.zero_le _⟩ (Nat.le_of_ble_eq_true rfl) rfl rfl dX5_ropeNumber_37 ?_
    cases hf
    exact G.iret C rfl dX5_ropeNumber_40
  · rw [if_neg c1] at hf
    by_cases c3 : a2 = 1
    · rw [if_pos c3] at hf
      refine G.tswIn (tgt := 41) (off := 40) C c3 dX5_ropeNumber_1 (by decide) (by decide) rfl (by decide) ?_
      refine G.aload_n C 1 dX5_ropeNumber_41 rfl rfl ?_
      obtain ⟨v4, hv4, hf⟩ := bind_some hf
      try dsimp only at hf
      refine G.callV C (st := []) (st2 := [.int (v4)]) (ct_X2_hueCount hv4) (ko_X2_hueCount hv4) rfl m9_155 m9_156 m9_157 m9_24 m9_158 kd_X2_hueCount ⟨Nat.le_of_ble_eq_true rfl, Nat.le_of_ble_eq_true rfl⟩ ⟨Nat.zero_le _, Nat.zero_le _⟩ (Nat.le_of_ble_eq_true rfl) rfl rfl dX5_ropeNumber_42 ?_
      cases hf
      exact G.iret C rfl dX5_ropeNumber_45
    · rw [if_neg c3] at hf
      by_cases c5 : a2 = 2
      · rw [if_pos c5] at hf
        refine G.tswIn (tgt := 46) (off := 45) C c5 dX5_ropeNumber_1 (by decide) (by decide) rfl (by decide) ?_
        refine G.aload_n C 1 dX5_ropeNumber_46 rfl rfl ?_
        refine G.iconst (v := (-1)) C dX5_ropeNumber_47 (by decide) ?_
        obtain ⟨v6, hv6, hf⟩ := bind_some hf
        try dsimp only at hf
        refine G.callV C (st := []) (st2 := [.int (v6)]) (ct_X2_placesOf hv6) (ko_X2_placesOf hv6) rfl m9_159 m9_101 m9_102 m9_24 m9_103 kd_X2_placesOf ⟨Nat.le_of_ble_eq_true rfl, Nat.le_of_ble_eq_true rfl⟩ ⟨Nat.zero_le _, Nat.zero_le _⟩ (Nat.le_of_ble_eq_true rfl) rfl rfl dX5_ropeNumber_48 ?_
        cases hf
        exact G.iret C rfl dX5_ropeNumber_51
      · rw [if_neg c5] at hf
        by_cases c7 : a2 = 3
        · rw [if_pos c7] at hf
          refine G.tswIn (tgt := 52) (off := 51) C c7 dX5_ropeNumber_1 (by decide) (by decide) rfl (by decide) ?_
          refine G.aload_n C 1 dX5_ropeNumber_52 rfl rfl ?_
          refine G.iconst (v := (-1)) C dX5_ropeNumber_53 (by decide) ?_
          refine G.iconst (v := 0) C dX5_ropeNumber_54 (by decide) ?_
          obtain ⟨v8, hv8, hf⟩ := bind_some hf
          try dsimp only at hf
          refine G.callV C (st := []) (st2 := [.int (v8)]) (ct_X2_firstFrom hv8) (ko_X2_firstFrom hv8) rfl m9_160 m9_161 m9_162 m9_24 m9_163 kd_X2_firstFrom ⟨Nat.le_of_ble_eq_true rfl, Nat.le_of_ble_eq_true rfl⟩ ⟨Nat.zero_le _, Nat.zero_le _⟩ (Nat.le_of_ble_eq_true rfl) rfl rfl dX5_ropeNumber_55 ?_
          cases hf
          exact G.iret C rfl dX5_ropeNumber_58
        · rw [if_neg c7] at hf
          by_cases c9 : a2 = 4
          · rw [if_pos c9] at hf
            refine G.tswIn (tgt := 59) (off := 58) C c9 dX5_ropeNumber_1 (by decide) (by decide) rfl (by decide) ?_
            refine G.aload_n C 1 dX5_ropeNumber_59 rfl rfl ?_
            obtain ⟨v10, hv10, hf⟩ := bind_some hf
            try dsimp only at hf
            refine G.callV C (st := []) (st2 := [.int (v10)]) (ct_X2_mostHolesSideBySide hv10) (ko_X2_mostHolesSideBySide hv10) rfl m9_164 m9_165 m9_166 m9_24 m9_167 kd_X2_mostHolesSideBySide ⟨Nat.le_of_ble_eq_true rfl, Nat.le_of_ble_eq_true rfl⟩ ⟨Nat.zero_le _, Nat.zero_le _⟩ (Nat.le_of_ble_eq_true rfl) rfl rfl dX5_ropeNumber_60 ?_
            cases hf
            exact G.iret C rfl dX5_ropeNumber_63
          · rw [if_neg c9] at hf
            refine G.tswOut (tgt := 64) C dX5_ropeNumber_1 (by have q0 := lv_neT (a := 0) c1 (by decide); have q1 := lv_neT (a := 1) c3 (by decide); have q2 := lv_neT (a := 2) c5 (by decide); have q3 := lv_neT (a := 3) c7 (by decide); have q4 := lv_neT (a := 4) c9 (by decide); omega) (by decide) ?_
            refine G.aload_n C 0 dX5_ropeNumber_64 rfl rfl ?_
            refine G.aload_n C 1 dX5_ropeNumber_65 rfl rfl ?_
            obtain ⟨v11, hv11, hf⟩ := bind_some hf
            try dsimp only at hf
            refine G.callV C (st := []) (st2 := [.int (v11)]) (ct_X5_period hv11) (ko_X5_period hv11) rfl m9_172 m9_173 m9_174 m9_2 m9_175 kd_X5_period ⟨Nat.le_of_ble_eq_true rfl, Nat.le_of_ble_eq_true rfl⟩ ⟨Nat.zero_le _, Nat.zero_le _⟩ (Nat.le_of_ble_eq_true rfl) rfl rfl dX5_ropeNumber_66 ?_
            cases hf
            exact G.iret C rfl dX5_ropeNumber_69
theorem ko_X5_ropeOf {h : PH} {a0 : Nat} {a1 : Int32} {a2 : Int32} {r : (Except String Int32)} (hf : f_X5_ropeOf h a0 a1 a2 = some r) : kO h a0 4 := by
  unfold f_X5_ropeOf at hf
  exact okO_k (gd_ok hf).1
theorem kd_X5_ropeOf : yX5_ropeOf.cls = RX5 ∧ yX5_ropeOf.cls ≠ "java/lang/invoke/MethodHandle" ∧ yX5_ropeOf.cls ≠ "java/lang/invoke/VarHandle" ∧ (parseMethodDescriptor yX5_ropeOf.desc).map (fun d => d.parameters.length) = some 2 := by decide +kernel
set_option maxRecDepth 20000 in
set_option maxHeartbeats 4000000 in
theorem cx_X5_ropeOf {l : Launch} {h : PH} {a0 : Nat} {a1 : Int32} {a2 : Int32} {r : (Except String Int32)} (hf : f_X5_ropeOf h a0 a1 a2 = some r) : CX l yX5_ropeOf cX5_ropeOf 4 (some .int) 7 112 [.ref (a0), .int (a1), .int (a2)] h (xI h r) := by
  refine CX.of (own := RX5) rfl (by decide) (Nat.le_of_ble_eq_true rfl) ?_
  intro p e R s m args below meth c g X hR C TT tab
  subst hR
  unfold f_X5_ropeOf at hf
  obtain ⟨hok, hf⟩ := gd_ok hf
  refine G.sub C [0, 1, 2] (lv' := [(0, .ref (a0)), (1, .int (a1)), (2, .int (a2))]) rfl ?_
  refine G.aload_n C 0 dX5_ropeOf_0 rfl rfl ?_
  refine G.iload_n C 1 dX5_ropeOf_1 rfl rfl ?_
  obtain ⟨r1, hr1, hf⟩ := bind_some hf
  cases r1 with
  | error E4 =>
    try dsimp only at hf
    cases hf
    exact G.callXe C TT tab (st := []) (cx_X5_existing hr1) rfl rfl ⟨rfl, rfl⟩ (ko_X5_existing hr1) rfl m9_143 m9_144 m9_145 m9_2 m9_146 kd_X5_existing ⟨Nat.le_of_ble_eq_true rfl, Nat.le_of_ble_eq_true rfl⟩ (Nat.le_of_ble_eq_true rfl) rfl dX5_ropeOf_2
  | ok v2 =>
    try dsimp only at hf
    refine G.callXo C TT (st := []) (st2 := [.ref (v2)]) (cx_X5_existing hr1) rfl (ko_X5_existing hr1) rfl m9_143 m9_144 m9_145 m9_2 m9_146 kd_X5_existing ⟨Nat.le_of_ble_eq_true rfl, Nat.le_of_ble_eq_true rfl⟩ (Nat.le_of_ble_eq_true rfl) rfl rfl dX5_ropeOf_2 ?_
    refine G.astore_n (lv' := [(3, .ref (v2)), (0, .ref (a0)), (1, .int (a1)), (2, .int (a2))]) C dX5_ropeOf_5 rfl (by decide) rfl ?_
    refine G.aload_n C 1 dX5_ropeOf_6 rfl rfl ?_
    refine G.iload_n C 3 dX5_ropeOf_7 rfl rfl ?_
    refine G.bipush (v := 6) C dX5_ropeOf_8 (by decide) ?_
    obtain ⟨r5, hr5, hf⟩ := bind_some hf
    cases r5 with
    | error E8 =>
      try dsimp only at hf
      cases hf
      exact G.callXe C TT tab (st := []) (cx_X5_requireWhat hr5) rfl rfl ⟨rfl, rfl⟩ (ko_X5_requireWhat hr5) rfl m9_70 m9_71 m9_72 m9_2 m9_73 kd_X5_requireWhat ⟨Nat.le_of_ble_eq_true rfl, Nat.le_of_ble_eq_true rfl⟩ (Nat.le_of_ble_eq_true rfl) rfl dX5_ropeOf_10
    | ok v6 =>
      try dsimp only at hf
      refine G.callXo C TT (st := []) (st2 := []) (cx_X5_requireWhat hr5) rfl (ko_X5_requireWhat hr5) rfl m9_70 m9_71 m9_72 m9_2 m9_73 kd_X5_requireWhat ⟨Nat.le_of_ble_eq_true rfl, Nat.le_of_ble_eq_true rfl⟩ (Nat.le_of_ble_eq_true rfl) rfl rfl dX5_ropeOf_10 ?_
      refine G.aload_n C 1 dX5_ropeOf_13 rfl rfl ?_
      refine G.aload_n C 0 dX5_ropeOf_14 rfl rfl ?_
      refine G.iload_n C 3 dX5_ropeOf_15 rfl rfl ?_
      obtain ⟨v9, hv9, hf⟩ := bind_some hf
      try dsimp only at hf
      refine G.callV C (st := []) (st2 := [.int (v9)]) (ct_X5_ropeNumber hv9) (ko_X5_ropeNumber hv9) rfl m9_150 m9_151 m9_152 m9_2 m9_153 kd_X5_ropeNumber ⟨Nat.le_of_ble_eq_true rfl, Nat.le_of_ble_eq_true rfl⟩ ⟨Nat.zero_le _, Nat.zero_le _⟩ (Nat.le_of_ble_eq_true rfl) rfl rfl dX5_ropeOf_16 ?_
      cases hf
      refine G.retX rfl ?_
      exact G.iret C rfl dX5_ropeOf_19
theorem ko_X5_hueOf {h : PH} {a0 : Nat} {a1 : Int32} {a2 : Int32} {a3 : Int32} {r : (Except String Int32)} (hf : f_X5_hueOf h a0 a1 a2 a3 = some r) : kO h a0 4 := by
  unfold f_X5_hueOf at hf
  exact okO_k (gd_ok hf).1
theorem kd_X5_hueOf : yX5_hueOf.cls = RX5 ∧ yX5_hueOf.cls ≠ "java/lang/invoke/MethodHandle" ∧ yX5_hueOf.cls ≠ "java/lang/invoke/VarHandle" ∧ (parseMethodDescriptor yX5_hueOf.desc).map (fun d => d.parameters.length) = some 3 := by decide +kernel
set_option maxRecDepth 20000 in
set_option maxHeartbeats 4000000 in
theorem cx_X5_hueOf {l : Launch} {h : PH} {a0 : Nat} {a1 : Int32} {a2 : Int32} {a3 : Int32} {r : (Except String Int32)} (hf : f_X5_hueOf h a0 a1 a2 a3 = some r) : CX l yX5_hueOf cX5_hueOf 5 (some .int) 7 112 [.ref (a0), .int (a1), .int (a2), .int (a3)] h (xI h r) := by
  refine CX.of (own := RX5) rfl (by decide) (Nat.le_of_ble_eq_true rfl) ?_
  intro p e R s m args below meth c g X hR C TT tab
  subst hR
  unfold f_X5_hueOf at hf
  obtain ⟨hok, hf⟩ := gd_ok hf
  refine G.sub C [0, 1, 2, 3] (lv' := [(0, .ref (a0)), (1, .int (a1)), (2, .int (a2)), (3, .int (a3))]) rfl ?_
  refine G.aload_n C 0 dX5_hueOf_0 rfl rfl ?_
  refine G.iload_n C 1 dX5_hueOf_1 rfl rfl ?_
  obtain ⟨r1, hr1, hf⟩ := bind_some hf
  cases r1 with
  | error E4 =>
    try dsimp only at hf
    cases hf
    exact G.callXe C TT tab (st := []) (cx_X5_existing hr1) rfl rfl ⟨rfl, rfl⟩ (ko_X5_existing hr1) rfl m9_143 m9_144 m9_145 m9_2 m9_146 kd_X5_existing ⟨Nat.le_of_ble_eq_true rfl, Nat.le_of_ble_eq_true rfl⟩ (Nat.le_of_ble_eq_true rfl) rfl dX5_hueOf_2
  | ok v2 =>
    try dsimp only at hf
    refine G.callXo C TT (st := []) (st2 := [.ref (v2)]) (cx_X5_existing hr1) rfl (ko_X5_existing hr1) rfl m9_143 m9_144 m9_145 m9_2 m9_146 kd_X5_existing ⟨Nat.le_of_ble_eq_true rfl, Nat.le_of_ble_eq_true rfl⟩ (Nat.le_of_ble_eq_true rfl) rfl rfl dX5_hueOf_2 ?_
    refine G.astore (lv' := [(4, .ref (v2)), (0, .ref (a0)), (1, .int (a1)), (2, .int (a2)), (3, .int (a3))]) C dX5_hueOf_5 (by decide) rfl ?_
    refine G.aload_n C 1 dX5_hueOf_7 rfl rfl ?_
    refine G.iload_n C 3 dX5_hueOf_8 rfl rfl ?_
    obtain ⟨r5, hr5, hf⟩ := bind_some hf
    cases r5 with
    | error E8 =>
      try dsimp only at hf
      cases hf
      exact G.callXe C TT tab (st := []) (cx_X5_requireHue hr5) rfl rfl ⟨rfl, rfl⟩ (ko_X5_requireHue hr5) rfl m9_195 m9_196 m9_197 m9_2 m9_198 kd_X5_requireHue ⟨Nat.le_of_ble_eq_true rfl, Nat.le_of_ble_eq_true rfl⟩ (Nat.le_of_ble_eq_true rfl) rfl dX5_hueOf_9
    | ok v6 =>
      try dsimp only at hf
      refine G.callXo C TT (st := []) (st2 := []) (cx_X5_requireHue hr5) rfl (ko_X5_requireHue hr5) rfl m9_195 m9_196 m9_197 m9_2 m9_198 kd_X5_requireHue ⟨Nat.le_of_ble_eq_true rfl, Nat.le_of_ble_eq_true rfl⟩ (Nat.le_of_ble_eq_true rfl) rfl rfl dX5_hueOf_9 ?_
      refine G.aload_n C 1 dX5_hueOf_12 rfl rfl ?_
      refine G.iload_n C 4 dX5_hueOf_13 rfl rfl ?_
      refine G.iconst (v := 4) C dX5_hueOf_14 (by decide) ?_
      obtain ⟨r9, hr9, hf⟩ := bind_some hf
      cases r9 with
      | error E12 =>
        try dsimp only at hf
        cases hf
        exact G.callXe C TT tab (st := []) (cx_X5_requireWhat hr9) rfl rfl ⟨rfl, rfl⟩ (ko_X5_requireWhat hr9) rfl m9_70 m9_71 m9_72 m9_2 m9_73 kd_X5_requireWhat ⟨Nat.le_of_ble_eq_true rfl, Nat.le_of_ble_eq_true rfl⟩ (Nat.le_of_ble_eq_true rfl) rfl dX5_hueOf_15
      | ok v10 =>
        try dsimp only at hf
        refine G.callXo C TT (st := []) (st2 := []) (cx_X5_requireWhat hr9) rfl (ko_X5_requireWhat hr9) rfl m9_70 m9_71 m9_72 m9_2 m9_73 kd_X5_requireWhat ⟨Nat.le_of_ble_eq_true rfl, Nat.le_of_ble_eq_true rfl⟩ (Nat.le_of_ble_eq_true rfl) rfl rfl dX5_hueOf_15 ?_
        refine G.aload C 0 dX5_hueOf_18 rfl ?_
        refine G.iload_n C 3 dX5_hueOf_20 rfl rfl ?_
        refine G.iload_n C 4 dX5_hueOf_21 rfl rfl ?_
        obtain ⟨v13, hv13, hf⟩ := bind_some hf
        try dsimp only at hf
        refine G.callV C (st := []) (st2 := [.int (v13)]) (ct_X2_hueNumber hv13) (ko_X2_hueNumber hv13) rfl m9_199 m9_200 m9_201 m9_24 m9_202 kd_X2_hueNumber ⟨Nat.le_of_ble_eq_true rfl, Nat.le_of_ble_eq_true rfl⟩ ⟨Nat.zero_le _, Nat.zero_le _⟩ (Nat.le_of_ble_eq_true rfl) rfl rfl dX5_hueOf_22 ?_
        cases hf
        refine G.retX rfl ?_
        exact G.iret C rfl dX5_hueOf_25
theorem ko_X5_gapOf {h : PH} {a0 : Nat} {a1 : Int32} {r : (Except String Int32)} (hf : f_X5_gapOf h a0 a1 = some r) : kO h a0 4 := by
  unfold f_X5_gapOf at hf
  exact okO_k (gd_ok hf).1
theorem kd_X5_gapOf : yX5_gapOf.cls = RX5 ∧ yX5_gapOf.cls ≠ "java/lang/invoke/MethodHandle" ∧ yX5_gapOf.cls ≠ "java/lang/invoke/VarHandle" ∧ (parseMethodDescriptor yX5_gapOf.desc).map (fun d => d.parameters.length) = some 1 := by decide +kernel
set_option maxRecDepth 20000 in
set_option maxHeartbeats 4000000 in
theorem cx_X5_gapOf {l : Launch} {h : PH} {a0 : Nat} {a1 : Int32} {r : (Except String Int32)} (hf : f_X5_gapOf h a0 a1 = some r) : CX l yX5_gapOf cX5_gapOf 2 (some .int) 7 111 [.ref (a0), .int (a1)] h (xI h r) := by
  refine CX.of (own := RX5) rfl (by decide) (Nat.le_of_ble_eq_true rfl) ?_
  intro p e R s m args below meth c g X hR C TT tab
  subst hR
  unfold f_X5_gapOf at hf
  obtain ⟨hok, hf⟩ := gd_ok hf
  refine G.sub C [0, 1] (lv' := [(0, .ref (a0)), (1, .int (a1))]) rfl ?_
  refine G.aload_n C 0 dX5_gapOf_0 rfl rfl ?_
  refine G.iload_n C 1 dX5_gapOf_1 rfl rfl ?_
  obtain ⟨r1, hr1, hf⟩ := bind_some hf
  cases r1 with
  | error E4 =>
    try dsimp only at hf
    cases hf
    exact G.callXe C TT tab (st := []) (cx_X5_requireHue hr1) rfl rfl ⟨rfl, rfl⟩ (ko_X5_requireHue hr1) rfl m9_195 m9_196 m9_197 m9_2 m9_198 kd_X5_requireHue ⟨Nat.le_of_ble_eq_true rfl, Nat.le_of_ble_eq_true rfl⟩ (Nat.le_of_ble_eq_true rfl) rfl dX5_gapOf_2
  | ok v2 =>
    try dsimp only at hf
    refine G.callXo C TT (st := []) (st2 := []) (cx_X5_requireHue hr1) rfl (ko_X5_requireHue hr1) rfl m9_195 m9_196 m9_197 m9_2 m9_198 kd_X5_requireHue ⟨Nat.le_of_ble_eq_true rfl, Nat.le_of_ble_eq_true rfl⟩ (Nat.le_of_ble_eq_true rfl) rfl rfl dX5_gapOf_2 ?_
    refine G.aload_n C 0 dX5_gapOf_5 rfl rfl ?_
    refine G.getR (ci := 4) (k := 0) C rfl inlX5 (by decide) m9_12 rfl hf dX5_gapOf_6 (fun v5 hv5 hf => ?_)
    try dsimp only at hf
    refine G.iload_n C 1 dX5_gapOf_9 rfl rfl ?_
    obtain ⟨v6, hv6, hf⟩ := bind_some hf
    try dsimp only at hf
    refine G.callV C (st := []) (st2 := [.int (v6)]) (ct_X3_gapAt hv6) (ko_X3_gapAt hv6) rfl m9_180 m9_181 m9_182 m9_11 m9_183 kd_X3_gapAt ⟨Nat.le_of_ble_eq_true rfl, Nat.le_of_ble_eq_true rfl⟩ ⟨Nat.zero_le _, Nat.zero_le _⟩ (Nat.le_of_ble_eq_true rfl) rfl rfl dX5_gapOf_10 ?_
    cases hf
    refine G.retX rfl ?_
    exact G.iret C rfl dX5_gapOf_13
theorem ko_X5_counted {h : PH} {a0 : Nat} {a1 : Int32} {r : Int32} (hf : f_X5_counted h a0 a1 = some r) : kO h a0 4 := by
  unfold f_X5_counted at hf
  exact okO_k (gd_ok hf).1
theorem kd_X5_counted : yX5_counted.cls = RX5 ∧ yX5_counted.cls ≠ "java/lang/invoke/MethodHandle" ∧ yX5_counted.cls ≠ "java/lang/invoke/VarHandle" ∧ (parseMethodDescriptor yX5_counted.desc).map (fun d => d.parameters.length) = some 1 := by decide +kernel
set_option maxRecDepth 20000 in
set_option maxHeartbeats 4000000 in
theorem ct_X5_counted {l : Launch} {h : PH} {a0 : Nat} {a1 : Int32} {r : Int32} (hf : f_X5_counted h a0 a1 = some r) : CT l yX5_counted cX5_counted 2 (some .int) 3 67 [.ref (a0), .int (a1)] h (some (.int r)) h := by
  refine CT.of (own := RX5) rfl (by decide) (Nat.le_of_ble_eq_true rfl) ?_
  intro p e R s m args below meth c g X hR C
  subst hR
  unfold f_X5_counted at hf
  obtain ⟨hok, hf⟩ := gd_ok hf
  refine G.sub C [0, 1] (lv' := [(0, .ref (a0)), (1, .int (a1))]) rfl ?_
  refine G.iload_n C 1 dX5_counted_0 rfl rfl ?_
  by_cases c1 : a1 = 0
  · rw [if_pos c1] at hf
    refine G.tswIn (tgt := 44) (off := 43) C c1 dX5_counted_1 (by decide) (by decide) rfl (by decide) ?_
    refine G.aload_n C 0 dX5_counted_44 rfl rfl ?_
    refine G.getR (ci := 4) (k := 0) C rfl inlX5 (by decide) m9_12 rfl hf dX5_counted_45 (fun v2 hv2 hf => ?_)
    try dsimp only at hf
    obtain ⟨v3, hv3, hf⟩ := bind_some hf
    try dsimp only at hf
    refine G.callV C (st := []) (st2 := [.int (v3)]) (ct_X3_ropeCount hv3) (ko_X3_ropeCount hv3) rfl m9_80 m9_81 m9_82 m9_11 m9_83 kd_X3_ropeCount ⟨Nat.le_of_ble_eq_true rfl, Nat.le_of_ble_eq_true rfl⟩ ⟨Nat.zero_le _, Nat.zero_le _⟩ (Nat.le_of_ble_eq_true rfl) rfl rfl dX5_counted_48 ?_
    cases hf
    exact G.iret C rfl dX5_counted_51
  · rw [if_neg c1] at hf
    by_cases c4 : a1 = 1
    · rw [if_pos c4] at hf
      refine G.tswIn (tgt := 52) (off := 51) C c4 dX5_counted_1 (by decide) (by decide) rfl (by decide) ?_
      refine G.aload_n C 0 dX5_counted_52 rfl rfl ?_
      refine G.getR (ci := 4) (k := 0) C rfl inlX5 (by decide) m9_12 rfl hf dX5_counted_53 (fun v5 hv5 hf => ?_)
      try dsimp only at hf
      obtain ⟨v6, hv6, hf⟩ := bind_some hf
      try dsimp only at hf
      refine G.callV C (st := []) (st2 := [.int (v6)]) (ct_X3_places hv6) (ko_X3_places hv6) rfl m9_84 m9_85 m9_86 m9_11 m9_87 kd_X3_places ⟨Nat.le_of_ble_eq_true rfl, Nat.le_of_ble_eq_true rfl⟩ ⟨Nat.zero_le _, Nat.zero_le _⟩ (Nat.le_of_ble_eq_true rfl) rfl rfl dX5_counted_56 ?_
      cases hf
      exact G.iret C rfl dX5_counted_59
    · rw [if_neg c4] at hf
      by_cases c7 : a1 = 2
      · rw [if_pos c7] at hf
        refine G.tswIn (tgt := 60) (off := 59) C c7 dX5_counted_1 (by decide) (by decide) rfl (by decide) ?_
        refine G.aload_n C 0 dX5_counted_60 rfl rfl ?_
        refine G.getR (ci := 4) (k := 0) C rfl inlX5 (by decide) m9_12 rfl hf dX5_counted_61 (fun v8 hv8 hf => ?_)
        try dsimp only at hf
        obtain ⟨v9, hv9, hf⟩ := bind_some hf
        try dsimp only at hf
        refine G.callV C (st := []) (st2 := [.int (v9)]) (ct_X3_holes hv9) (ko_X3_holes hv9) rfl m9_96 m9_97 m9_98 m9_11 m9_99 kd_X3_holes ⟨Nat.le_of_ble_eq_true rfl, Nat.le_of_ble_eq_true rfl⟩ ⟨Nat.zero_le _, Nat.zero_le _⟩ (Nat.le_of_ble_eq_true rfl) rfl rfl dX5_counted_64 ?_
        cases hf
        exact G.iret C rfl dX5_counted_67
      · rw [if_neg c7] at hf
        by_cases c10 : a1 = 3
        · rw [if_pos c10] at hf
          refine G.tswIn (tgt := 68) (off := 67) C c10 dX5_counted_1 (by decide) (by decide) rfl (by decide) ?_
          refine G.aload_n C 0 dX5_counted_68 rfl rfl ?_
          refine G.getR (ci := 4) (k := 0) C rfl inlX5 (by decide) m9_12 rfl hf dX5_counted_69 (fun v11 hv11 hf => ?_)
          try dsimp only at hf
          obtain ⟨v12, hv12, hf⟩ := bind_some hf
          try dsimp only at hf
          refine G.callV C (st := []) (st2 := [.int (v12)]) (ct_X3_laidHues hv12) (ko_X3_laidHues hv12) rfl m9_108 m9_109 m9_110 m9_11 m9_111 kd_X3_laidHues ⟨Nat.le_of_ble_eq_true rfl, Nat.le_of_ble_eq_true rfl⟩ ⟨Nat.zero_le _, Nat.zero_le _⟩ (Nat.le_of_ble_eq_true rfl) rfl rfl dX5_counted_72 ?_
          cases hf
          exact G.iret C rfl dX5_counted_75
        · rw [if_neg c10] at hf
          by_cases c13 : a1 = 4
          · rw [if_pos c13] at hf
            refine G.tswIn (tgt := 76) (off := 75) C c13 dX5_counted_1 (by decide) (by decide) rfl (by decide) ?_
            refine G.aload_n C 0 dX5_counted_76 rfl rfl ?_
            refine G.getR (ci := 4) (k := 0) C rfl inlX5 (by decide) m9_12 rfl hf dX5_counted_77 (fun v14 hv14 hf => ?_)
            try dsimp only at hf
            obtain ⟨v15, hv15, hf⟩ := bind_some hf
            try dsimp only at hf
            refine G.callV C (st := []) (st2 := [.int (v15)]) (ct_X3_layings hv15) (ko_X3_layings hv15) rfl m9_120 m9_121 m9_122 m9_11 m9_123 kd_X3_layings ⟨Nat.le_of_ble_eq_true rfl, Nat.le_of_ble_eq_true rfl⟩ ⟨Nat.zero_le _, Nat.zero_le _⟩ (Nat.le_of_ble_eq_true rfl) rfl rfl dX5_counted_80 ?_
            cases hf
            exact G.iret C rfl dX5_counted_83
          · rw [if_neg c13] at hf
            by_cases c16 : a1 = 5
            · rw [if_pos c16] at hf
              refine G.tswIn (tgt := 84) (off := 83) C c16 dX5_counted_1 (by decide) (by decide) rfl (by decide) ?_
              refine G.aload_n C 0 dX5_counted_84 rfl rfl ?_
              refine G.getR (ci := 4) (k := 0) C rfl inlX5 (by decide) m9_12 rfl hf dX5_counted_85 (fun v17 hv17 hf => ?_)
              try dsimp only at hf
              obtain ⟨v18, hv18, hf⟩ := bind_some hf
              try dsimp only at hf
              refine G.callV C (st := []) (st2 := [.int (v18)]) (ct_X3_joins hv18) (ko_X3_joins hv18) rfl m9_124 m9_125 m9_126 m9_11 m9_127 kd_X3_joins ⟨Nat.le_of_ble_eq_true rfl, Nat.le_of_ble_eq_true rfl⟩ ⟨Nat.zero_le _, Nat.zero_le _⟩ (Nat.le_of_ble_eq_true rfl) rfl rfl dX5_counted_88 ?_
              cases hf
              exact G.iret C rfl dX5_counted_91
            · rw [if_neg c16] at hf
              by_cases c19 : a1 = 6
              · rw [if_pos c19] at hf
                refine G.tswIn (tgt := 92) (off := 91) C c19 dX5_counted_1 (by decide) (by decide) rfl (by decide) ?_
                refine G.aload_n C 0 dX5_counted_92 rfl rfl ?_
                refine G.getR (ci := 4) (k := 0) C rfl inlX5 (by decide) m9_12 rfl hf dX5_counted_93 (fun v20 hv20 hf => ?_)
                try dsimp only at hf
                obtain ⟨v21, hv21, hf⟩ := bind_some hf
                try dsimp only at hf
                refine G.callV C (st := []) (st2 := [.int (v21)]) (ct_X3_cuts hv21) (ko_X3_cuts hv21) rfl m9_128 m9_129 m9_130 m9_11 m9_131 kd_X3_cuts ⟨Nat.le_of_ble_eq_true rfl, Nat.le_of_ble_eq_true rfl⟩ ⟨Nat.zero_le _, Nat.zero_le _⟩ (Nat.le_of_ble_eq_true rfl) rfl rfl dX5_counted_96 ?_
                cases hf
                exact G.iret C rfl dX5_counted_99
              · rw [if_neg c19] at hf
                refine G.tswOut (tgt := 100) C dX5_counted_1 (by have q0 := lv_neT (a := 0) c1 (by decide); have q1 := lv_neT (a := 1) c4 (by decide); have q2 := lv_neT (a := 2) c7 (by decide); have q3 := lv_neT (a := 3) c10 (by decide); have q4 := lv_neT (a := 4) c13 (by decide); have q5 := lv_neT (a := 5) c16 (by decide); have q6 := lv_neT (a := 6) c19 (by decide); omega) (by decide) ?_
                refine G.aload_n C 0 dX5_counted_100 rfl rfl ?_
                refine G.getR (ci := 4) (k := 2) C rfl inlX5 (by decide) m9_17 rfl hf dX5_counted_101 (fun v22 hv22 hf => ?_)
                try dsimp only at hf
                obtain ⟨v23, hv23, hf⟩ := bind_some hf
                try dsimp only at hf
                refine G.callV C (st := []) (st2 := [.int (v23)]) (ct_X0_size hv23) (ko_X0_size hv23) rfl m9_132 m9_133 m9_134 m9_16 m9_135 kd_X0_size ⟨Nat.le_of_ble_eq_true rfl, Nat.le_of_ble_eq_true rfl⟩ ⟨Nat.zero_le _, Nat.zero_le _⟩ (Nat.le_of_ble_eq_true rfl) rfl rfl dX5_counted_104 ?_
                cases hf
                exact G.iret C rfl dX5_counted_107
theorem ko_X5_count {h : PH} {a0 : Nat} {a1 : Int32} {r : (Except String Int32)} (hf : f_X5_count h a0 a1 = some r) : kO h a0 4 := by
  unfold f_X5_count at hf
  exact okO_k (gd_ok hf).1
theorem kd_X5_count : yX5_count.cls = RX5 ∧ yX5_count.cls ≠ "java/lang/invoke/MethodHandle" ∧ yX5_count.cls ≠ "java/lang/invoke/VarHandle" ∧ (parseMethodDescriptor yX5_count.desc).map (fun d => d.parameters.length) = some 1 := by decide +kernel
set_option maxRecDepth 20000 in
set_option maxHeartbeats 4000000 in
theorem cx_X5_count {l : Launch} {h : PH} {a0 : Nat} {a1 : Int32} {r : (Except String Int32)} (hf : f_X5_count h a0 a1 = some r) : CX l yX5_count cX5_count 2 (some .int) 7 112 [.ref (a0), .int (a1)] h (xI h r) := by
  refine CX.of (own := RX5) rfl (by decide) (Nat.le_of_ble_eq_true rfl) ?_
  intro p e R s m args below meth c g X hR C TT tab
  subst hR
  unfold f_X5_count at hf
  obtain ⟨hok, hf⟩ := gd_ok hf
  refine G.sub C [0, 1] (lv' := [(0, .ref (a0)), (1, .int (a1))]) rfl ?_
  refine G.aload_n C 0 dX5_count_0 rfl rfl ?_
  refine G.iload_n C 1 dX5_count_1 rfl rfl ?_
  refine G.bipush (v := 8) C dX5_count_2 (by decide) ?_
  obtain ⟨r1, hr1, hf⟩ := bind_some hf
  cases r1 with
  | error E4 =>
    try dsimp only at hf
    cases hf
    exact G.callXe C TT tab (st := []) (cx_X5_requireWhat hr1) rfl rfl ⟨rfl, rfl⟩ (ko_X5_requireWhat hr1) rfl m9_70 m9_71 m9_72 m9_2 m9_73 kd_X5_requireWhat ⟨Nat.le_of_ble_eq_true rfl, Nat.le_of_ble_eq_true rfl⟩ (Nat.le_of_ble_eq_true rfl) rfl dX5_count_4
  | ok v2 =>
    try dsimp only at hf
    refine G.callXo C TT (st := []) (st2 := []) (cx_X5_requireWhat hr1) rfl (ko_X5_requireWhat hr1) rfl m9_70 m9_71 m9_72 m9_2 m9_73 kd_X5_requireWhat ⟨Nat.le_of_ble_eq_true rfl, Nat.le_of_ble_eq_true rfl⟩ (Nat.le_of_ble_eq_true rfl) rfl rfl dX5_count_4 ?_
    refine G.aload_n C 0 dX5_count_7 rfl rfl ?_
    refine G.iload_n C 1 dX5_count_8 rfl rfl ?_
    obtain ⟨v5, hv5, hf⟩ := bind_some hf
    try dsimp only at hf
    refine G.callV C (st := []) (st2 := [.int (v5)]) (ct_X5_counted hv5) (ko_X5_counted hv5) rfl m9_76 m9_77 m9_78 m9_2 m9_79 kd_X5_counted ⟨Nat.le_of_ble_eq_true rfl, Nat.le_of_ble_eq_true rfl⟩ ⟨Nat.zero_le _, Nat.zero_le _⟩ (Nat.le_of_ble_eq_true rfl) rfl rfl dX5_count_9 ?_
    cases hf
    refine G.retX rfl ?_
    exact G.iret C rfl dX5_count_12
theorem ko_X5_refusal {h : PH} {a0 : Nat} {a1 : Int32} {a2 : Int32} {a3 : Int32} {r : (Except String Int32)} (hf : f_X5_refusal h a0 a1 a2 a3 = some r) : kO h a0 4 := by
  unfold f_X5_refusal at hf
  exact okO_k (gd_ok hf).1
theorem kd_X5_refusal : yX5_refusal.cls = RX5 ∧ yX5_refusal.cls ≠ "java/lang/invoke/MethodHandle" ∧ yX5_refusal.cls ≠ "java/lang/invoke/VarHandle" ∧ (parseMethodDescriptor yX5_refusal.desc).map (fun d => d.parameters.length) = some 3 := by decide +kernel
set_option maxRecDepth 20000 in
set_option maxHeartbeats 4000000 in
theorem cx_X5_refusal {l : Launch} {h : PH} {a0 : Nat} {a1 : Int32} {a2 : Int32} {a3 : Int32} {r : (Except String Int32)} (hf : f_X5_refusal h a0 a1 a2 a3 = some r) : CX l yX5_refusal cX5_refusal 5 (some .int) 7 112 [.ref (a0), .int (a1), .int (a2), .int (a3)] h (xI h r) := by
  refine CX.of (own := RX5) rfl (by decide) (Nat.le_of_ble_eq_true rfl) ?_
  intro p e R s m args below meth c g X hR C TT tab
  subst hR
  unfold f_X5_refusal at hf
  obtain ⟨hok, hf⟩ := gd_ok hf
  refine G.sub C [0, 1, 2, 3] (lv' := [(0, .ref (a0)), (1, .int (a1)), (2, .int (a2)), (3, .int (a3))]) rfl ?_
  refine G.aload_n C 0 dX5_refusal_0 rfl rfl ?_
  refine G.iload_n C 1 dX5_refusal_1 rfl rfl ?_
  obtain ⟨r1, hr1, hf⟩ := bind_some hf
  cases r1 with
  | error E4 =>
    try dsimp only at hf
    cases hf
    exact G.callXe C TT tab (st := []) (cx_X5_existing hr1) rfl rfl ⟨rfl, rfl⟩ (ko_X5_existing hr1) rfl m9_143 m9_144 m9_145 m9_2 m9_146 kd_X5_existing ⟨Nat.le_of_ble_eq_true rfl, Nat.le_of_ble_eq_true rfl⟩ (Nat.le_of_ble_eq_true rfl) rfl dX5_refusal_2
  | ok v2 =>
    try dsimp only at hf
    refine G.callXo C TT (st := []) (st2 := [.ref (v2)]) (cx_X5_existing hr1) rfl (ko_X5_existing hr1) rfl m9_143 m9_144 m9_145 m9_2 m9_146 kd_X5_existing ⟨Nat.le_of_ble_eq_true rfl, Nat.le_of_ble_eq_true rfl⟩ (Nat.le_of_ble_eq_true rfl) rfl rfl dX5_refusal_2 ?_
    refine G.astore (lv' := [(4, .ref (v2)), (0, .ref (a0)), (1, .int (a1)), (2, .int (a2)), (3, .int (a3))]) C dX5_refusal_5 (by decide) rfl ?_
    refine G.aload_n C 1 dX5_refusal_7 rfl rfl ?_
    refine G.iload_n C 3 dX5_refusal_8 rfl rfl ?_
    obtain ⟨r5, hr5, hf⟩ := bind_some hf
    cases r5 with
    | error E8 =>
      try dsimp only at hf
      cases hf
      exact G.callXe C TT tab (st := []) (cx_X5_requireHue hr5) rfl rfl ⟨rfl, rfl⟩ (ko_X5_requireHue hr5) rfl m9_195 m9_196 m9_197 m9_2 m9_198 kd_X5_requireHue ⟨Nat.le_of_ble_eq_true rfl, Nat.le_of_ble_eq_true rfl⟩ (Nat.le_of_ble_eq_true rfl) rfl dX5_refusal_9
    | ok v6 =>
      try dsimp only at hf
      refine G.callXo C TT (st := []) (st2 := []) (cx_X5_requireHue hr5) rfl (ko_X5_requireHue hr5) rfl m9_195 m9_196 m9_197 m9_2 m9_198 kd_X5_requireHue ⟨Nat.le_of_ble_eq_true rfl, Nat.le_of_ble_eq_true rfl⟩ (Nat.le_of_ble_eq_true rfl) rfl rfl dX5_refusal_9 ?_
      refine G.aload_n C 1 dX5_refusal_12 rfl rfl ?_
      refine G.iload_n C 3 dX5_refusal_13 rfl rfl ?_
      refine G.iload_n C 4 dX5_refusal_14 rfl rfl ?_
      obtain ⟨r9, hr9, hf⟩ := bind_some hf
      cases r9 with
      | error E12 =>
        try dsimp only at hf
        cases hf
        exact G.callXe C TT tab (st := []) (cx_X5_requirePhase hr9) rfl rfl ⟨rfl, rfl⟩ (ko_X5_requirePhase hr9) rfl m9_254 m9_255 m9_256 m9_2 m9_257 kd_X5_requirePhase ⟨Nat.le_of_ble_eq_true rfl, Nat.le_of_ble_eq_true rfl⟩ (Nat.le_of_ble_eq_true rfl) rfl dX5_refusal_15
      | ok v10 =>
        try dsimp only at hf
        refine G.callXo C TT (st := []) (st2 := []) (cx_X5_requirePhase hr9) rfl (ko_X5_requirePhase hr9) rfl m9_254 m9_255 m9_256 m9_2 m9_257 kd_X5_requirePhase ⟨Nat.le_of_ble_eq_true rfl, Nat.le_of_ble_eq_true rfl⟩ (Nat.le_of_ble_eq_true rfl) rfl rfl dX5_refusal_15 ?_
        refine G.aload C 0 dX5_refusal_18 rfl ?_
        refine G.iload_n C 3 dX5_refusal_20 rfl rfl ?_
        refine G.iload_n C 4 dX5_refusal_21 rfl rfl ?_
        refine G.aload_n C 1 dX5_refusal_22 rfl rfl ?_
        refine G.getR (ci := 4) (k := 0) C rfl inlX5 (by decide) m9_12 rfl hf dX5_refusal_23 (fun v13 hv13 hf => ?_)
        try dsimp only at hf
        refine G.iload_n C 3 dX5_refusal_26 rfl rfl ?_
        obtain ⟨v14, hv14, hf⟩ := bind_some hf
        try dsimp only at hf
        refine G.callV C (st := [.int (a3), .int (a2), .ref (v2)]) (st2 := [.int (v14), .int (a3), .int (a2), .ref (v2)]) (ct_X3_gapAt hv14) (ko_X3_gapAt hv14) rfl m9_180 m9_181 m9_182 m9_11 m9_183 kd_X3_gapAt ⟨Nat.le_of_ble_eq_true rfl, Nat.le_of_ble_eq_true rfl⟩ ⟨Nat.zero_le _, Nat.zero_le _⟩ (Nat.le_of_ble_eq_true rfl) rfl rfl dX5_refusal_27 ?_
        obtain ⟨v15, hv15, hf⟩ := bind_some hf
        try dsimp only at hf
        refine G.callV C (st := []) (st2 := [.int (v15)]) (ct_X2_reasonAgainst hv15) (ko_X2_reasonAgainst hv15) rfl m9_258 m9_232 m9_233 m9_24 m9_234 kd_X2_reasonAgainst ⟨Nat.le_of_ble_eq_true rfl, Nat.le_of_ble_eq_true rfl⟩ ⟨Nat.zero_le _, Nat.zero_le _⟩ (Nat.le_of_ble_eq_true rfl) rfl rfl dX5_refusal_30 ?_
        cases hf
        refine G.retX rfl ?_
        exact G.iret C rfl dX5_refusal_33
theorem ko_X5_meeting {h : PH} {a0 : Nat} {a1 : Int32} {a2 : Int32} {a3 : Int32} {a4 : Int32} {r : (Except String Int32)} (hf : f_X5_meeting h a0 a1 a2 a3 a4 = some r) : kO h a0 4 := by
  unfold f_X5_meeting at hf
  exact okO_k (gd_ok hf).1
theorem kd_X5_meeting : yX5_meeting.cls = RX5 ∧ yX5_meeting.cls ≠ "java/lang/invoke/MethodHandle" ∧ yX5_meeting.cls ≠ "java/lang/invoke/VarHandle" ∧ (parseMethodDescriptor yX5_meeting.desc).map (fun d => d.parameters.length) = some 4 := by decide +kernel
set_option maxRecDepth 20000 in
set_option maxHeartbeats 4000000 in
theorem cx_X5_meeting {l : Launch} {h : PH} {a0 : Nat} {a1 : Int32} {a2 : Int32} {a3 : Int32} {a4 : Int32} {r : (Except String Int32)} (hf : f_X5_meeting h a0 a1 a2 a3 a4 = some r) : CX l yX5_meeting cX5_meeting 5 (some .int) 7 112 [.ref (a0), .int (a1), .int (a2), .int (a3), .int (a4)] h (xI h r) := by
  refine CX.of (own := RX5) rfl (by decide) (Nat.le_of_ble_eq_true rfl) ?_
  intro p e R s m args below meth c g X hR C TT tab
  subst hR
  unfold f_X5_meeting at hf
  obtain ⟨hok, hf⟩ := gd_ok hf
  refine G.sub C [0, 1, 2, 3, 4] (lv' := [(0, .ref (a0)), (1, .int (a1)), (2, .int (a2)), (3, .int (a3)), (4, .int (a4))]) rfl ?_
  refine G.aload_n C 0 dX5_meeting_0 rfl rfl ?_
  refine G.iload_n C 1 dX5_meeting_1 rfl rfl ?_
  obtain ⟨r1, hr1, hf⟩ := bind_some hf
  cases r1 with
  | error E4 =>
    try dsimp only at hf
    cases hf
    exact G.callXe C TT tab (st := []) (cx_X5_requireHue hr1) rfl rfl ⟨rfl, rfl⟩ (ko_X5_requireHue hr1) rfl m9_195 m9_196 m9_197 m9_2 m9_198 kd_X5_requireHue ⟨Nat.le_of_ble_eq_true rfl, Nat.le_of_ble_eq_true rfl⟩ (Nat.le_of_ble_eq_true rfl) rfl dX5_meeting_2
  | ok v2 =>
    try dsimp only at hf
    refine G.callXo C TT (st := []) (st2 := []) (cx_X5_requireHue hr1) rfl (ko_X5_requireHue hr1) rfl m9_195 m9_196 m9_197 m9_2 m9_198 kd_X5_requireHue ⟨Nat.le_of_ble_eq_true rfl, Nat.le_of_ble_eq_true rfl⟩ (Nat.le_of_ble_eq_true rfl) rfl rfl dX5_meeting_2 ?_
    refine G.aload_n C 0 dX5_meeting_5 rfl rfl ?_
    refine G.iload_n C 3 dX5_meeting_6 rfl rfl ?_
    obtain ⟨r5, hr5, hf⟩ := bind_some hf
    cases r5 with
    | error E8 =>
      try dsimp only at hf
      cases hf
      exact G.callXe C TT tab (st := []) (cx_X5_requireHue hr5) rfl rfl ⟨rfl, rfl⟩ (ko_X5_requireHue hr5) rfl m9_195 m9_196 m9_197 m9_2 m9_198 kd_X5_requireHue ⟨Nat.le_of_ble_eq_true rfl, Nat.le_of_ble_eq_true rfl⟩ (Nat.le_of_ble_eq_true rfl) rfl dX5_meeting_7
    | ok v6 =>
      try dsimp only at hf
      refine G.callXo C TT (st := []) (st2 := []) (cx_X5_requireHue hr5) rfl (ko_X5_requireHue hr5) rfl m9_195 m9_196 m9_197 m9_2 m9_198 kd_X5_requireHue ⟨Nat.le_of_ble_eq_true rfl, Nat.le_of_ble_eq_true rfl⟩ (Nat.le_of_ble_eq_true rfl) rfl rfl dX5_meeting_7 ?_
      refine G.aload_n C 0 dX5_meeting_10 rfl rfl ?_
      refine G.iload_n C 1 dX5_meeting_11 rfl rfl ?_
      refine G.iload_n C 2 dX5_meeting_12 rfl rfl ?_
      obtain ⟨r9, hr9, hf⟩ := bind_some hf
      cases r9 with
      | error E12 =>
        try dsimp only at hf
        cases hf
        exact G.callXe C TT tab (st := []) (cx_X5_requirePhase hr9) rfl rfl ⟨rfl, rfl⟩ (ko_X5_requirePhase hr9) rfl m9_254 m9_255 m9_256 m9_2 m9_257 kd_X5_requirePhase ⟨Nat.le_of_ble_eq_true rfl, Nat.le_of_ble_eq_true rfl⟩ (Nat.le_of_ble_eq_true rfl) rfl dX5_meeting_13
      | ok v10 =>
        try dsimp only at hf
        refine G.callXo C TT (st := []) (st2 := []) (cx_X5_requirePhase hr9) rfl (ko_X5_requirePhase hr9) rfl m9_254 m9_255 m9_256 m9_2 m9_257 kd_X5_requirePhase ⟨Nat.le_of_ble_eq_true rfl, Nat.le_of_ble_eq_true rfl⟩ (Nat.le_of_ble_eq_true rfl) rfl rfl dX5_meeting_13 ?_
        refine G.aload_n C 0 dX5_meeting_16 rfl rfl ?_
        refine G.iload_n C 3 dX5_meeting_17 rfl rfl ?_
        refine G.iload C 4 dX5_meeting_18 rfl ?_
        obtain ⟨r13, hr13, hf⟩ := bind_some hf
        cases r13 with
        | error E16 =>
          try dsimp only at hf
          cases hf
          exact G.callXe C TT tab (st := []) (cx_X5_requirePhase hr13) rfl rfl ⟨rfl, rfl⟩ (ko_X5_requirePhase hr13) rfl m9_254 m9_255 m9_256 m9_2 m9_257 kd_X5_requirePhase ⟨Nat.le_of_ble_eq_true rfl, Nat.le_of_ble_eq_true rfl⟩ (Nat.le_of_ble_eq_true rfl) rfl dX5_meeting_20
        | ok v14 =>
          try dsimp only at hf
          refine G.callXo C TT (st := []) (st2 := []) (cx_X5_requirePhase hr13) rfl (ko_X5_requirePhase hr13) rfl m9_254 m9_255 m9_256 m9_2 m9_257 kd_X5_requirePhase ⟨Nat.le_of_ble_eq_true rfl, Nat.le_of_ble_eq_true rfl⟩ (Nat.le_of_ble_eq_true rfl) rfl rfl dX5_meeting_20 ?_
          refine G.aload_n C 0 dX5_meeting_23 rfl rfl ?_
          refine G.getR (ci := 4) (k := 0) C rfl inlX5 (by decide) m9_12 rfl hf dX5_meeting_24 (fun v17 hv17 hf => ?_)
          try dsimp only at hf
          refine G.iload_n C 1 dX5_meeting_27 rfl rfl ?_
          obtain ⟨v18, hv18, hf⟩ := bind_some hf
          try dsimp only at hf
          refine G.callV C (st := []) (st2 := [.int (v18)]) (ct_X3_gapAt hv18) (ko_X3_gapAt hv18) rfl m9_180 m9_181 m9_182 m9_11 m9_183 kd_X3_gapAt ⟨Nat.le_of_ble_eq_true rfl, Nat.le_of_ble_eq_true rfl⟩ ⟨Nat.zero_le _, Nat.zero_le _⟩ (Nat.le_of_ble_eq_true rfl) rfl rfl dX5_meeting_28 ?_
          refine G.iload_n C 2 dX5_meeting_31 rfl rfl ?_
          refine G.aload_n C 0 dX5_meeting_32 rfl rfl ?_
          refine G.getR (ci := 4) (k := 0) C rfl inlX5 (by decide) m9_12 rfl hf dX5_meeting_33 (fun v19 hv19 hf => ?_)
          try dsimp only at hf
          refine G.iload_n C 3 dX5_meeting_36 rfl rfl ?_
          obtain ⟨v20, hv20, hf⟩ := bind_some hf
          try dsimp only at hf
          refine G.callV C (st := [.int (a2), .int (v18)]) (st2 := [.int (v20), .int (a2), .int (v18)]) (ct_X3_gapAt hv20) (ko_X3_gapAt hv20) rfl m9_180 m9_181 m9_182 m9_11 m9_183 kd_X3_gapAt ⟨Nat.le_of_ble_eq_true rfl, Nat.le_of_ble_eq_true rfl⟩ ⟨Nat.zero_le _, Nat.zero_le _⟩ (Nat.le_of_ble_eq_true rfl) rfl rfl dX5_meeting_37 ?_
          refine G.iload C 4 dX5_meeting_40 rfl ?_
          obtain ⟨v21, hv21, hf⟩ := bind_some hf
          try dsimp only at hf
          refine G.callS C (st := []) (st2 := [.int (v21)]) (ct_X1_meetByRemainders hv21) m9_469 m9_470 m9_186 m9_471 kd_X1_meetByRemainders ⟨Nat.le_of_ble_eq_true rfl, Nat.le_of_ble_eq_true rfl⟩ ⟨Nat.zero_le _, Nat.zero_le _⟩ (Nat.le_of_ble_eq_true rfl) rfl rfl dX5_meeting_42 ?_
          cases hf
          refine G.retX rfl ?_
          exact G.iret C rfl dX5_meeting_45
theorem ko_X5_walked {h : PH} {a0 : Nat} {a1 : Int32} {a2 : Int32} {a3 : Int32} {a4 : Int32} {r : (Except String Int32)} (hf : f_X5_walked h a0 a1 a2 a3 a4 = some r) : kO h a0 4 := by
  unfold f_X5_walked at hf
  exact okO_k (gd_ok hf).1
theorem kd_X5_walked : yX5_walked.cls = RX5 ∧ yX5_walked.cls ≠ "java/lang/invoke/MethodHandle" ∧ yX5_walked.cls ≠ "java/lang/invoke/VarHandle" ∧ (parseMethodDescriptor yX5_walked.desc).map (fun d => d.parameters.length) = some 4 := by decide +kernel
set_option maxRecDepth 20000 in
set_option maxHeartbeats 4000000 in
theorem cx_X5_walked {l : Launch} {h : PH} {a0 : Nat} {a1 : Int32} {a2 : Int32} {a3 : Int32} {a4 : Int32} {r : (Except String Int32)} (hf : f_X5_walked h a0 a1 a2 a3 a4 = some r) : CX l yX5_walked cX5_walked 5 (some .int) 7 112 [.ref (a0), .int (a1), .int (a2), .int (a3), .int (a4)] h (xI h r) := by
  refine CX.of (own := RX5) rfl (by decide) (Nat.le_of_ble_eq_true rfl) ?_
  intro p e R s m args below meth c g X hR C TT tab
  subst hR
  unfold f_X5_walked at hf
  obtain ⟨hok, hf⟩ := gd_ok hf
  refine G.sub C [0, 1, 2, 3, 4] (lv' := [(0, .ref (a0)), (1, .int (a1)), (2, .int (a2)), (3, .int (a3)), (4, .int (a4))]) rfl ?_
  refine G.aload_n C 0 dX5_walked_0 rfl rfl ?_
  refine G.iload_n C 1 dX5_walked_1 rfl rfl ?_
  obtain ⟨r1, hr1, hf⟩ := bind_some hf
  cases r1 with
  | error E4 =>
    try dsimp only at hf
    cases hf
    exact G.callXe C TT tab (st := []) (cx_X5_requireHue hr1) rfl rfl ⟨rfl, rfl⟩ (ko_X5_requireHue hr1) rfl m9_195 m9_196 m9_197 m9_2 m9_198 kd_X5_requireHue ⟨Nat.le_of_ble_eq_true rfl, Nat.le_of_ble_eq_true rfl⟩ (Nat.le_of_ble_eq_true rfl) rfl dX5_walked_2
  | ok v2 =>
    try dsimp only at hf
    refine G.callXo C TT (st := []) (st2 := []) (cx_X5_requireHue hr1) rfl (ko_X5_requireHue hr1) rfl m9_195 m9_196 m9_197 m9_2 m9_198 kd_X5_requireHue ⟨Nat.le_of_ble_eq_true rfl, Nat.le_of_ble_eq_true rfl⟩ (Nat.le_of_ble_eq_true rfl) rfl rfl dX5_walked_2 ?_
    refine G.aload_n C 0 dX5_walked_5 rfl rfl ?_
    refine G.iload_n C 3 dX5_walked_6 rfl rfl ?_
    obtain ⟨r5, hr5, hf⟩ := bind_some hf
    cases r5 with
    | error E8 =>
      try dsimp only at hf
      cases hf
      exact G.callXe C TT tab (st := []) (cx_X5_requireHue hr5) rfl rfl ⟨rfl, rfl⟩ (ko_X5_requireHue hr5) rfl m9_195 m9_196 m9_197 m9_2 m9_198 kd_X5_requireHue ⟨Nat.le_of_ble_eq_true rfl, Nat.le_of_ble_eq_true rfl⟩ (Nat.le_of_ble_eq_true rfl) rfl dX5_walked_7
    | ok v6 =>
      try dsimp only at hf
      refine G.callXo C TT (st := []) (st2 := []) (cx_X5_requireHue hr5) rfl (ko_X5_requireHue hr5) rfl m9_195 m9_196 m9_197 m9_2 m9_198 kd_X5_requireHue ⟨Nat.le_of_ble_eq_true rfl, Nat.le_of_ble_eq_true rfl⟩ (Nat.le_of_ble_eq_true rfl) rfl rfl dX5_walked_7 ?_
      refine G.aload_n C 0 dX5_walked_10 rfl rfl ?_
      refine G.iload_n C 1 dX5_walked_11 rfl rfl ?_
      refine G.iload_n C 2 dX5_walked_12 rfl rfl ?_
      obtain ⟨r9, hr9, hf⟩ := bind_some hf
      cases r9 with
      | error E12 =>
        try dsimp only at hf
        cases hf
        exact G.callXe C TT tab (st := []) (cx_X5_requirePhase hr9) rfl rfl ⟨rfl, rfl⟩ (ko_X5_requirePhase hr9) rfl m9_254 m9_255 m9_256 m9_2 m9_257 kd_X5_requirePhase ⟨Nat.le_of_ble_eq_true rfl, Nat.le_of_ble_eq_true rfl⟩ (Nat.le_of_ble_eq_true rfl) rfl dX5_walked_13
      | ok v10 =>
        try dsimp only at hf
        refine G.callXo C TT (st := []) (st2 := []) (cx_X5_requirePhase hr9) rfl (ko_X5_requirePhase hr9) rfl m9_254 m9_255 m9_256 m9_2 m9_257 kd_X5_requirePhase ⟨Nat.le_of_ble_eq_true rfl, Nat.le_of_ble_eq_true rfl⟩ (Nat.le_of_ble_eq_true rfl) rfl rfl dX5_walked_13 ?_
        refine G.aload_n C 0 dX5_walked_16 rfl rfl ?_
        refine G.iload_n C 3 dX5_walked_17 rfl rfl ?_
        refine G.iload C 4 dX5_walked_18 rfl ?_
        obtain ⟨r13, hr13, hf⟩ := bind_some hf
        cases r13 with
        | error E16 =>
          try dsimp only at hf
          cases hf
          exact G.callXe C TT tab (st := []) (cx_X5_requirePhase hr13) rfl rfl ⟨rfl, rfl⟩ (ko_X5_requirePhase hr13) rfl m9_254 m9_255 m9_256 m9_2 m9_257 kd_X5_requirePhase ⟨Nat.le_of_ble_eq_true rfl, Nat.le_of_ble_eq_true rfl⟩ (Nat.le_of_ble_eq_true rfl) rfl dX5_walked_20
        | ok v14 =>
          try dsimp only at hf
          refine G.callXo C TT (st := []) (st2 := []) (cx_X5_requirePhase hr13) rfl (ko_X5_requirePhase hr13) rfl m9_254 m9_255 m9_256 m9_2 m9_257 kd_X5_requirePhase ⟨Nat.le_of_ble_eq_true rfl, Nat.le_of_ble_eq_true rfl⟩ (Nat.le_of_ble_eq_true rfl) rfl rfl dX5_walked_20 ?_
          refine G.aload_n C 0 dX5_walked_23 rfl rfl ?_
          refine G.getR (ci := 4) (k := 0) C rfl inlX5 (by decide) m9_12 rfl hf dX5_walked_24 (fun v17 hv17 hf => ?_)
          try dsimp only at hf
          refine G.iload_n C 1 dX5_walked_27 rfl rfl ?_
          obtain ⟨v18, hv18, hf⟩ := bind_some hf
          try dsimp only at hf
          refine G.callV C (st := []) (st2 := [.int (v18)]) (ct_X3_gapAt hv18) (ko_X3_gapAt hv18) rfl m9_180 m9_181 m9_182 m9_11 m9_183 kd_X3_gapAt ⟨Nat.le_of_ble_eq_true rfl, Nat.le_of_ble_eq_true rfl⟩ ⟨Nat.zero_le _, Nat.zero_le _⟩ (Nat.le_of_ble_eq_true rfl) rfl rfl dX5_walked_28 ?_
          refine G.iload_n C 2 dX5_walked_31 rfl rfl ?_
          refine G.aload_n C 0 dX5_walked_32 rfl rfl ?_
          refine G.getR (ci := 4) (k := 0) C rfl inlX5 (by decide) m9_12 rfl hf dX5_walked_33 (fun v19 hv19 hf => ?_)
          try dsimp only at hf
          refine G.iload_n C 3 dX5_walked_36 rfl rfl ?_
          obtain ⟨v20, hv20, hf⟩ := bind_some hf
          try dsimp only at hf
          refine G.callV C (st := [.int (a2), .int (v18)]) (st2 := [.int (v20), .int (a2), .int (v18)]) (ct_X3_gapAt hv20) (ko_X3_gapAt hv20) rfl m9_180 m9_181 m9_182 m9_11 m9_183 kd_X3_gapAt ⟨Nat.le_of_ble_eq_true rfl, Nat.le_of_ble_eq_true rfl⟩ ⟨Nat.zero_le _, Nat.zero_le _⟩ (Nat.le_of_ble_eq_true rfl) rfl rfl dX5_walked_37 ?_
          refine G.iload C 4 dX5_walked_40 rfl ?_
          obtain ⟨v21, hv21, hf⟩ := bind_some hf
          try dsimp only at hf
          refine G.callS C (st := []) (st2 := [.int (v21)]) (ct_X1_meetByWalking hv21) m9_477 m9_478 m9_186 m9_479 kd_X1_meetByWalking ⟨Nat.le_of_ble_eq_true rfl, Nat.le_of_ble_eq_true rfl⟩ ⟨Nat.zero_le _, Nat.zero_le _⟩ (Nat.le_of_ble_eq_true rfl) rfl rfl dX5_walked_42 ?_
          cases hf
          refine G.retX rfl ?_
          exact G.iret C rfl dX5_walked_45
theorem ko_X5_phases {h : PH} {a0 : Nat} {a1 : Int32} {a2 : Int32} {a3 : Int32} {r : (Except String Int32)} (hf : f_X5_phases h a0 a1 a2 a3 = some r) : kO h a0 4 := by
  unfold f_X5_phases at hf
  exact okO_k (gd_ok hf).1
theorem kd_X5_phases : yX5_phases.cls = RX5 ∧ yX5_phases.cls ≠ "java/lang/invoke/MethodHandle" ∧ yX5_phases.cls ≠ "java/lang/invoke/VarHandle" ∧ (parseMethodDescriptor yX5_phases.desc).map (fun d => d.parameters.length) = some 3 := by decide +kernel
set_option maxRecDepth 20000 in
set_option maxHeartbeats 4000000 in
theorem cx_X5_phases {l : Launch} {h : PH} {a0 : Nat} {a1 : Int32} {a2 : Int32} {a3 : Int32} {r : (Except String Int32)} (hf : f_X5_phases h a0 a1 a2 a3 = some r) : CX l yX5_phases cX5_phases 5 (some .int) 7 112 [.ref (a0), .int (a1), .int (a2), .int (a3)] h (xI h r) := by
  refine CX.of (own := RX5) rfl (by decide) (Nat.le_of_ble_eq_true rfl) ?_
  intro p e R s m args below meth c g X hR C TT tab
  subst hR
  unfold f_X5_phases at hf
  obtain ⟨hok, hf⟩ := gd_ok hf
  refine G.sub C [0, 1, 2, 3] (lv' := [(0, .ref (a0)), (1, .int (a1)), (2, .int (a2)), (3, .int (a3))]) rfl ?_
  refine G.aload_n C 0 dX5_phases_0 rfl rfl ?_
  refine G.iload_n C 1 dX5_phases_1 rfl rfl ?_
  obtain ⟨r1, hr1, hf⟩ := bind_some hf
  cases r1 with
  | error E4 =>
    try dsimp only at hf
    cases hf
    exact G.callXe C TT tab (st := []) (cx_X5_existing hr1) rfl rfl ⟨rfl, rfl⟩ (ko_X5_existing hr1) rfl m9_143 m9_144 m9_145 m9_2 m9_146 kd_X5_existing ⟨Nat.le_of_ble_eq_true rfl, Nat.le_of_ble_eq_true rfl⟩ (Nat.le_of_ble_eq_true rfl) rfl dX5_phases_2
  | ok v2 =>
    try dsimp only at hf
    refine G.callXo C TT (st := []) (st2 := [.ref (v2)]) (cx_X5_existing hr1) rfl (ko_X5_existing hr1) rfl m9_143 m9_144 m9_145 m9_2 m9_146 kd_X5_existing ⟨Nat.le_of_ble_eq_true rfl, Nat.le_of_ble_eq_true rfl⟩ (Nat.le_of_ble_eq_true rfl) rfl rfl dX5_phases_2 ?_
    refine G.astore (lv' := [(4, .ref (v2)), (0, .ref (a0)), (1, .int (a1)), (2, .int (a2)), (3, .int (a3))]) C dX5_phases_5 (by decide) rfl ?_
    refine G.aload_n C 1 dX5_phases_7 rfl rfl ?_
    refine G.iload_n C 3 dX5_phases_8 rfl rfl ?_
    obtain ⟨r5, hr5, hf⟩ := bind_some hf
    cases r5 with
    | error E8 =>
      try dsimp only at hf
      cases hf
      exact G.callXe C TT tab (st := []) (cx_X5_requireHue hr5) rfl rfl ⟨rfl, rfl⟩ (ko_X5_requireHue hr5) rfl m9_195 m9_196 m9_197 m9_2 m9_198 kd_X5_requireHue ⟨Nat.le_of_ble_eq_true rfl, Nat.le_of_ble_eq_true rfl⟩ (Nat.le_of_ble_eq_true rfl) rfl dX5_phases_9
    | ok v6 =>
      try dsimp only at hf
      refine G.callXo C TT (st := []) (st2 := []) (cx_X5_requireHue hr5) rfl (ko_X5_requireHue hr5) rfl m9_195 m9_196 m9_197 m9_2 m9_198 kd_X5_requireHue ⟨Nat.le_of_ble_eq_true rfl, Nat.le_of_ble_eq_true rfl⟩ (Nat.le_of_ble_eq_true rfl) rfl rfl dX5_phases_9 ?_
      refine G.aload_n C 1 dX5_phases_12 rfl rfl ?_
      refine G.iload_n C 4 dX5_phases_13 rfl rfl ?_
      refine G.iconst (v := 3) C dX5_phases_14 (by decide) ?_
      obtain ⟨r9, hr9, hf⟩ := bind_some hf
      cases r9 with
      | error E12 =>
        try dsimp only at hf
        cases hf
        exact G.callXe C TT tab (st := []) (cx_X5_requireWhat hr9) rfl rfl ⟨rfl, rfl⟩ (ko_X5_requireWhat hr9) rfl m9_70 m9_71 m9_72 m9_2 m9_73 kd_X5_requireWhat ⟨Nat.le_of_ble_eq_true rfl, Nat.le_of_ble_eq_true rfl⟩ (Nat.le_of_ble_eq_true rfl) rfl dX5_phases_15
      | ok v10 =>
        try dsimp only at hf
        refine G.callXo C TT (st := []) (st2 := []) (cx_X5_requireWhat hr9) rfl (ko_X5_requireWhat hr9) rfl m9_70 m9_71 m9_72 m9_2 m9_73 kd_X5_requireWhat ⟨Nat.le_of_ble_eq_true rfl, Nat.le_of_ble_eq_true rfl⟩ (Nat.le_of_ble_eq_true rfl) rfl rfl dX5_phases_15 ?_
        refine G.aload C 0 dX5_phases_18 rfl ?_
        refine G.iload_n C 3 dX5_phases_20 rfl rfl ?_
        refine G.aload_n C 1 dX5_phases_21 rfl rfl ?_
        refine G.getR (ci := 4) (k := 0) C rfl inlX5 (by decide) m9_12 rfl hf dX5_phases_22 (fun v13 hv13 hf => ?_)
        try dsimp only at hf
        refine G.iload_n C 3 dX5_phases_25 rfl rfl ?_
        obtain ⟨v14, hv14, hf⟩ := bind_some hf
        try dsimp only at hf
        refine G.callV C (st := [.int (a2), .ref (v2)]) (st2 := [.int (v14), .int (a2), .ref (v2)]) (ct_X3_gapAt hv14) (ko_X3_gapAt hv14) rfl m9_180 m9_181 m9_182 m9_11 m9_183 kd_X3_gapAt ⟨Nat.le_of_ble_eq_true rfl, Nat.le_of_ble_eq_true rfl⟩ ⟨Nat.zero_le _, Nat.zero_le _⟩ (Nat.le_of_ble_eq_true rfl) rfl rfl dX5_phases_26 ?_
        refine G.iload_n C 4 dX5_phases_29 rfl rfl ?_
        obtain ⟨v15, hv15, hf⟩ := bind_some hf
        try dsimp only at hf
        refine G.callV C (st := []) (st2 := [.int (v15)]) (ct_X2_phaseNumber hv15) (ko_X2_phaseNumber hv15) rfl m9_223 m9_224 m9_225 m9_24 m9_226 kd_X2_phaseNumber ⟨Nat.le_of_ble_eq_true rfl, Nat.le_of_ble_eq_true rfl⟩ ⟨Nat.zero_le _, Nat.zero_le _⟩ (Nat.le_of_ble_eq_true rfl) rfl rfl dX5_phases_30 ?_
        cases hf
        refine G.retX rfl ?_
        exact G.iret C rfl dX5_phases_33
theorem ko_X5_joining {h : PH} {a0 : Nat} {a1 : Int32} {a2 : Int32} {r : (Except (String × PH) (Int32 × PH))} (hf : f_X5_joining h a0 a1 a2 = some r) : kO h a0 4 := by
  unfold f_X5_joining at hf
  exact okO_k (gd_ok hf).1
theorem kd_X5_joining : yX5_joining.cls = RX5 ∧ yX5_joining.cls ≠ "java/lang/invoke/MethodHandle" ∧ yX5_joining.cls ≠ "java/lang/invoke/VarHandle" ∧ (parseMethodDescriptor yX5_joining.desc).map (fun d => d.parameters.length) = some 2 := by decide +kernel
set_option maxRecDepth 20000 in
set_option maxHeartbeats 4000000 in
theorem cx_X5_joining {l : Launch} {h : PH} {a0 : Nat} {a1 : Int32} {a2 : Int32} {r : (Except (String × PH) (Int32 × PH))} (hf : f_X5_joining h a0 a1 a2 = some r) : CX l yX5_joining cX5_joining 5 (some .int) 7 122 [.ref (a0), .int (a1), .int (a2)] h (xIW r) := by
  refine CX.of (own := RX5) rfl (by decide) (Nat.le_of_ble_eq_true rfl) ?_
  intro p e R s m args below meth c g X hR C TT tab
  subst hR
  unfold f_X5_joining at hf
  obtain ⟨hok, hf⟩ := gd_ok hf
  have hj29 : ∀ (hh : PH) (k0 : Int32), f_X5_joining_J29 hh k0 = some r → G p l e ({ frames := 7, cells := cN (xIW r), slots := cS (xIW r), locals := 122 } : Room) s m args below meth c 5 g X h 0 0 (vx_MQ below (QX g X h s.heap.size (xIW r)) (XX g X h s.heap.size (xIW r)) args s (cN (xIW r)) (cS (xIW r)) (AF X h s.heap.size)) 29 [] [.int (k0)] hh := by
    intro hh k0 hf
    unfold f_X5_joining_J29 at hf
    cases hf
    refine G.retX rfl ?_
    exact G.iret C rfl dX5_joining_29
  refine G.sub C [0, 1, 2] (lv' := [(0, .ref (a0)), (1, .int (a1)), (2, .int (a2))]) rfl ?_
  refine G.aload_n C 0 dX5_joining_0 rfl rfl ?_
  refine G.iload_n C 1 dX5_joining_1 rfl rfl ?_
  obtain ⟨r1, hr1, hf⟩ := bind_some hf
  cases r1 with
  | error E4 =>
    try dsimp only at hf
    cases hf
    exact G.callXe C TT tab (st := []) (cx_X5_existing hr1) rfl rfl ⟨rfl, rfl⟩ (ko_X5_existing hr1) rfl m9_143 m9_144 m9_145 m9_2 m9_146 kd_X5_existing ⟨Nat.le_of_ble_eq_true rfl, Nat.le_of_ble_eq_true rfl⟩ (Nat.le_of_ble_eq_true rfl) rfl dX5_joining_2
  | ok v2 =>
    try dsimp only at hf
    refine G.callXo C TT (st := []) (st2 := [.ref (v2)]) (cx_X5_existing hr1) rfl (ko_X5_existing hr1) rfl m9_143 m9_144 m9_145 m9_2 m9_146 kd_X5_existing ⟨Nat.le_of_ble_eq_true rfl, Nat.le_of_ble_eq_true rfl⟩ (Nat.le_of_ble_eq_true rfl) rfl rfl dX5_joining_2 ?_
    refine G.astore_n (lv' := [(3, .ref (v2)), (0, .ref (a0)), (1, .int (a1)), (2, .int (a2))]) C dX5_joining_5 rfl (by decide) rfl ?_
    refine G.aload_n C 1 dX5_joining_6 rfl rfl ?_
    refine G.iload_n C 3 dX5_joining_7 rfl rfl ?_
    obtain ⟨r5, hr5, hf⟩ := bind_some hf
    cases r5 with
    | error E8 =>
      try dsimp only at hf
      cases hf
      exact G.callXe C TT tab (st := []) (cx_X5_existing hr5) rfl rfl ⟨rfl, rfl⟩ (ko_X5_existing hr5) rfl m9_143 m9_144 m9_145 m9_2 m9_146 kd_X5_existing ⟨Nat.le_of_ble_eq_true rfl, Nat.le_of_ble_eq_true rfl⟩ (Nat.le_of_ble_eq_true rfl) rfl dX5_joining_8
    | ok v6 =>
      try dsimp only at hf
      refine G.callXo C TT (st := []) (st2 := [.ref (v6)]) (cx_X5_existing hr5) rfl (ko_X5_existing hr5) rfl m9_143 m9_144 m9_145 m9_2 m9_146 kd_X5_existing ⟨Nat.le_of_ble_eq_true rfl, Nat.le_of_ble_eq_true rfl⟩ (Nat.le_of_ble_eq_true rfl) rfl rfl dX5_joining_8 ?_
      refine G.astore (lv' := [(4, .ref (v6)), (3, .ref (v2)), (0, .ref (a0)), (1, .int (a1)), (2, .int (a2))]) C dX5_joining_11 (by decide) rfl ?_
      refine G.iload_n C 3 dX5_joining_13 rfl rfl ?_
      refine G.iload_n C 4 dX5_joining_14 rfl rfl ?_
      refine G.icmp_ne (tgt := 22) C dX5_joining_15 (by decide) hf (fun c12 hf => ?_) (fun c12 hf => ?_)
      · refine G.aload_n C 2 dX5_joining_22 rfl rfl ?_
        refine G.aload_n C 1 dX5_joining_23 rfl rfl ?_
        refine G.aload C 0 dX5_joining_24 rfl ?_
        obtain ⟨⟨v9, h10⟩, hv9, hf⟩ := bind_some hf
        try dsimp only at hf
        refine G.callV C (st := []) (st2 := [.int (v9)]) (ct_X5_reasonAgainstJoining hv9) (ko_X5_reasonAgainstJoining hv9) rfl m9_278 m9_279 m9_280 m9_2 m9_281 kd_X5_reasonAgainstJoining ⟨Nat.le_of_ble_eq_true rfl, Nat.le_of_ble_eq_true rfl⟩ ⟨Nat.zero_le _, Nat.zero_le _⟩ (Nat.le_of_ble_eq_true rfl) rfl rfl dX5_joining_26 ?_
        refine G.sub C [] (lv' := []) rfl ?_
        exact hj29 _ _ hf
      · refine G.iconst (v := 1) C dX5_joining_18 (by decide) ?_
        refine G.goto (tgt := 29) C dX5_joining_19 (by decide) ?_
        refine G.sub C [] (lv' := []) rfl ?_
        exact hj29 _ _ hf
theorem ko_X5_greatest {h : PH} {a0 : Nat} {a1 : Int32} {r : (Except String Int32)} (hf : f_X5_greatest h a0 a1 = some r) : kO h a0 4 := by
  unfold f_X5_greatest at hf
  exact okO_k (gd_ok hf).1
theorem kd_X5_greatest : yX5_greatest.cls = RX5 ∧ yX5_greatest.cls ≠ "java/lang/invoke/MethodHandle" ∧ yX5_greatest.cls ≠ "java/lang/invoke/VarHandle" ∧ (parseMethodDescriptor yX5_greatest.desc).map (fun d => d.parameters.length) = some 1 := by decide +kernel
set_option maxRecDepth 20000 in
set_option maxHeartbeats 4000000 in
theorem cx_X5_greatest {l : Launch} {h : PH} {a0 : Nat} {a1 : Int32} {r : (Except String Int32)} (hf : f_X5_greatest h a0 a1 = some r) : CX l yX5_greatest cX5_greatest 2 (some .int) 7 112 [.ref (a0), .int (a1)] h (xI h r) := by
  refine CX.of (own := RX5) rfl (by decide) (Nat.le_of_ble_eq_true rfl) ?_
  intro p e R s m args below meth c g X hR C TT tab
  subst hR
  unfold f_X5_greatest at hf
  obtain ⟨hok, hf⟩ := gd_ok hf
  refine G.sub C [0, 1] (lv' := [(0, .ref (a0)), (1, .int (a1))]) rfl ?_
  refine G.aload_n C 0 dX5_greatest_0 rfl rfl ?_
  refine G.aload_n C 0 dX5_greatest_1 rfl rfl ?_
  refine G.iload_n C 1 dX5_greatest_2 rfl rfl ?_
  obtain ⟨r1, hr1, hf⟩ := bind_some hf
  cases r1 with
  | error E4 =>
    try dsimp only at hf
    cases hf
    exact G.callXe C TT tab (st := [.ref (a0)]) (cx_X5_existing hr1) rfl rfl ⟨rfl, rfl⟩ (ko_X5_existing hr1) rfl m9_143 m9_144 m9_145 m9_2 m9_146 kd_X5_existing ⟨Nat.le_of_ble_eq_true rfl, Nat.le_of_ble_eq_true rfl⟩ (Nat.le_of_ble_eq_true rfl) rfl dX5_greatest_3
  | ok v2 =>
    try dsimp only at hf
    refine G.callXo C TT (st := [.ref (a0)]) (st2 := [.ref (v2), .ref (a0)]) (cx_X5_existing hr1) rfl (ko_X5_existing hr1) rfl m9_143 m9_144 m9_145 m9_2 m9_146 kd_X5_existing ⟨Nat.le_of_ble_eq_true rfl, Nat.le_of_ble_eq_true rfl⟩ (Nat.le_of_ble_eq_true rfl) rfl rfl dX5_greatest_3 ?_
    obtain ⟨v5, hv5, hf⟩ := bind_some hf
    try dsimp only at hf
    refine G.callV C (st := []) (st2 := [.int (v5)]) (ct_X5_greatestLength hv5) (ko_X5_greatestLength hv5) rfl m9_263 m9_264 m9_265 m9_2 m9_266 kd_X5_greatestLength ⟨Nat.le_of_ble_eq_true rfl, Nat.le_of_ble_eq_true rfl⟩ ⟨Nat.zero_le _, Nat.zero_le _⟩ (Nat.le_of_ble_eq_true rfl) rfl rfl dX5_greatest_6 ?_
    cases hf
    refine G.retX rfl ?_
    exact G.iret C rfl dX5_greatest_9
theorem ko_X5_fullness {h : PH} {a0 : Nat} {r : UInt64} (hf : f_X5_fullness h a0 = some r) : kO h a0 4 := by
  unfold f_X5_fullness at hf
  exact okO_k (gd_ok hf).1
theorem kd_X5_fullness : yX5_fullness.cls = RX5 ∧ yX5_fullness.cls ≠ "java/lang/invoke/MethodHandle" ∧ yX5_fullness.cls ≠ "java/lang/invoke/VarHandle" ∧ (parseMethodDescriptor yX5_fullness.desc).map (fun d => d.parameters.length) = some 0 := by decide +kernel
set_option maxRecDepth 20000 in
set_option maxHeartbeats 4000000 in
theorem ct_X5_fullness {l : Launch} {h : PH} {a0 : Nat} {r : UInt64} (hf : f_X5_fullness h a0 = some r) : CT l yX5_fullness cX5_fullness 3 (some .double) 3 67 [.ref (a0)] h (some (.double r)) h := by
  refine CT.of (own := RX5) rfl (by decide) (Nat.le_of_ble_eq_true rfl) ?_
  intro p e R s m args below meth c g X hR C
  subst hR
  unfold f_X5_fullness at hf
  obtain ⟨hok, hf⟩ := gd_ok hf
  have hj31 : ∀ (k0 : UInt64), f_X5_fullness_J31 h k0 = some r → G p l e ({ frames := 3, cells := 0, slots := 0, locals := 67 } : Room) s m args below meth c 3 g X h 0 0 (MQ below (QW g X h s.heap.size (some (.double r)) h) args s 0 0 (AF X h s.heap.size)) 31 [] [.double (k0)] h := by
    intro k0 hf
    unfold f_X5_fullness_J31 at hf
    cases hf
    exact G.dret C rfl dX5_fullness_31
  refine G.sub C [0] (lv' := [(0, .ref (a0))]) rfl ?_
  refine G.aload_n C 0 dX5_fullness_0 rfl rfl ?_
  refine G.getR (ci := 4) (k := 0) C rfl inlX5 (by decide) m9_12 rfl hf dX5_fullness_1 (fun v1 hv1 hf => ?_)
  try dsimp only at hf
  obtain ⟨v2, hv2, hf⟩ := bind_some hf
  try dsimp only at hf
  refine G.callV C (st := []) (st2 := [.int (v2)]) (ct_X3_places hv2) (ko_X3_places hv2) rfl m9_84 m9_85 m9_86 m9_11 m9_87 kd_X3_places ⟨Nat.le_of_ble_eq_true rfl, Nat.le_of_ble_eq_true rfl⟩ ⟨Nat.zero_le _, Nat.zero_le _⟩ (Nat.le_of_ble_eq_true rfl) rfl rfl dX5_fullness_4 ?_
  refine G.istore_n (lv' := [(1, .int (v2)), (0, .ref (a0))]) C dX5_fullness_7 rfl (by decide) rfl ?_
  refine G.iload_n C 0 dX5_fullness_8 rfl rfl ?_
  refine G.aload_n C 1 dX5_fullness_9 rfl rfl ?_
  refine G.getR (ci := 4) (k := 0) C rfl inlX5 (by decide) m9_12 rfl hf dX5_fullness_10 (fun v3 hv3 hf => ?_)
  try dsimp only at hf
  obtain ⟨v4, hv4, hf⟩ := bind_some hf
  try dsimp only at hf
  refine G.callV C (st := [.int (v2)]) (st2 := [.int (v4), .int (v2)]) (ct_X3_holes hv4) (ko_X3_holes hv4) rfl m9_96 m9_97 m9_98 m9_11 m9_99 kd_X3_holes ⟨Nat.le_of_ble_eq_true rfl, Nat.le_of_ble_eq_true rfl⟩ ⟨Nat.zero_le _, Nat.zero_le _⟩ (Nat.le_of_ble_eq_true rfl) rfl rfl dX5_fullness_13 ?_
  refine G.isub C dX5_fullness_16 ?_
  refine G.istore_n (lv' := [(2, .int ((v2 - v4))), (1, .int (v2)), (0, .ref (a0))]) C dX5_fullness_17 rfl (by decide) rfl ?_
  refine G.iload_n C 1 dX5_fullness_18 rfl rfl ?_
  refine G.if_le (tgt := 30) C dX5_fullness_19 (by decide) hf (fun c6 hf => ?_) (fun c6 hf => ?_)
  · refine G.dconst1 C dX5_fullness_30 ?_
    refine G.sub C [] (lv' := []) rfl ?_
    exact hj31 _ hf
  · refine G.iload_n C 0 dX5_fullness_22 rfl rfl ?_
    refine G.i2d C dX5_fullness_23 ?_
    refine G.iload_n C 1 dX5_fullness_24 rfl rfl ?_
    refine G.i2d C dX5_fullness_25 ?_
    obtain ⟨c5, hf⟩ := gd_ok hf
    refine G.ddiv C dX5_fullness_26 (nn64_ok c5) ?_
    refine G.goto (tgt := 31) C dX5_fullness_27 (by decide) ?_
    refine G.sub C [] (lv' := []) rfl ?_
    exact hj31 _ hf
