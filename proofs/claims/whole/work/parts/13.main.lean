theorem ko_X5_requireHue {h : PH} {a0 : Nat} {a1 : Int32} {r : (Except String Unit)} (hf : f_X5_requireHue h a0 a1 = some r) : kO h a0 4 := by
  unfold f_X5_requireHue at hf
  exact okO_k (gd_ok hf).1
theorem kd_X5_requireHue : yX5_requireHue.cls = RX5 ∧ yX5_requireHue.cls ≠ "java/lang/invoke/MethodHandle" ∧ yX5_requireHue.cls ≠ "java/lang/invoke/VarHandle" ∧ (parseMethodDescriptor yX5_requireHue.desc).map (fun d => d.parameters.length) = some 1 := by decide +kernel
set_option maxRecDepth 20000 in
set_option maxHeartbeats 4000000 in
theorem cx_X5_requireHue {l : Launch} {h : PH} {a0 : Nat} {a1 : Int32} {r : (Except String Unit)} (hf : f_X5_requireHue h a0 a1 = some r) : CX l yX5_requireHue cX5_requireHue 2 none 6 90 [.ref (a0), .int (a1)] h (xV h r) := by
  refine CX.of (own := RX5) rfl (by decide) (Nat.le_of_ble_eq_true rfl) ?_
  intro p e R s m args below meth c g X hR C TT tab
  subst hR
  unfold f_X5_requireHue at hf
  obtain ⟨hok, hf⟩ := gd_ok hf
  have hj10 : f_X5_requireHue_J10 h = some r → G p l e ({ frames := 6, cells := cN (xV h r), slots := cS (xV h r), locals := 90 } : Room) s m args below meth c 2 g X h 0 0 (vx_MQ below (QX g X h s.heap.size (xV h r)) (XX g X h s.heap.size (xV h r)) args s (cN (xV h r)) (cS (xV h r)) (AF X h s.heap.size)) 10 [] [] h := by
    intro hf
    unfold f_X5_requireHue_J10 at hf
    cases hf
    exact G.throwIOw (is := 273) (text := "there is no such hue") C TT tab rfl m9_95 m9_96 (by decide +kernel) dX5_requireHue_10 dX5_requireHue_13 dX5_requireHue_14 dX5_requireHue_17 dX5_requireHue_20 (Nat.le_of_ble_eq_true rfl) (Nat.le_of_ble_eq_true rfl) ⟨rfl, rfl⟩
  refine G.sub C [0, 1] (lv' := [(0, .ref (a0)), (1, .int (a1))]) rfl ?_
  refine G.iload_n C 1 dX5_requireHue_0 rfl rfl ?_
  refine G.if_lt (tgt := 10) C dX5_requireHue_1 (by decide) hf (fun c2 hf => ?_) (fun c2 hf => ?_)
  · refine G.sub C [] (lv' := []) rfl ?_
    exact hj10  hf
  · refine G.iload_n C 1 dX5_requireHue_4 rfl rfl ?_
    refine G.bipush (v := 8) C dX5_requireHue_5 (by decide) ?_
    refine G.icmp_lt (tgt := 21) C dX5_requireHue_7 (by decide) hf (fun c1 hf => ?_) (fun c1 hf => ?_)
    · cases hf
      refine G.retX rfl ?_
      exact G.vret C rfl dX5_requireHue_21
    · refine G.sub C [] (lv' := []) rfl ?_
      exact hj10  hf
theorem ko_X5_gap {h : PH} {a0 : Nat} {a1 : Int32} {a2 : Int32} {r : (Except (String × PH) (Int32 × PH))} (hf : f_X5_gap h a0 a1 a2 = some r) : kO h a0 4 := by
  unfold f_X5_gap at hf
  exact okO_k (gd_ok hf).1
theorem kd_X5_gap : yX5_gap.cls = RX5 ∧ yX5_gap.cls ≠ "java/lang/invoke/MethodHandle" ∧ yX5_gap.cls ≠ "java/lang/invoke/VarHandle" ∧ (parseMethodDescriptor yX5_gap.desc).map (fun d => d.parameters.length) = some 2 := by decide +kernel
set_option maxRecDepth 20000 in
set_option maxHeartbeats 4000000 in
theorem cx_X5_gap {l : Launch} {h : PH} {a0 : Nat} {a1 : Int32} {a2 : Int32} {r : (Except (String × PH) (Int32 × PH))} (hf : f_X5_gap h a0 a1 a2 = some r) : CX l yX5_gap cX5_gap 4 (some .int) 7 111 [.ref (a0), .int (a1), .int (a2)] h (xIW r) := by
  refine CX.of (own := RX5) rfl (by decide) (Nat.le_of_ble_eq_true rfl) ?_
  intro p e R s m args below meth c g X hR C TT tab
  subst hR
  unfold f_X5_gap at hf
  obtain ⟨hok, hf⟩ := gd_ok hf
  have hj16 : f_X5_gap_J16 h = some r → G p l e ({ frames := 7, cells := cN (xIW r), slots := cS (xIW r), locals := 111 } : Room) s m args below meth c 4 g X h 0 0 (vx_MQ below (QX g X h s.heap.size (xIW r)) (XX g X h s.heap.size (xIW r)) args s (cN (xIW r)) (cS (xIW r)) (AF X h s.heap.size)) 16 [] [] h := by
    intro hf
    unfold f_X5_gap_J16 at hf
    cases hf
    exact G.throwIA (is := 50) (text := "the gap is out of range") C TT tab rfl m9_87 m9_88 (by decide +kernel) dX5_gap_16 dX5_gap_19 dX5_gap_20 dX5_gap_22 dX5_gap_25 (Nat.le_of_ble_eq_true rfl) (Nat.le_of_ble_eq_true rfl) ⟨rfl, rfl⟩
  refine G.sub C [0, 1, 2] (lv' := [(0, .ref (a0)), (1, .int (a1)), (2, .int (a2))]) rfl ?_
  refine G.aload_n C 0 dX5_gap_0 rfl rfl ?_
  refine G.iload_n C 1 dX5_gap_1 rfl rfl ?_
  obtain ⟨r1, hr1, hf⟩ := bind_some hf
  cases r1 with
  | error E4 =>
    try dsimp only at hf
    cases hf
    exact G.callXe C TT tab (st := []) (cx_X5_requireHue hr1) rfl rfl ⟨rfl, rfl⟩ (ko_X5_requireHue hr1) rfl m9_91 m9_92 m9_93 m9_2 m9_94 kd_X5_requireHue ⟨Nat.le_of_ble_eq_true rfl, Nat.le_of_ble_eq_true rfl⟩ (Nat.le_of_ble_eq_true rfl) rfl dX5_gap_2
  | ok v2 =>
    try dsimp only at hf
    refine G.callXo C TT (st := []) (st2 := []) (cx_X5_requireHue hr1) rfl (ko_X5_requireHue hr1) rfl m9_91 m9_92 m9_93 m9_2 m9_94 kd_X5_requireHue ⟨Nat.le_of_ble_eq_true rfl, Nat.le_of_ble_eq_true rfl⟩ (Nat.le_of_ble_eq_true rfl) rfl rfl dX5_gap_2 ?_
    refine G.iload_n C 2 dX5_gap_5 rfl rfl ?_
    refine G.iconst (v := 2) C dX5_gap_6 (by decide) ?_
    refine G.icmp_lt (tgt := 16) C dX5_gap_7 (by decide) hf (fun c16 hf => ?_) (fun c16 hf => ?_)
    · refine G.sub C [] (lv' := []) rfl ?_
      exact hj16  hf
    · refine G.iload_n C 2 dX5_gap_10 rfl rfl ?_
      refine G.bipush (v := 20) C dX5_gap_11 (by decide) ?_
      refine G.icmp_le (tgt := 26) C dX5_gap_13 (by decide) hf (fun c15 hf => ?_) (fun c15 hf => ?_)
      · refine G.aload_n C 0 dX5_gap_26 rfl rfl ?_
        refine G.getR (ci := 4) (k := 0) C rfl inlX5 (by decide) m9_16 rfl hf dX5_gap_27 (fun v5 hv5 hf => ?_)
        try dsimp only at hf
        refine G.iload_n C 1 dX5_gap_30 rfl rfl ?_
        obtain ⟨v6, hv6, hf⟩ := bind_some hf
        try dsimp only at hf
        refine G.callV C (st := []) (st2 := [.int (v6)]) (ct_X3_isLaidOnSome hv6) (ko_X3_isLaidOnSome hv6) rfl m9_97 m9_98 m9_99 m9_15 m9_100 kd_X3_isLaidOnSome ⟨Nat.le_of_ble_eq_true rfl, Nat.le_of_ble_eq_true rfl⟩ ⟨Nat.zero_le _, Nat.zero_le _⟩ (Nat.le_of_ble_eq_true rfl) rfl rfl dX5_gap_31 ?_
        refine G.if_eq (tgt := 47) C dX5_gap_34 (by decide) hf (fun c14 hf => ?_) (fun c14 hf => ?_)
        · refine G.aload_n C 0 dX5_gap_47 rfl rfl ?_
          refine G.getR (ci := 4) (k := 2) C rfl inlX5 (by decide) m9_21 rfl hf dX5_gap_48 (fun v7 hv7 hf => ?_)
          try dsimp only at hf
          refine G.aload_n C 0 dX5_gap_51 rfl rfl ?_
          refine G.getR (ci := 4) (k := 0) C rfl inlX5 (by decide) m9_16 rfl hf dX5_gap_52 (fun v8 hv8 hf => ?_)
          try dsimp only at hf
          obtain ⟨h9, hh9, hf⟩ := bind_some hf
          try dsimp only at hf
          refine G.callV C (st := []) (st2 := []) (ct_X0_save hh9) (ko_X0_save hh9) rfl m9_109 m9_110 m9_111 m9_20 m9_112 kd_X0_save ⟨Nat.le_of_ble_eq_true rfl, Nat.le_of_ble_eq_true rfl⟩ ⟨Nat.zero_le _, Nat.zero_le _⟩ (Nat.le_of_ble_eq_true rfl) rfl rfl dX5_gap_55 ?_
          refine G.aload_n C 0 dX5_gap_58 rfl rfl ?_
          refine G.getR (ci := 4) (k := 0) C rfl inlX5 (by decide) m9_16 rfl hf dX5_gap_59 (fun v10 hv10 hf => ?_)
          try dsimp only at hf
          refine G.iload_n C 1 dX5_gap_62 rfl rfl ?_
          obtain ⟨v11, hv11, hf⟩ := bind_some hf
          try dsimp only at hf
          refine G.callV C (st := []) (st2 := [.int (v11)]) (ct_X3_gapAt hv11) (ko_X3_gapAt hv11) rfl m9_129 m9_130 m9_131 m9_15 m9_132 kd_X3_gapAt ⟨Nat.le_of_ble_eq_true rfl, Nat.le_of_ble_eq_true rfl⟩ ⟨Nat.zero_le _, Nat.zero_le _⟩ (Nat.le_of_ble_eq_true rfl) rfl rfl dX5_gap_63 ?_
          refine G.istore_n (lv' := [(3, .int (v11)), (0, .ref (a0)), (1, .int (a1)), (2, .int (a2))]) C dX5_gap_66 rfl (by decide) rfl ?_
          refine G.aload_n C 1 dX5_gap_67 rfl rfl ?_
          refine G.getR (ci := 4) (k := 0) C rfl inlX5 (by decide) m9_16 rfl hf dX5_gap_68 (fun v12 hv12 hf => ?_)
          try dsimp only at hf
          refine G.iload_n C 2 dX5_gap_71 rfl rfl ?_
          refine G.iload_n C 3 dX5_gap_72 rfl rfl ?_
          obtain ⟨h13, hh13, hf⟩ := bind_some hf
          try dsimp only at hf
          refine G.callV C (st := []) (st2 := []) (ct_X3_setGap hh13) (ko_X3_setGap hh13) rfl m9_133 m9_134 m9_135 m9_15 m9_136 kd_X3_setGap ⟨Nat.le_of_ble_eq_true rfl, Nat.le_of_ble_eq_true rfl⟩ ⟨Nat.zero_le _, Nat.zero_le _⟩ (Nat.le_of_ble_eq_true rfl) rfl rfl dX5_gap_73 ?_
          refine G.iload_n C 0 dX5_gap_76 rfl rfl ?_
          cases hf
          refine G.retX rfl ?_
          exact G.iret C rfl dX5_gap_77
        · cases hf
          exact G.throwIS (is := 61) (text := "the hue is laid on some rope") C TT tab rfl m9_89 m9_90 (by decide +kernel) dX5_gap_37 dX5_gap_40 dX5_gap_41 dX5_gap_43 dX5_gap_46 (Nat.le_of_ble_eq_true rfl) (Nat.le_of_ble_eq_true rfl) ⟨rfl, rfl⟩
      · refine G.sub C [] (lv' := []) rfl ?_
        exact hj16  hf
theorem ko_X5_requireLength {h : PH} {a0 : Nat} {a1 : Int32} {r : (Except String Unit)} (hf : f_X5_requireLength h a0 a1 = some r) : kO h a0 4 := by
  unfold f_X5_requireLength at hf
  exact okO_k (gd_ok hf).1
theorem kd_X5_requireLength : yX5_requireLength.cls = RX5 ∧ yX5_requireLength.cls ≠ "java/lang/invoke/MethodHandle" ∧ yX5_requireLength.cls ≠ "java/lang/invoke/VarHandle" ∧ (parseMethodDescriptor yX5_requireLength.desc).map (fun d => d.parameters.length) = some 1 := by decide +kernel
set_option maxRecDepth 20000 in
set_option maxHeartbeats 4000000 in
theorem cx_X5_requireLength {l : Launch} {h : PH} {a0 : Nat} {a1 : Int32} {r : (Except String Unit)} (hf : f_X5_requireLength h a0 a1 = some r) : CX l yX5_requireLength cX5_requireLength 2 none 6 90 [.ref (a0), .int (a1)] h (xV h r) := by
  refine CX.of (own := RX5) rfl (by decide) (Nat.le_of_ble_eq_true rfl) ?_
  intro p e R s m args below meth c g X hR C TT tab
  subst hR
  unfold f_X5_requireLength at hf
  obtain ⟨hok, hf⟩ := gd_ok hf
  have hj11 : f_X5_requireLength_J11 h = some r → G p l e ({ frames := 6, cells := cN (xV h r), slots := cS (xV h r), locals := 90 } : Room) s m args below meth c 2 g X h 0 0 (vx_MQ below (QX g X h s.heap.size (xV h r)) (XX g X h s.heap.size (xV h r)) args s (cN (xV h r)) (cS (xV h r)) (AF X h s.heap.size)) 11 [] [] h := by
    intro hf
    unfold f_X5_requireLength_J11 at hf
    cases hf
    exact G.throwIAw (is := 277) (text := "the length is out of range") C TT tab rfl m9_87 m9_88 (by decide +kernel) dX5_requireLength_11 dX5_requireLength_14 dX5_requireLength_15 dX5_requireLength_18 dX5_requireLength_21 (Nat.le_of_ble_eq_true rfl) (Nat.le_of_ble_eq_true rfl) ⟨rfl, rfl⟩
  refine G.sub C [0, 1] (lv' := [(0, .ref (a0)), (1, .int (a1))]) rfl ?_
  refine G.iload_n C 1 dX5_requireLength_0 rfl rfl ?_
  refine G.iconst (v := 1) C dX5_requireLength_1 (by decide) ?_
  refine G.icmp_lt (tgt := 11) C dX5_requireLength_2 (by decide) hf (fun c2 hf => ?_) (fun c2 hf => ?_)
  · refine G.sub C [] (lv' := []) rfl ?_
    exact hj11  hf
  · refine G.iload_n C 1 dX5_requireLength_5 rfl rfl ?_
    refine G.bipush (v := 60) C dX5_requireLength_6 (by decide) ?_
    refine G.icmp_le (tgt := 22) C dX5_requireLength_8 (by decide) hf (fun c1 hf => ?_) (fun c1 hf => ?_)
    · cases hf
      refine G.retX rfl ?_
      exact G.vret C rfl dX5_requireLength_22
    · refine G.sub C [] (lv' := []) rfl ?_
      exact hj11  hf
theorem ko_X5_requireRoomForRope {h : PH} {a0 : Nat} {r : (Except String Unit)} (hf : f_X5_requireRoomForRope h a0 = some r) : kO h a0 4 := by
  unfold f_X5_requireRoomForRope at hf
  exact okO_k (gd_ok hf).1
theorem kd_X5_requireRoomForRope : yX5_requireRoomForRope.cls = RX5 ∧ yX5_requireRoomForRope.cls ≠ "java/lang/invoke/MethodHandle" ∧ yX5_requireRoomForRope.cls ≠ "java/lang/invoke/VarHandle" ∧ (parseMethodDescriptor yX5_requireRoomForRope.desc).map (fun d => d.parameters.length) = some 0 := by decide +kernel
set_option maxRecDepth 20000 in
set_option maxHeartbeats 4000000 in
theorem cx_X5_requireRoomForRope {l : Launch} {h : PH} {a0 : Nat} {r : (Except String Unit)} (hf : f_X5_requireRoomForRope h a0 = some r) : CX l yX5_requireRoomForRope cX5_requireRoomForRope 1 none 6 90 [.ref (a0)] h (xV h r) := by
  refine CX.of (own := RX5) rfl (by decide) (Nat.le_of_ble_eq_true rfl) ?_
  intro p e R s m args below meth c g X hR C TT tab
  subst hR
  unfold f_X5_requireRoomForRope at hf
  obtain ⟨hok, hf⟩ := gd_ok hf
  refine G.sub C [0] (lv' := [(0, .ref (a0))]) rfl ?_
  refine G.aload_n C 0 dX5_requireRoomForRope_0 rfl rfl ?_
  refine G.getR (ci := 4) (k := 0) C rfl inlX5 (by decide) m9_16 rfl hf dX5_requireRoomForRope_1 (fun v1 hv1 hf => ?_)
  try dsimp only at hf
  obtain ⟨v2, hv2, hf⟩ := bind_some hf
  try dsimp only at hf
  refine G.callV C (st := []) (st2 := [.int (v2)]) (ct_X3_ropeCount hv2) (ko_X3_ropeCount hv2) rfl m9_191 m9_192 m9_193 m9_15 m9_194 kd_X3_ropeCount ⟨Nat.le_of_ble_eq_true rfl, Nat.le_of_ble_eq_true rfl⟩ ⟨Nat.zero_le _, Nat.zero_le _⟩ (Nat.le_of_ble_eq_true rfl) rfl rfl dX5_requireRoomForRope_4 ?_
  refine G.iconst (v := 4) C dX5_requireRoomForRope_7 (by decide) ?_
  refine G.icmp_lt (tgt := 22) C dX5_requireRoomForRope_8 (by decide) hf (fun c3 hf => ?_) (fun c3 hf => ?_)
  · cases hf
    refine G.retX rfl ?_
    exact G.vret C rfl dX5_requireRoomForRope_22
  · cases hf
    exact G.throwISw (is := 281) (text := "there are 4 ropes") C TT tab rfl m9_89 m9_90 (by decide +kernel) dX5_requireRoomForRope_11 dX5_requireRoomForRope_14 dX5_requireRoomForRope_15 dX5_requireRoomForRope_18 dX5_requireRoomForRope_21 (Nat.le_of_ble_eq_true rfl) (Nat.le_of_ble_eq_true rfl) ⟨rfl, rfl⟩
theorem ko_X5_rope {h : PH} {a0 : Nat} {a1 : Int32} {r : (Except (String × PH) (Int32 × PH))} (hf : f_X5_rope h a0 a1 = some r) : kO h a0 4 := by
  unfold f_X5_rope at hf
  exact okO_k (gd_ok hf).1
theorem kd_X5_rope : yX5_rope.cls = RX5 ∧ yX5_rope.cls ≠ "java/lang/invoke/MethodHandle" ∧ yX5_rope.cls ≠ "java/lang/invoke/VarHandle" ∧ (parseMethodDescriptor yX5_rope.desc).map (fun d => d.parameters.length) = some 1 := by decide +kernel
set_option maxRecDepth 20000 in
set_option maxHeartbeats 4000000 in
theorem cx_X5_rope {l : Launch} {h : PH} {a0 : Nat} {a1 : Int32} {r : (Except (String × PH) (Int32 × PH))} (hf : f_X5_rope h a0 a1 = some r) : CX l yX5_rope cX5_rope 2 (some .int) 7 111 [.ref (a0), .int (a1)] h (xIW r) := by
  refine CX.of (own := RX5) rfl (by decide) (Nat.le_of_ble_eq_true rfl) ?_
  intro p e R s m args below meth c g X hR C TT tab
  subst hR
  unfold f_X5_rope at hf
  obtain ⟨hok, hf⟩ := gd_ok hf
  refine G.sub C [0, 1] (lv' := [(0, .ref (a0)), (1, .int (a1))]) rfl ?_
  refine G.aload_n C 0 dX5_rope_0 rfl rfl ?_
  refine G.iload_n C 1 dX5_rope_1 rfl rfl ?_
  obtain ⟨r1, hr1, hf⟩ := bind_some hf
  cases r1 with
  | error E4 =>
    try dsimp only at hf
    cases hf
    exact G.callXe C TT tab (st := []) (cx_X5_requireLength hr1) rfl rfl ⟨rfl, rfl⟩ (ko_X5_requireLength hr1) rfl m9_183 m9_184 m9_185 m9_2 m9_186 kd_X5_requireLength ⟨Nat.le_of_ble_eq_true rfl, Nat.le_of_ble_eq_true rfl⟩ (Nat.le_of_ble_eq_true rfl) rfl dX5_rope_2
  | ok v2 =>
    try dsimp only at hf
    refine G.callXo C TT (st := []) (st2 := []) (cx_X5_requireLength hr1) rfl (ko_X5_requireLength hr1) rfl m9_183 m9_184 m9_185 m9_2 m9_186 kd_X5_requireLength ⟨Nat.le_of_ble_eq_true rfl, Nat.le_of_ble_eq_true rfl⟩ (Nat.le_of_ble_eq_true rfl) rfl rfl dX5_rope_2 ?_
    refine G.aload_n C 0 dX5_rope_5 rfl rfl ?_
    obtain ⟨r5, hr5, hf⟩ := bind_some hf
    cases r5 with
    | error E8 =>
      try dsimp only at hf
      cases hf
      exact G.callXe C TT tab (st := []) (cx_X5_requireRoomForRope hr5) rfl rfl ⟨rfl, rfl⟩ (ko_X5_requireRoomForRope hr5) rfl m9_187 m9_188 m9_189 m9_2 m9_190 kd_X5_requireRoomForRope ⟨Nat.le_of_ble_eq_true rfl, Nat.le_of_ble_eq_true rfl⟩ (Nat.le_of_ble_eq_true rfl) rfl dX5_rope_6
    | ok v6 =>
      try dsimp only at hf
      refine G.callXo C TT (st := []) (st2 := []) (cx_X5_requireRoomForRope hr5) rfl (ko_X5_requireRoomForRope hr5) rfl m9_187 m9_188 m9_189 m9_2 m9_190 kd_X5_requireRoomForRope ⟨Nat.le_of_ble_eq_true rfl, Nat.le_of_ble_eq_true rfl⟩ (Nat.le_of_ble_eq_true rfl) rfl rfl dX5_rope_6 ?_
      refine G.aload_n C 0 dX5_rope_9 rfl rfl ?_
      refine G.getR (ci := 4) (k := 2) C rfl inlX5 (by decide) m9_21 rfl hf dX5_rope_10 (fun v9 hv9 hf => ?_)
      try dsimp only at hf
      refine G.aload_n C 0 dX5_rope_13 rfl rfl ?_
      refine G.getR (ci := 4) (k := 0) C rfl inlX5 (by decide) m9_16 rfl hf dX5_rope_14 (fun v10 hv10 hf => ?_)
      try dsimp only at hf
      obtain ⟨h11, hh11, hf⟩ := bind_some hf
      try dsimp only at hf
      refine G.callV C (st := []) (st2 := []) (ct_X0_save hh11) (ko_X0_save hh11) rfl m9_109 m9_110 m9_111 m9_20 m9_112 kd_X0_save ⟨Nat.le_of_ble_eq_true rfl, Nat.le_of_ble_eq_true rfl⟩ ⟨Nat.zero_le _, Nat.zero_le _⟩ (Nat.le_of_ble_eq_true rfl) rfl rfl dX5_rope_17 ?_
      refine G.aload_n C 0 dX5_rope_20 rfl rfl ?_
      refine G.getR (ci := 4) (k := 0) C rfl inlX5 (by decide) m9_16 rfl hf dX5_rope_21 (fun v12 hv12 hf => ?_)
      try dsimp only at hf
      refine G.iload_n C 1 dX5_rope_24 rfl rfl ?_
      obtain ⟨⟨v13, h14⟩, hv13, hf⟩ := bind_some hf
      try dsimp only at hf
      refine G.callV C (st := []) (st2 := [va_rf (v13)]) (ct_X3_addRope hv13) (ko_X3_addRope hv13) rfl m9_195 m9_196 m9_197 m9_15 m9_198 kd_X3_addRope ⟨Nat.le_of_ble_eq_true rfl, Nat.le_of_ble_eq_true rfl⟩ ⟨Nat.zero_le _, Nat.zero_le _⟩ (Nat.le_of_ble_eq_true rfl) rfl rfl dX5_rope_25 ?_
      refine G.pop C dX5_rope_28 (by cases v13 <;> rfl) ?_
      refine G.aload_n C 0 dX5_rope_29 rfl rfl ?_
      refine G.getR (ci := 4) (k := 0) C rfl inlX5 (by decide) m9_16 rfl hf dX5_rope_30 (fun v16 hv16 hf => ?_)
      try dsimp only at hf
      obtain ⟨v17, hv17, hf⟩ := bind_some hf
      try dsimp only at hf
      refine G.callV C (st := []) (st2 := [.int (v17)]) (ct_X3_ropeCount hv17) (ko_X3_ropeCount hv17) rfl m9_191 m9_192 m9_193 m9_15 m9_194 kd_X3_ropeCount ⟨Nat.le_of_ble_eq_true rfl, Nat.le_of_ble_eq_true rfl⟩ ⟨Nat.zero_le _, Nat.zero_le _⟩ (Nat.le_of_ble_eq_true rfl) rfl rfl dX5_rope_33 ?_
      refine G.iconst (v := 1) C dX5_rope_36 (by decide) ?_
      refine G.isub C dX5_rope_37 ?_
      cases hf
      refine G.retX rfl ?_
      exact G.iret C rfl dX5_rope_38
theorem ko_X5_existing {h : PH} {a0 : Nat} {a1 : Int32} {r : (Except String Nat)} (hf : f_X5_existing h a0 a1 = some r) : kO h a0 4 := by
  unfold f_X5_existing at hf
  exact okO_k (gd_ok hf).1
theorem kd_X5_existing : yX5_existing.cls = RX5 ∧ yX5_existing.cls ≠ "java/lang/invoke/MethodHandle" ∧ yX5_existing.cls ≠ "java/lang/invoke/VarHandle" ∧ (parseMethodDescriptor yX5_existing.desc).map (fun d => d.parameters.length) = some 1 := by decide +kernel
set_option maxRecDepth 20000 in
set_option maxHeartbeats 4000000 in
theorem cx_X5_existing {l : Launch} {h : PH} {a0 : Nat} {a1 : Int32} {r : (Except String Nat)} (hf : f_X5_existing h a0 a1 = some r) : CX l yX5_existing cX5_existing 3 (some (.object "PennantRopes$Rope")) 6 90 [.ref (a0), .int (a1)] h (xA h r) := by
  refine CX.of (own := RX5) rfl (by decide) (Nat.le_of_ble_eq_true rfl) ?_
  intro p e R s m args below meth c g X hR C TT tab
  subst hR
  unfold f_X5_existing at hf
  obtain ⟨hok, hf⟩ := gd_ok hf
  refine G.sub C [0, 1] (lv' := [(0, .ref (a0)), (1, .int (a1))]) rfl ?_
  refine G.aload_n C 0 dX5_existing_0 rfl rfl ?_
  refine G.getR (ci := 4) (k := 0) C rfl inlX5 (by decide) m9_16 rfl hf dX5_existing_1 (fun v1 hv1 hf => ?_)
  try dsimp only at hf
  refine G.iload_n C 1 dX5_existing_4 rfl rfl ?_
  obtain ⟨v2, hv2, hf⟩ := bind_some hf
  try dsimp only at hf
  refine G.callV C (st := []) (st2 := [va_rf (v2)]) (ct_X3_ropeAt hv2) (ko_X3_ropeAt hv2) rfl m9_233 m9_102 m9_103 m9_15 m9_104 kd_X3_ropeAt ⟨Nat.le_of_ble_eq_true rfl, Nat.le_of_ble_eq_true rfl⟩ ⟨Nat.zero_le _, Nat.zero_le _⟩ (Nat.le_of_ble_eq_true rfl) rfl rfl dX5_existing_5 ?_
  refine G.qstore_n (lv' := [(2, va_rf (v2)), (0, .ref (a0)), (1, .int (a1))]) C dX5_existing_8 rfl (by decide) rfl ?_
  refine G.qload_n C 0 dX5_existing_9 rfl rfl ?_
  refine G.ifnonnull (tgt := 24) C dX5_existing_10 (by decide) (fun a3 e4 => ?_) (fun e4 => ?_)
  · subst e4
    try dsimp only at hf
    refine G.aload_n C 0 dX5_existing_24 rfl rfl ?_
    cases hf
    refine G.retX rfl ?_
    exact G.aret (v := some (a3)) C rfl (Or.inl ⟨_, rfl⟩) dX5_existing_25
  · subst e4
    try dsimp only at hf
    cases hf
    exact G.throwIOw (is := 271) (text := "there is no such rope") C TT tab rfl m9_95 m9_96 (by decide +kernel) dX5_existing_13 dX5_existing_16 dX5_existing_17 dX5_existing_20 dX5_existing_23 (Nat.le_of_ble_eq_true rfl) (Nat.le_of_ble_eq_true rfl) ⟨rfl, rfl⟩
theorem ko_X5_drop {h : PH} {a0 : Nat} {a1 : Int32} {r : (Except (String × PH) (Int32 × PH))} (hf : f_X5_drop h a0 a1 = some r) : kO h a0 4 := by
  unfold f_X5_drop at hf
  exact okO_k (gd_ok hf).1
theorem kd_X5_drop : yX5_drop.cls = RX5 ∧ yX5_drop.cls ≠ "java/lang/invoke/MethodHandle" ∧ yX5_drop.cls ≠ "java/lang/invoke/VarHandle" ∧ (parseMethodDescriptor yX5_drop.desc).map (fun d => d.parameters.length) = some 1 := by decide +kernel
set_option maxRecDepth 20000 in
set_option maxHeartbeats 4000000 in
theorem cx_X5_drop {l : Launch} {h : PH} {a0 : Nat} {a1 : Int32} {r : (Except (String × PH) (Int32 × PH))} (hf : f_X5_drop h a0 a1 = some r) : CX l yX5_drop cX5_drop 2 (some .int) 7 112 [.ref (a0), .int (a1)] h (xIW r) := by
  refine CX.of (own := RX5) rfl (by decide) (Nat.le_of_ble_eq_true rfl) ?_
  intro p e R s m args below meth c g X hR C TT tab
  subst hR
  unfold f_X5_drop at hf
  obtain ⟨hok, hf⟩ := gd_ok hf
  refine G.sub C [0, 1] (lv' := [(0, .ref (a0)), (1, .int (a1))]) rfl ?_
  refine G.aload_n C 0 dX5_drop_0 rfl rfl ?_
  refine G.iload_n C 1 dX5_drop_1 rfl rfl ?_
  obtain ⟨r1, hr1, hf⟩ := bind_some hf
  cases r1 with
  | error E4 =>
    try dsimp only at hf
    cases hf
    exact G.callXe C TT tab (st := []) (cx_X5_existing hr1) rfl rfl ⟨rfl, rfl⟩ (ko_X5_existing hr1) rfl m9_229 m9_230 m9_231 m9_2 m9_232 kd_X5_existing ⟨Nat.le_of_ble_eq_true rfl, Nat.le_of_ble_eq_true rfl⟩ (Nat.le_of_ble_eq_true rfl) rfl dX5_drop_2
  | ok v2 =>
    try dsimp only at hf
    refine G.callXo C TT (st := []) (st2 := [.ref (v2)]) (cx_X5_existing hr1) rfl (ko_X5_existing hr1) rfl m9_229 m9_230 m9_231 m9_2 m9_232 kd_X5_existing ⟨Nat.le_of_ble_eq_true rfl, Nat.le_of_ble_eq_true rfl⟩ (Nat.le_of_ble_eq_true rfl) rfl rfl dX5_drop_2 ?_
    refine G.pop C dX5_drop_5 rfl ?_
    refine G.aload_n C 0 dX5_drop_6 rfl rfl ?_
    refine G.getR (ci := 4) (k := 2) C rfl inlX5 (by decide) m9_21 rfl hf dX5_drop_7 (fun v5 hv5 hf => ?_)
    try dsimp only at hf
    refine G.aload_n C 0 dX5_drop_10 rfl rfl ?_
    refine G.getR (ci := 4) (k := 0) C rfl inlX5 (by decide) m9_16 rfl hf dX5_drop_11 (fun v6 hv6 hf => ?_)
    try dsimp only at hf
    obtain ⟨h7, hh7, hf⟩ := bind_some hf
    try dsimp only at hf
    refine G.callV C (st := []) (st2 := []) (ct_X0_save hh7) (ko_X0_save hh7) rfl m9_109 m9_110 m9_111 m9_20 m9_112 kd_X0_save ⟨Nat.le_of_ble_eq_true rfl, Nat.le_of_ble_eq_true rfl⟩ ⟨Nat.zero_le _, Nat.zero_le _⟩ (Nat.le_of_ble_eq_true rfl) rfl rfl dX5_drop_14 ?_
    refine G.aload_n C 0 dX5_drop_17 rfl rfl ?_
    refine G.getR (ci := 4) (k := 0) C rfl inlX5 (by decide) m9_16 rfl hf dX5_drop_18 (fun v8 hv8 hf => ?_)
    try dsimp only at hf
    refine G.iload_n C 1 dX5_drop_21 rfl rfl ?_
    obtain ⟨h9, hh9, hf⟩ := bind_some hf
    try dsimp only at hf
    refine G.callV C (st := []) (st2 := []) (ct_X3_removeRope hh9) (ko_X3_removeRope hh9) rfl m9_234 m9_235 m9_236 m9_15 m9_237 kd_X3_removeRope ⟨Nat.le_of_ble_eq_true rfl, Nat.le_of_ble_eq_true rfl⟩ ⟨Nat.zero_le _, Nat.zero_le _⟩ (Nat.le_of_ble_eq_true rfl) rfl rfl dX5_drop_22 ?_
    refine G.aload_n C 0 dX5_drop_25 rfl rfl ?_
    refine G.getR (ci := 4) (k := 0) C rfl inlX5 (by decide) m9_16 rfl hf dX5_drop_26 (fun v10 hv10 hf => ?_)
    try dsimp only at hf
    obtain ⟨v11, hv11, hf⟩ := bind_some hf
    try dsimp only at hf
    refine G.callV C (st := []) (st2 := [.int (v11)]) (ct_X3_ropeCount hv11) (ko_X3_ropeCount hv11) rfl m9_191 m9_192 m9_193 m9_15 m9_194 kd_X3_ropeCount ⟨Nat.le_of_ble_eq_true rfl, Nat.le_of_ble_eq_true rfl⟩ ⟨Nat.zero_le _, Nat.zero_le _⟩ (Nat.le_of_ble_eq_true rfl) rfl rfl dX5_drop_29 ?_
    cases hf
    refine G.retX rfl ?_
    exact G.iret C rfl dX5_drop_32
theorem ko_X5_requirePhase {h : PH} {a0 : Nat} {a1 : Int32} {a2 : Int32} {r : (Except String Unit)} (hf : f_X5_requirePhase h a0 a1 a2 = some r) : kO h a0 4 := by
  unfold f_X5_requirePhase at hf
  exact okO_k (gd_ok hf).1
theorem kd_X5_requirePhase : yX5_requirePhase.cls = RX5 ∧ yX5_requirePhase.cls ≠ "java/lang/invoke/MethodHandle" ∧ yX5_requirePhase.cls ≠ "java/lang/invoke/VarHandle" ∧ (parseMethodDescriptor yX5_requirePhase.desc).map (fun d => d.parameters.length) = some 2 := by decide +kernel
set_option maxRecDepth 20000 in
set_option maxHeartbeats 4000000 in
theorem cx_X5_requirePhase {l : Launch} {h : PH} {a0 : Nat} {a1 : Int32} {a2 : Int32} {r : (Except String Unit)} (hf : f_X5_requirePhase h a0 a1 a2 = some r) : CX l yX5_requirePhase cX5_requirePhase 3 none 6 90 [.ref (a0), .int (a1), .int (a2)] h (xV h r) := by
  refine CX.of (own := RX5) rfl (by decide) (Nat.le_of_ble_eq_true rfl) ?_
  intro p e R s m args below meth c g X hR C TT tab
  subst hR
  unfold f_X5_requirePhase at hf
  obtain ⟨hok, hf⟩ := gd_ok hf
  have hj16 : f_X5_requirePhase_J16 h = some r → G p l e ({ frames := 6, cells := cN (xV h r), slots := cS (xV h r), locals := 90 } : Room) s m args below meth c 3 g X h 0 0 (vx_MQ below (QX g X h s.heap.size (xV h r)) (XX g X h s.heap.size (xV h r)) args s (cN (xV h r)) (cS (xV h r)) (AF X h s.heap.size)) 16 [] [] h := by
    intro hf
    unfold f_X5_requirePhase_J16 at hf
    cases hf
    exact G.throwIAw (is := 275) (text := "the phase is out of range") C TT tab rfl m9_87 m9_88 (by decide +kernel) dX5_requirePhase_16 dX5_requirePhase_19 dX5_requirePhase_20 dX5_requirePhase_23 dX5_requirePhase_26 (Nat.le_of_ble_eq_true rfl) (Nat.le_of_ble_eq_true rfl) ⟨rfl, rfl⟩
  refine G.sub C [0, 1, 2] (lv' := [(0, .ref (a0)), (1, .int (a1)), (2, .int (a2))]) rfl ?_
  refine G.iload_n C 2 dX5_requirePhase_0 rfl rfl ?_
  refine G.if_lt (tgt := 16) C dX5_requirePhase_1 (by decide) hf (fun c4 hf => ?_) (fun c4 hf => ?_)
  · refine G.sub C [] (lv' := []) rfl ?_
    exact hj16  hf
  · refine G.iload_n C 2 dX5_requirePhase_4 rfl rfl ?_
    refine G.aload_n C 0 dX5_requirePhase_5 rfl rfl ?_
    refine G.getR (ci := 4) (k := 0) C rfl inlX5 (by decide) m9_16 rfl hf dX5_requirePhase_6 (fun v1 hv1 hf => ?_)
    try dsimp only at hf
    refine G.iload_n C 1 dX5_requirePhase_9 rfl rfl ?_
    obtain ⟨v2, hv2, hf⟩ := bind_some hf
    try dsimp only at hf
    refine G.callV C (st := [.int (a2)]) (st2 := [.int (v2), .int (a2)]) (ct_X3_gapAt hv2) (ko_X3_gapAt hv2) rfl m9_129 m9_130 m9_131 m9_15 m9_132 kd_X3_gapAt ⟨Nat.le_of_ble_eq_true rfl, Nat.le_of_ble_eq_true rfl⟩ ⟨Nat.zero_le _, Nat.zero_le _⟩ (Nat.le_of_ble_eq_true rfl) rfl rfl dX5_requirePhase_10 ?_
    refine G.icmp_lt (tgt := 27) C dX5_requirePhase_13 (by decide) hf (fun c3 hf => ?_) (fun c3 hf => ?_)
    · cases hf
      refine G.retX rfl ?_
      exact G.vret C rfl dX5_requirePhase_27
    · refine G.sub C [] (lv' := []) rfl ?_
      exact hj16  hf
theorem ko_X5_lay {h : PH} {a0 : Nat} {a1 : Int32} {a2 : Int32} {a3 : Int32} {r : (Except (String × PH) (Int32 × PH))} (hf : f_X5_lay h a0 a1 a2 a3 = some r) : kO h a0 4 := by
  unfold f_X5_lay at hf
  exact okO_k (gd_ok hf).1
theorem kd_X5_lay : yX5_lay.cls = RX5 ∧ yX5_lay.cls ≠ "java/lang/invoke/MethodHandle" ∧ yX5_lay.cls ≠ "java/lang/invoke/VarHandle" ∧ (parseMethodDescriptor yX5_lay.desc).map (fun d => d.parameters.length) = some 3 := by decide +kernel
set_option maxRecDepth 20000 in
set_option maxHeartbeats 4000000 in
theorem cx_X5_lay {l : Launch} {h : PH} {a0 : Nat} {a1 : Int32} {a2 : Int32} {a3 : Int32} {r : (Except (String × PH) (Int32 × PH))} (hf : f_X5_lay h a0 a1 a2 a3 = some r) : CX l yX5_lay cX5_lay 5 (some .int) 7 112 [.ref (a0), .int (a1), .int (a2), .int (a3)] h (xIW r) := by
  refine CX.of (own := RX5) rfl (by decide) (Nat.le_of_ble_eq_true rfl) ?_
  intro p e R s m args below meth c g X hR C TT tab
  subst hR
  unfold f_X5_lay at hf
  obtain ⟨hok, hf⟩ := gd_ok hf
  refine G.sub C [0, 1, 2, 3] (lv' := [(0, .ref (a0)), (1, .int (a1)), (2, .int (a2)), (3, .int (a3))]) rfl ?_
  refine G.aload_n C 0 dX5_lay_0 rfl rfl ?_
  refine G.iload_n C 1 dX5_lay_1 rfl rfl ?_
  obtain ⟨r1, hr1, hf⟩ := bind_some hf
  cases r1 with
  | error E4 =>
    try dsimp only at hf
    cases hf
    exact G.callXe C TT tab (st := []) (cx_X5_existing hr1) rfl rfl ⟨rfl, rfl⟩ (ko_X5_existing hr1) rfl m9_229 m9_230 m9_231 m9_2 m9_232 kd_X5_existing ⟨Nat.le_of_ble_eq_true rfl, Nat.le_of_ble_eq_true rfl⟩ (Nat.le_of_ble_eq_true rfl) rfl dX5_lay_2
  | ok v2 =>
    try dsimp only at hf
    refine G.callXo C TT (st := []) (st2 := [.ref (v2)]) (cx_X5_existing hr1) rfl (ko_X5_existing hr1) rfl m9_229 m9_230 m9_231 m9_2 m9_232 kd_X5_existing ⟨Nat.le_of_ble_eq_true rfl, Nat.le_of_ble_eq_true rfl⟩ (Nat.le_of_ble_eq_true rfl) rfl rfl dX5_lay_2 ?_
    refine G.astore (lv' := [(4, .ref (v2)), (0, .ref (a0)), (1, .int (a1)), (2, .int (a2)), (3, .int (a3))]) C dX5_lay_5 (by decide) rfl ?_
    refine G.aload_n C 1 dX5_lay_7 rfl rfl ?_
    refine G.iload_n C 3 dX5_lay_8 rfl rfl ?_
    obtain ⟨r5, hr5, hf⟩ := bind_some hf
    cases r5 with
    | error E8 =>
      try dsimp only at hf
      cases hf
      exact G.callXe C TT tab (st := []) (cx_X5_requireHue hr5) rfl rfl ⟨rfl, rfl⟩ (ko_X5_requireHue hr5) rfl m9_91 m9_92 m9_93 m9_2 m9_94 kd_X5_requireHue ⟨Nat.le_of_ble_eq_true rfl, Nat.le_of_ble_eq_true rfl⟩ (Nat.le_of_ble_eq_true rfl) rfl dX5_lay_9
    | ok v6 =>
      try dsimp only at hf
      refine G.callXo C TT (st := []) (st2 := []) (cx_X5_requireHue hr5) rfl (ko_X5_requireHue hr5) rfl m9_91 m9_92 m9_93 m9_2 m9_94 kd_X5_requireHue ⟨Nat.le_of_ble_eq_true rfl, Nat.le_of_ble_eq_true rfl⟩ (Nat.le_of_ble_eq_true rfl) rfl rfl dX5_lay_9 ?_
      refine G.aload_n C 1 dX5_lay_12 rfl rfl ?_
      refine G.iload_n C 3 dX5_lay_13 rfl rfl ?_
      refine G.iload_n C 4 dX5_lay_14 rfl rfl ?_
      obtain ⟨r9, hr9, hf⟩ := bind_some hf
      cases r9 with
      | error E12 =>
        try dsimp only at hf
        cases hf
        exact G.callXe C TT tab (st := []) (cx_X5_requirePhase hr9) rfl rfl ⟨rfl, rfl⟩ (ko_X5_requirePhase hr9) rfl m9_257 m9_258 m9_259 m9_2 m9_260 kd_X5_requirePhase ⟨Nat.le_of_ble_eq_true rfl, Nat.le_of_ble_eq_true rfl⟩ (Nat.le_of_ble_eq_true rfl) rfl dX5_lay_15
      | ok v10 =>
        try dsimp only at hf
        refine G.callXo C TT (st := []) (st2 := []) (cx_X5_requirePhase hr9) rfl (ko_X5_requirePhase hr9) rfl m9_257 m9_258 m9_259 m9_2 m9_260 kd_X5_requirePhase ⟨Nat.le_of_ble_eq_true rfl, Nat.le_of_ble_eq_true rfl⟩ (Nat.le_of_ble_eq_true rfl) rfl rfl dX5_lay_15 ?_
        refine G.aload C 0 dX5_lay_18 rfl ?_
        refine G.iload_n C 3 dX5_lay_20 rfl rfl ?_
        refine G.iload_n C 4 dX5_lay_21 rfl rfl ?_
        refine G.aload_n C 1 dX5_lay_22 rfl rfl ?_
        refine G.getR (ci := 4) (k := 0) C rfl inlX5 (by decide) m9_16 rfl hf dX5_lay_23 (fun v13 hv13 hf => ?_)
        try dsimp only at hf
        refine G.iload_n C 3 dX5_lay_26 rfl rfl ?_
        obtain ⟨v14, hv14, hf⟩ := bind_some hf
        try dsimp only at hf
        refine G.callV C (st := [.int (a3), .int (a2), .ref (v2)]) (st2 := [.int (v14), .int (a3), .int (a2), .ref (v2)]) (ct_X3_gapAt hv14) (ko_X3_gapAt hv14) rfl m9_129 m9_130 m9_131 m9_15 m9_132 kd_X3_gapAt ⟨Nat.le_of_ble_eq_true rfl, Nat.le_of_ble_eq_true rfl⟩ ⟨Nat.zero_le _, Nat.zero_le _⟩ (Nat.le_of_ble_eq_true rfl) rfl rfl dX5_lay_27 ?_
        obtain ⟨v15, hv15, hf⟩ := bind_some hf
        try dsimp only at hf
        refine G.callV C (st := []) (st2 := [.int (v15)]) (ct_X2_reasonAgainst hv15) (ko_X2_reasonAgainst hv15) rfl m9_261 m9_262 m9_263 m9_28 m9_264 kd_X2_reasonAgainst ⟨Nat.le_of_ble_eq_true rfl, Nat.le_of_ble_eq_true rfl⟩ ⟨Nat.zero_le _, Nat.zero_le _⟩ (Nat.le_of_ble_eq_true rfl) rfl rfl dX5_lay_30 ?_
        refine G.if_eq (tgt := 46) C dX5_lay_33 (by decide) hf (fun c23 hf => ?_) (fun c23 hf => ?_)
        · refine G.aload_n C 1 dX5_lay_46 rfl rfl ?_
          refine G.getR (ci := 4) (k := 2) C rfl inlX5 (by decide) m9_21 rfl hf dX5_lay_47 (fun v16 hv16 hf => ?_)
          try dsimp only at hf
          refine G.aload_n C 1 dX5_lay_50 rfl rfl ?_
          refine G.getR (ci := 4) (k := 0) C rfl inlX5 (by decide) m9_16 rfl hf dX5_lay_51 (fun v17 hv17 hf => ?_)
          try dsimp only at hf
          obtain ⟨h18, hh18, hf⟩ := bind_some hf
          try dsimp only at hf
          refine G.callV C (st := []) (st2 := []) (ct_X0_save hh18) (ko_X0_save hh18) rfl m9_109 m9_110 m9_111 m9_20 m9_112 kd_X0_save ⟨Nat.le_of_ble_eq_true rfl, Nat.le_of_ble_eq_true rfl⟩ ⟨Nat.zero_le _, Nat.zero_le _⟩ (Nat.le_of_ble_eq_true rfl) rfl rfl dX5_lay_54 ?_
          refine G.aload_n C 1 dX5_lay_57 rfl rfl ?_
          refine G.getR (ci := 4) (k := 0) C rfl inlX5 (by decide) m9_16 rfl hf dX5_lay_58 (fun v19 hv19 hf => ?_)
          try dsimp only at hf
          refine G.aload C 0 dX5_lay_61 rfl ?_
          refine G.iload_n C 3 dX5_lay_63 rfl rfl ?_
          refine G.iload_n C 4 dX5_lay_64 rfl rfl ?_
          obtain ⟨⟨v20, h21⟩, hv20, hf⟩ := bind_some hf
          try dsimp only at hf
          refine G.callV C (st := []) (st2 := [.int (v20)]) (ct_X3_layOn hv20) (ko_X3_layOn hv20) rfl m9_270 m9_271 m9_272 m9_15 m9_273 kd_X3_layOn ⟨Nat.le_of_ble_eq_true rfl, Nat.le_of_ble_eq_true rfl⟩ ⟨Nat.zero_le _, Nat.zero_le _⟩ (Nat.le_of_ble_eq_true rfl) rfl rfl dX5_lay_65 ?_
          cases hf
          refine G.retX rfl ?_
          exact G.iret C rfl dX5_lay_68
        · cases hf
          exact G.throwIS (is := 103) (text := "the hue cannot be laid") C TT tab rfl m9_89 m9_90 (by decide +kernel) dX5_lay_36 dX5_lay_39 dX5_lay_40 dX5_lay_42 dX5_lay_45 (Nat.le_of_ble_eq_true rfl) (Nat.le_of_ble_eq_true rfl) ⟨rfl, rfl⟩
theorem ko_X5_take {h : PH} {a0 : Nat} {a1 : Int32} {a2 : Int32} {r : (Except (String × PH) (Int32 × PH))} (hf : f_X5_take h a0 a1 a2 = some r) : kO h a0 4 := by
  unfold f_X5_take at hf
  exact okO_k (gd_ok hf).1
theorem kd_X5_take : yX5_take.cls = RX5 ∧ yX5_take.cls ≠ "java/lang/invoke/MethodHandle" ∧ yX5_take.cls ≠ "java/lang/invoke/VarHandle" ∧ (parseMethodDescriptor yX5_take.desc).map (fun d => d.parameters.length) = some 2 := by decide +kernel
set_option maxRecDepth 20000 in
set_option maxHeartbeats 4000000 in
theorem cx_X5_take {l : Launch} {h : PH} {a0 : Nat} {a1 : Int32} {a2 : Int32} {r : (Except (String × PH) (Int32 × PH))} (hf : f_X5_take h a0 a1 a2 = some r) : CX l yX5_take cX5_take 4 (some .int) 7 112 [.ref (a0), .int (a1), .int (a2)] h (xIW r) := by
  refine CX.of (own := RX5) rfl (by decide) (Nat.le_of_ble_eq_true rfl) ?_
  intro p e R s m args below meth c g X hR C TT tab
  subst hR
  unfold f_X5_take at hf
  obtain ⟨hok, hf⟩ := gd_ok hf
  refine G.sub C [0, 1, 2] (lv' := [(0, .ref (a0)), (1, .int (a1)), (2, .int (a2))]) rfl ?_
  refine G.aload_n C 0 dX5_take_0 rfl rfl ?_
  refine G.iload_n C 1 dX5_take_1 rfl rfl ?_
  obtain ⟨r1, hr1, hf⟩ := bind_some hf
  cases r1 with
  | error E4 =>
    try dsimp only at hf
    cases hf
    exact G.callXe C TT tab (st := []) (cx_X5_existing hr1) rfl rfl ⟨rfl, rfl⟩ (ko_X5_existing hr1) rfl m9_229 m9_230 m9_231 m9_2 m9_232 kd_X5_existing ⟨Nat.le_of_ble_eq_true rfl, Nat.le_of_ble_eq_true rfl⟩ (Nat.le_of_ble_eq_true rfl) rfl dX5_take_2
  | ok v2 =>
    try dsimp only at hf
    refine G.callXo C TT (st := []) (st2 := [.ref (v2)]) (cx_X5_existing hr1) rfl (ko_X5_existing hr1) rfl m9_229 m9_230 m9_231 m9_2 m9_232 kd_X5_existing ⟨Nat.le_of_ble_eq_true rfl, Nat.le_of_ble_eq_true rfl⟩ (Nat.le_of_ble_eq_true rfl) rfl rfl dX5_take_2 ?_
    refine G.astore_n (lv' := [(3, .ref (v2)), (0, .ref (a0)), (1, .int (a1)), (2, .int (a2))]) C dX5_take_5 rfl (by decide) rfl ?_
    refine G.aload_n C 1 dX5_take_6 rfl rfl ?_
    refine G.iload_n C 3 dX5_take_7 rfl rfl ?_
    obtain ⟨r5, hr5, hf⟩ := bind_some hf
    cases r5 with
    | error E8 =>
      try dsimp only at hf
      cases hf
      exact G.callXe C TT tab (st := []) (cx_X5_requireHue hr5) rfl rfl ⟨rfl, rfl⟩ (ko_X5_requireHue hr5) rfl m9_91 m9_92 m9_93 m9_2 m9_94 kd_X5_requireHue ⟨Nat.le_of_ble_eq_true rfl, Nat.le_of_ble_eq_true rfl⟩ (Nat.le_of_ble_eq_true rfl) rfl dX5_take_8
    | ok v6 =>
      try dsimp only at hf
      refine G.callXo C TT (st := []) (st2 := []) (cx_X5_requireHue hr5) rfl (ko_X5_requireHue hr5) rfl m9_91 m9_92 m9_93 m9_2 m9_94 kd_X5_requireHue ⟨Nat.le_of_ble_eq_true rfl, Nat.le_of_ble_eq_true rfl⟩ (Nat.le_of_ble_eq_true rfl) rfl rfl dX5_take_8 ?_
      refine G.aload_n C 0 dX5_take_11 rfl rfl ?_
      refine G.iload_n C 3 dX5_take_12 rfl rfl ?_
      obtain ⟨v9, hv9, hf⟩ := bind_some hf
      try dsimp only at hf
      refine G.callV C (st := []) (st2 := [.int (v9)]) (ct_X2_orderOf hv9) (ko_X2_orderOf hv9) rfl m9_322 m9_106 m9_107 m9_28 m9_108 kd_X2_orderOf ⟨Nat.le_of_ble_eq_true rfl, Nat.le_of_ble_eq_true rfl⟩ ⟨Nat.zero_le _, Nat.zero_le _⟩ (Nat.le_of_ble_eq_true rfl) rfl rfl dX5_take_13 ?_
      refine G.iconst (v := (-1)) C dX5_take_16 (by decide) ?_
      refine G.icmp_ne (tgt := 30) C dX5_take_17 (by decide) hf (fun c16 hf => ?_) (fun c16 hf => ?_)
      · refine G.aload_n C 1 dX5_take_30 rfl rfl ?_
        refine G.getR (ci := 4) (k := 2) C rfl inlX5 (by decide) m9_21 rfl hf dX5_take_31 (fun v10 hv10 hf => ?_)
        try dsimp only at hf
        refine G.aload_n C 1 dX5_take_34 rfl rfl ?_
        refine G.getR (ci := 4) (k := 0) C rfl inlX5 (by decide) m9_16 rfl hf dX5_take_35 (fun v11 hv11 hf => ?_)
        try dsimp only at hf
        obtain ⟨h12, hh12, hf⟩ := bind_some hf
        try dsimp only at hf
        refine G.callV C (st := []) (st2 := []) (ct_X0_save hh12) (ko_X0_save hh12) rfl m9_109 m9_110 m9_111 m9_20 m9_112 kd_X0_save ⟨Nat.le_of_ble_eq_true rfl, Nat.le_of_ble_eq_true rfl⟩ ⟨Nat.zero_le _, Nat.zero_le _⟩ (Nat.le_of_ble_eq_true rfl) rfl rfl dX5_take_38 ?_
        refine G.aload_n C 0 dX5_take_41 rfl rfl ?_
        refine G.iload_n C 3 dX5_take_42 rfl rfl ?_
        obtain ⟨⟨v13, h14⟩, hv13, hf⟩ := bind_some hf
        try dsimp only at hf
        refine G.callV C (st := []) (st2 := [.int (v13)]) (ct_X2_remove hv13) (ko_X2_remove hv13) rfl m9_323 m9_324 m9_325 m9_28 m9_326 kd_X2_remove ⟨Nat.le_of_ble_eq_true rfl, Nat.le_of_ble_eq_true rfl⟩ ⟨Nat.zero_le _, Nat.zero_le _⟩ (Nat.le_of_ble_eq_true rfl) rfl rfl dX5_take_43 ?_
        cases hf
        refine G.retX rfl ?_
        exact G.iret C rfl dX5_take_46
      · cases hf
        exact G.throwIS (is := 112) (text := "the hue is not laid there") C TT tab rfl m9_89 m9_90 (by decide +kernel) dX5_take_20 dX5_take_23 dX5_take_24 dX5_take_26 dX5_take_29 (Nat.le_of_ble_eq_true rfl) (Nat.le_of_ble_eq_true rfl) ⟨rfl, rfl⟩
theorem ko_X5_huesDueAt {h : PH} {a0 : Nat} {a1 : Nat} {a2 : Int32} {r : Int32} (hf : f_X5_huesDueAt h a0 a1 a2 = some r) : kO h a0 4 := by
  unfold f_X5_huesDueAt at hf
  exact okO_k (gd_ok hf).1
theorem kd_X5_huesDueAt : yX5_huesDueAt.cls = RX5 ∧ yX5_huesDueAt.cls ≠ "java/lang/invoke/MethodHandle" ∧ yX5_huesDueAt.cls ≠ "java/lang/invoke/VarHandle" ∧ (parseMethodDescriptor yX5_huesDueAt.desc).map (fun d => d.parameters.length) = some 2 := by decide +kernel
set_option maxRecDepth 20000 in
set_option maxHeartbeats 4000000 in
theorem ct_X5_huesDueAt {l : Launch} {h : PH} {a0 : Nat} {a1 : Nat} {a2 : Int32} {r : Int32} (hf : f_X5_huesDueAt h a0 a1 a2 = some r) : CT l yX5_huesDueAt cX5_huesDueAt 6 (some .int) 2 44 [.ref (a0), .ref (a1), .int (a2)] h (some (.int r)) h := by
  refine CT.of (own := RX5) rfl (by decide) (Nat.le_of_ble_eq_true rfl) ?_
  intro p e R s m args below meth c g X hR C
  subst hR
  unfold f_X5_huesDueAt at hf
  obtain ⟨hok, hf⟩ := gd_ok hf
  have hj55 : ∀ (x3 : Int32), f_X5_huesDueAt_J55 h (x3) = some r → G p l e ({ frames := 2, cells := 0, slots := 0, locals := 44 } : Room) s m args below meth c 6 g X h 0 0 (MQ below (QW g X h s.heap.size (some (.int r)) h) args s 0 0 (AF X h s.heap.size)) 55 [(3, .int (x3))] [] h := by
    intro x3 hf
    unfold f_X5_huesDueAt_J55 at hf
    refine G.iload_n C 0 dX5_huesDueAt_55 rfl rfl ?_
    cases hf
    exact G.iret C rfl dX5_huesDueAt_56
  refine G.sub C [0, 1, 2] (lv' := [(0, .ref (a0)), (1, .ref (a1)), (2, .int (a2))]) rfl ?_
  refine G.iconst (v := 0) C dX5_huesDueAt_0 (by decide) ?_
  refine G.istore_n (lv' := [(3, .int ((0 : Int32))), (0, .ref (a0)), (1, .ref (a1)), (2, .int (a2))]) C dX5_huesDueAt_1 rfl (by decide) rfl ?_
  refine G.iconst (v := 0) C dX5_huesDueAt_2 (by decide) ?_
  refine G.istore (lv' := [(4, .int ((0 : Int32))), (3, .int ((0 : Int32))), (0, .ref (a0)), (1, .ref (a1)), (2, .int (a2))]) C dX5_huesDueAt_3 (by decide) rfl ?_
  obtain ⟨z1, hlp1, hfo1⟩ := bind_some hf
  clear hf
  have hloop1 : ∀ (k : Nat), ∀ (x3 : Int32) (x4 : Int32), (lpn (f_X5_huesDueAt_L5 (h) (a0) (a1) (a2)) k (x3, x4)) = some z1 → G p l e ({ frames := 2, cells := 0, slots := 0, locals := 44 } : Room) s m args below meth c 6 g X h 0 0 (MQ below (QW g X h s.heap.size (some (.int r)) h) args s 0 0 (AF X h s.heap.size)) 5 [(0, .ref (a0)), (1, .ref (a1)), (2, .int (a2)), (3, .int (x3)), (4, .int (x4))] [] h := by
    intro k
    induction k with
    | zero => intro x3 x4 hlp1; exact (lpn_0 hlp1).elim
    | succ k ih1 =>
      intro x3 x4 hlp1
      obtain ⟨y1, hf, hlp1⟩ := lpn_s hlp1
      unfold f_X5_huesDueAt_L5 at hf
      try dsimp only at hf
      have hj49 : ∀ (x3 : Int32) (x4 : Int32), f_X5_huesDueAt_J49 h (a0) (a1) (a2) (x3) (x4) = some y1 → G p l e ({ frames := 2, cells := 0, slots := 0, locals := 44 } : Room) s m args below meth c 6 g X h 0 0 (MQ below (QW g X h s.heap.size (some (.int r)) h) args s 0 0 (AF X h s.heap.size)) 49 [(0, .ref (a0)), (1, .ref (a1)), (2, .int (a2)), (3, .int (x3)), (4, .int (x4))] [] h := by
        intro x3 x4 hf
        unfold f_X5_huesDueAt_J49 at hf
        refine G.iinc (k := 4) (v := (x4 + 1)) (lv' := [(4, .int ((x4 + 1))), (0, .ref (a0)), (1, .ref (a1)), (2, .int (a2)), (3, .int (x3))]) C dX5_huesDueAt_49 rfl rfl (by decide) rfl ?_
        refine G.goto (tgt := 5) C dX5_huesDueAt_52 (by decide) ?_
        cases hf
        refine G.sub C [1, 2, 3, 4, 0] (lv' := [(0, .ref (a0)), (1, .ref (a1)), (2, .int (a2)), (3, .int (x3)), (4, .int ((x4 + 1)))]) rfl ?_
        exact ih1 _ _ hlp1
      refine G.iload C 4 dX5_huesDueAt_5 rfl ?_
      refine G.aload_n C 1 dX5_huesDueAt_7 rfl rfl ?_
      obtain ⟨v2, hv2, hf⟩ := bind_some hf
      try dsimp only at hf
      refine G.callV C (st := [.int (x4)]) (st2 := [.int (v2), .int (x4)]) (ct_X2_hueCount hv2) (ko_X2_hueCount hv2) rfl m9_362 m9_363 m9_364 m9_28 m9_365 kd_X2_hueCount ⟨Nat.le_of_ble_eq_true rfl, Nat.le_of_ble_eq_true rfl⟩ ⟨Nat.zero_le _, Nat.zero_le _⟩ (Nat.le_of_ble_eq_true rfl) rfl rfl dX5_huesDueAt_8 ?_
      refine G.icmp_ge (tgt := 55) C dX5_huesDueAt_11 (by decide) hf (fun c9 hf => ?_) (fun c9 hf => ?_)
      · cases hf
        change some _ = some _ at hlp1
        have hf := hfo1
        try rw [← Option.some.inj hlp1] at hf
        try dsimp only at hf
        refine G.sub C [3] (lv' := [(3, .int (x3))]) rfl ?_
        exact hj55 _ hf
      · refine G.aload_n C 1 dX5_huesDueAt_14 rfl rfl ?_
        refine G.iload C 4 dX5_huesDueAt_15 rfl ?_
        obtain ⟨v3, hv3, hf⟩ := bind_some hf
        try dsimp only at hf
        refine G.callV C (st := []) (st2 := [.int (v3)]) (ct_X2_hueAt hv3) (ko_X2_hueAt hv3) rfl m9_366 m9_367 m9_368 m9_28 m9_369 kd_X2_hueAt ⟨Nat.le_of_ble_eq_true rfl, Nat.le_of_ble_eq_true rfl⟩ ⟨Nat.zero_le _, Nat.zero_le _⟩ (Nat.le_of_ble_eq_true rfl) rfl rfl dX5_huesDueAt_17 ?_
        refine G.istore (lv' := [(5, .int (v3)), (0, .ref (a0)), (1, .ref (a1)), (2, .int (a2)), (3, .int (x3)), (4, .int (x4))]) C dX5_huesDueAt_20 (by decide) rfl ?_
        refine G.iload_n C 3 dX5_huesDueAt_22 rfl rfl ?_
        refine G.aload_n C 2 dX5_huesDueAt_23 rfl rfl ?_
        refine G.iload C 0 dX5_huesDueAt_24 rfl ?_
        refine G.iconst (v := 0) C dX5_huesDueAt_26 (by decide) ?_
        obtain ⟨v4, hv4, hf⟩ := bind_some hf
        try dsimp only at hf
        refine G.callV C (st := [.int (a2)]) (st2 := [.int (v4), .int (a2)]) (ct_X2_firstFrom hv4) (ko_X2_firstFrom hv4) rfl m9_370 m9_371 m9_372 m9_28 m9_373 kd_X2_firstFrom ⟨Nat.le_of_ble_eq_true rfl, Nat.le_of_ble_eq_true rfl⟩ ⟨Nat.zero_le _, Nat.zero_le _⟩ (Nat.le_of_ble_eq_true rfl) rfl rfl dX5_huesDueAt_27 ?_
        refine G.isub C dX5_huesDueAt_30 ?_
        refine G.aload_n C 1 dX5_huesDueAt_31 rfl rfl ?_
        refine G.getR (ci := 4) (k := 0) C rfl inlX5 (by decide) m9_16 rfl hf dX5_huesDueAt_32 (fun v5 hv5 hf => ?_)
        try dsimp only at hf
        refine G.iload C 0 dX5_huesDueAt_35 rfl ?_
        obtain ⟨v6, hv6, hf⟩ := bind_some hf
        try dsimp only at hf
        refine G.callV C (st := [.int ((a2 - v4))]) (st2 := [.int (v6), .int ((a2 - v4))]) (ct_X3_gapAt hv6) (ko_X3_gapAt hv6) rfl m9_129 m9_130 m9_131 m9_15 m9_132 kd_X3_gapAt ⟨Nat.le_of_ble_eq_true rfl, Nat.le_of_ble_eq_true rfl⟩ ⟨Nat.zero_le _, Nat.zero_le _⟩ (Nat.le_of_ble_eq_true rfl) rfl rfl dX5_huesDueAt_37 ?_
        obtain ⟨v7, hv7, hf⟩ := bind_some hf
        try dsimp only at hf
        refine G.callS C (st := []) (st2 := [.int (v7)]) (ct_X1_remainder hv7) m9_374 m9_375 m9_376 m9_377 kd_X1_remainder ⟨Nat.le_of_ble_eq_true rfl, Nat.le_of_ble_eq_true rfl⟩ ⟨Nat.zero_le _, Nat.zero_le _⟩ (Nat.le_of_ble_eq_true rfl) rfl rfl dX5_huesDueAt_40 ?_
        refine G.if_ne (tgt := 49) C dX5_huesDueAt_43 (by decide) hf (fun c8 hf => ?_) (fun c8 hf => ?_)
        · refine G.sub C [1, 2, 3, 4, 5] (lv' := [(0, .ref (a0)), (1, .ref (a1)), (2, .int (a2)), (3, .int (x3)), (4, .int (x4))]) rfl ?_
          exact hj49 _ _ hf
        · refine G.iinc (k := 4) (v := (x3 + 1)) (lv' := [(3, .int ((x3 + 1))), (5, .int (v3)), (0, .ref (a0)), (1, .ref (a1)), (2, .int (a2)), (4, .int (x4))]) C dX5_huesDueAt_46 rfl rfl (by decide) rfl ?_
          refine G.sub C [2, 3, 4, 0, 5] (lv' := [(0, .ref (a0)), (1, .ref (a1)), (2, .int (a2)), (3, .int ((x3 + 1))), (4, .int (x4))]) rfl ?_
          exact hj49 _ _ hf
  refine G.sub C [2, 3, 4, 1, 0] (lv' := [(0, .ref (a0)), (1, .ref (a1)), (2, .int (a2)), (3, .int ((0 : Int32))), (4, .int ((0 : Int32)))]) rfl ?_
  exact hloop1 LF _ _ hlp1
theorem ko_X5_greatestLength {h : PH} {a0 : Nat} {a1 : Nat} {r : Int32} (hf : f_X5_greatestLength h a0 a1 = some r) : kO h a0 4 := by
  unfold f_X5_greatestLength at hf
  exact okO_k (gd_ok hf).1
theorem kd_X5_greatestLength : yX5_greatestLength.cls = RX5 ∧ yX5_greatestLength.cls ≠ "java/lang/invoke/MethodHandle" ∧ yX5_greatestLength.cls ≠ "java/lang/invoke/VarHandle" ∧ (parseMethodDescriptor yX5_greatestLength.desc).map (fun d => d.parameters.length) = some 1 := by decide +kernel
set_option maxRecDepth 20000 in
set_option maxHeartbeats 4000000 in
theorem ct_X5_greatestLength {l : Launch} {h : PH} {a0 : Nat} {a1 : Nat} {r : Int32} (hf : f_X5_greatestLength h a0 a1 = some r) : CT l yX5_greatestLength cX5_greatestLength 3 (some .int) 3 69 [.ref (a0), .ref (a1)] h (some (.int r)) h := by
  refine CT.of (own := RX5) rfl (by decide) (Nat.le_of_ble_eq_true rfl) ?_
  intro p e R s m args below meth c g X hR C
  subst hR
  unfold f_X5_greatestLength at hf
  obtain ⟨hok, hf⟩ := gd_ok hf
  have hj21 : ∀ (x2 : Int32), f_X5_greatestLength_J21 h (x2) = some r → G p l e ({ frames := 3, cells := 0, slots := 0, locals := 69 } : Room) s m args below meth c 3 g X h 0 0 (MQ below (QW g X h s.heap.size (some (.int r)) h) args s 0 0 (AF X h s.heap.size)) 21 [(2, .int (x2))] [] h := by
    intro x2 hf
    unfold f_X5_greatestLength_J21 at hf
    refine G.iload_n C 0 dX5_greatestLength_21 rfl rfl ?_
    cases hf
    exact G.iret C rfl dX5_greatestLength_22
  have hj29 : f_X5_greatestLength_J29 h = some r → G p l e ({ frames := 3, cells := 0, slots := 0, locals := 69 } : Room) s m args below meth c 3 g X h 0 0 (MQ below (QW g X h s.heap.size (some (.int r)) h) args s 0 0 (AF X h s.heap.size)) 29 [] [] h := by
    intro hf
    unfold f_X5_greatestLength_J29 at hf
    refine G.bipush (v := 60) C dX5_greatestLength_29 (by decide) ?_
    cases hf
    exact G.iret C rfl dX5_greatestLength_31
  refine G.sub C [0, 1] (lv' := [(0, .ref (a0)), (1, .ref (a1))]) rfl ?_
  refine G.aload_n C 1 dX5_greatestLength_0 rfl rfl ?_
  obtain ⟨v1, hv1, hf⟩ := bind_some hf
  try dsimp only at hf
  refine G.callV C (st := []) (st2 := [.int (v1)]) (ct_X2_length hv1) (ko_X2_length hv1) rfl m9_354 m9_355 m9_356 m9_28 m9_357 kd_X2_length ⟨Nat.le_of_ble_eq_true rfl, Nat.le_of_ble_eq_true rfl⟩ ⟨Nat.zero_le _, Nat.zero_le _⟩ (Nat.le_of_ble_eq_true rfl) rfl rfl dX5_greatestLength_1 ?_
  refine G.istore_n (lv' := [(2, .int (v1)), (0, .ref (a0)), (1, .ref (a1))]) C dX5_greatestLength_4 rfl (by decide) rfl ?_
  obtain ⟨z2, hlp2, hfo2⟩ := bind_some hf
  clear hf
  have hloop2 : ∀ (k : Nat), ∀ (x2 : Int32), (lpn (f_X5_greatestLength_L5 (h) (a0) (a1)) k (x2)) = some z2 → G p l e ({ frames := 3, cells := 0, slots := 0, locals := 69 } : Room) s m args below meth c 3 g X h 0 0 (MQ below (QW g X h s.heap.size (some (.int r)) h) args s 0 0 (AF X h s.heap.size)) 5 [(0, .ref (a0)), (1, .ref (a1)), (2, .int (x2))] [] h := by
    intro k
    induction k with
    | zero => intro x2 hlp2; exact (lpn_0 hlp2).elim
    | succ k ih2 =>
      intro x2 hlp2
      obtain ⟨y2, hf, hlp2⟩ := lpn_s hlp2
      unfold f_X5_greatestLength_L5 at hf
      try dsimp only at hf
      refine G.iload_n C 2 dX5_greatestLength_5 rfl rfl ?_
      refine G.bipush (v := 60) C dX5_greatestLength_6 (by decide) ?_
      refine G.icmp_ge (tgt := 29) C dX5_greatestLength_8 (by decide) hf (fun c5 hf => ?_) (fun c5 hf => ?_)
      · cases hf
        change some _ = some _ at hlp2
        have hf := hfo2
        try rw [← Option.some.inj hlp2] at hf
        try dsimp only at hf
        refine G.sub C [] (lv' := []) rfl ?_
        exact hj29  hf
      · refine G.aload_n C 0 dX5_greatestLength_11 rfl rfl ?_
        refine G.aload_n C 1 dX5_greatestLength_12 rfl rfl ?_
        refine G.iload_n C 2 dX5_greatestLength_13 rfl rfl ?_
        obtain ⟨v3, hv3, hf⟩ := bind_some hf
        try dsimp only at hf
        refine G.callV C (st := []) (st2 := [.int (v3)]) (ct_X5_huesDueAt hv3) (ko_X5_huesDueAt hv3) rfl m9_358 m9_359 m9_360 m9_2 m9_361 kd_X5_huesDueAt ⟨Nat.le_of_ble_eq_true rfl, Nat.le_of_ble_eq_true rfl⟩ ⟨Nat.zero_le _, Nat.zero_le _⟩ (Nat.le_of_ble_eq_true rfl) rfl rfl dX5_greatestLength_14 ?_
        refine G.iconst (v := 1) C dX5_greatestLength_17 (by decide) ?_
        refine G.icmp_le (tgt := 23) C dX5_greatestLength_18 (by decide) hf (fun c4 hf => ?_) (fun c4 hf => ?_)
        · refine G.iinc (k := 2) (v := (x2 + 1)) (lv' := [(2, .int ((x2 + 1))), (0, .ref (a0)), (1, .ref (a1))]) C dX5_greatestLength_23 rfl rfl (by decide) rfl ?_
          refine G.goto (tgt := 5) C dX5_greatestLength_26 (by decide) ?_
          cases hf
          refine G.sub C [1, 2, 0] (lv' := [(0, .ref (a0)), (1, .ref (a1)), (2, .int ((x2 + 1)))]) rfl ?_
          exact ih2 _ hlp2
        · cases hf
          change some _ = some _ at hlp2
          have hf := hfo2
          try rw [← Option.some.inj hlp2] at hf
          try dsimp only at hf
          refine G.sub C [2] (lv' := [(2, .int (x2))]) rfl ?_
          exact hj21 _ hf
  refine G.sub C [1, 2, 0] (lv' := [(0, .ref (a0)), (1, .ref (a1)), (2, .int (v1))]) rfl ?_
  exact hloop2 LF _ hlp2
theorem ko_X5_changeLength {h : PH} {a0 : Nat} {a1 : Nat} {a2 : Int32} {r : PH} (hf : f_X5_changeLength h a0 a1 a2 = some r) : kO h a0 4 := by
  unfold f_X5_changeLength at hf
  exact okO_k (gd_ok hf).1
theorem kd_X5_changeLength : yX5_changeLength.cls = RX5 ∧ yX5_changeLength.cls ≠ "java/lang/invoke/MethodHandle" ∧ yX5_changeLength.cls ≠ "java/lang/invoke/VarHandle" ∧ (parseMethodDescriptor yX5_changeLength.desc).map (fun d => d.parameters.length) = some 2 := by decide +kernel
set_option maxRecDepth 20000 in
set_option maxHeartbeats 4000000 in
theorem ct_X5_changeLength {l : Launch} {h : PH} {a0 : Nat} {a1 : Nat} {a2 : Int32} {r : PH} (hf : f_X5_changeLength h a0 a1 a2 = some r) : CT l yX5_changeLength cX5_changeLength 5 none 2 48 [.ref (a0), .ref (a1), .int (a2)] h none r := by
  refine CT.of (own := RX5) rfl (by decide) (Nat.le_of_ble_eq_true rfl) ?_
  intro p e R s m args below meth c g X hR C
  subst hR
  unfold f_X5_changeLength at hf
  obtain ⟨hok, hf⟩ := gd_ok hf
  have hj57 : ∀ (hh : PH) (x0 : Nat) (x1 : Nat), f_X5_changeLength_J57 hh (x0) (x1) = some r → G p l e ({ frames := 2, cells := 0, slots := 0, locals := 48 } : Room) s m args below meth c 5 g X h 0 0 (MQ below (QW g X h s.heap.size none r) args s 0 0 (AF X h s.heap.size)) 57 [(0, .ref (x0)), (1, .ref (x1))] [] hh := by
    intro hh x0 x1 hf
    unfold f_X5_changeLength_J57 at hf
    refine G.aload_n C 1 dX5_changeLength_57 rfl rfl ?_
    refine G.aload_n C 0 dX5_changeLength_58 rfl rfl ?_
    refine G.getR (ci := 4) (k := 4) C rfl inlX5 (by decide) m9_29 rfl hf dX5_changeLength_59 (fun v15 hv15 hf => ?_)
    try dsimp only at hf
    obtain ⟨h16, hh16, hf⟩ := bind_some hf
    try dsimp only at hf
    refine G.callV C (st := []) (st2 := []) (ct_X2_copyFrom hh16) (ko_X2_copyFrom hh16) rfl m9_384 m9_126 m9_127 m9_28 m9_128 kd_X2_copyFrom ⟨Nat.le_of_ble_eq_true rfl, Nat.le_of_ble_eq_true rfl⟩ ⟨Nat.zero_le _, Nat.zero_le _⟩ (Nat.le_of_ble_eq_true rfl) rfl rfl dX5_changeLength_62 ?_
    cases hf
    exact G.vret C rfl dX5_changeLength_65
  refine G.sub C [0, 1, 2] (lv' := [(0, .ref (a0)), (1, .ref (a1)), (2, .int (a2))]) rfl ?_
  refine G.aload_n C 0 dX5_changeLength_0 rfl rfl ?_
  refine G.getR (ci := 4) (k := 4) C rfl inlX5 (by decide) m9_29 rfl hf dX5_changeLength_1 (fun v1 hv1 hf => ?_)
  try dsimp only at hf
  refine G.iload_n C 2 dX5_changeLength_4 rfl rfl ?_
  obtain ⟨h2, hh2, hf⟩ := bind_some hf
  try dsimp only at hf
  refine G.callV C (st := []) (st2 := []) (ct_X2_begin hh2) (ko_X2_begin hh2) rfl m9_382 m9_200 m9_201 m9_28 m9_202 kd_X2_begin ⟨Nat.le_of_ble_eq_true rfl, Nat.le_of_ble_eq_true rfl⟩ ⟨Nat.zero_le _, Nat.zero_le _⟩ (Nat.le_of_ble_eq_true rfl) rfl rfl dX5_changeLength_5 ?_
  refine G.iconst (v := 0) C dX5_changeLength_8 (by decide) ?_
  refine G.istore_n (lv' := [(3, .int ((0 : Int32))), (0, .ref (a0)), (1, .ref (a1)), (2, .int (a2))]) C dX5_changeLength_9 rfl (by decide) rfl ?_
  obtain ⟨z3, hlp3, hfo3⟩ := bind_some hf
  clear hf
  have hloop3 : ∀ (k : Nat), ∀ (x3 : Int32) (hh : PH), (lpn (f_X5_changeLength_L10 (a0) (a1)) k (x3, hh)) = some z3 → G p l e ({ frames := 2, cells := 0, slots := 0, locals := 48 } : Room) s m args below meth c 5 g X h 0 0 (MQ below (QW g X h s.heap.size none r) args s 0 0 (AF X h s.heap.size)) 10 [(0, .ref (a0)), (1, .ref (a1)), (3, .int (x3))] [] hh := by
    intro k
    induction k with
    | zero => intro x3 hh hlp3; exact (lpn_0 hlp3).elim
    | succ k ih3 =>
      intro x3 hh hlp3
      obtain ⟨y3, hf, hlp3⟩ := lpn_s hlp3
      unfold f_X5_changeLength_L10 at hf
      try dsimp only at hf
      refine G.iload_n C 2 dX5_changeLength_10 rfl rfl ?_
      refine G.aload_n C 1 dX5_changeLength_11 rfl rfl ?_
      obtain ⟨v4, hv4, hf⟩ := bind_some hf
      try dsimp only at hf
      refine G.callV C (st := [.int (x3)]) (st2 := [.int (v4), .int (x3)]) (ct_X2_hueCount hv4) (ko_X2_hueCount hv4) rfl m9_362 m9_363 m9_364 m9_28 m9_365 kd_X2_hueCount ⟨Nat.le_of_ble_eq_true rfl, Nat.le_of_ble_eq_true rfl⟩ ⟨Nat.zero_le _, Nat.zero_le _⟩ (Nat.le_of_ble_eq_true rfl) rfl rfl dX5_changeLength_12 ?_
      refine G.icmp_ge (tgt := 57) C dX5_changeLength_15 (by decide) hf (fun c13 hf => ?_) (fun c13 hf => ?_)
      · cases hf
        change some _ = some _ at hlp3
        have hf := hfo3
        try rw [← Option.some.inj hlp3] at hf
        try dsimp only at hf
        refine G.sub C [0, 1] (lv' := [(0, .ref (a0)), (1, .ref (a1))]) rfl ?_
        exact hj57 _ _ _ hf
      · refine G.aload_n C 1 dX5_changeLength_18 rfl rfl ?_
        refine G.iload_n C 2 dX5_changeLength_19 rfl rfl ?_
        obtain ⟨v5, hv5, hf⟩ := bind_some hf
        try dsimp only at hf
        refine G.callV C (st := []) (st2 := [.int (v5)]) (ct_X2_hueAt hv5) (ko_X2_hueAt hv5) rfl m9_366 m9_367 m9_368 m9_28 m9_369 kd_X2_hueAt ⟨Nat.le_of_ble_eq_true rfl, Nat.le_of_ble_eq_true rfl⟩ ⟨Nat.zero_le _, Nat.zero_le _⟩ (Nat.le_of_ble_eq_true rfl) rfl rfl dX5_changeLength_20 ?_
        refine G.istore (lv' := [(4, .int (v5)), (0, .ref (a0)), (1, .ref (a1)), (3, .int (x3))]) C dX5_changeLength_23 (by decide) rfl ?_
        refine G.aload_n C 1 dX5_changeLength_25 rfl rfl ?_
        refine G.getR (ci := 4) (k := 4) C rfl inlX5 (by decide) m9_29 rfl hf dX5_changeLength_26 (fun v6 hv6 hf => ?_)
        try dsimp only at hf
        refine G.iload C 0 dX5_changeLength_29 rfl ?_
        refine G.aload_n C 2 dX5_changeLength_31 rfl rfl ?_
        refine G.iload C 0 dX5_changeLength_32 rfl ?_
        refine G.iconst (v := 0) C dX5_changeLength_34 (by decide) ?_
        obtain ⟨v7, hv7, hf⟩ := bind_some hf
        try dsimp only at hf
        refine G.callV C (st := [.int (v5), .ref (v6)]) (st2 := [.int (v7), .int (v5), .ref (v6)]) (ct_X2_firstFrom hv7) (ko_X2_firstFrom hv7) rfl m9_370 m9_371 m9_372 m9_28 m9_373 kd_X2_firstFrom ⟨Nat.le_of_ble_eq_true rfl, Nat.le_of_ble_eq_true rfl⟩ ⟨Nat.zero_le _, Nat.zero_le _⟩ (Nat.le_of_ble_eq_true rfl) rfl rfl dX5_changeLength_35 ?_
        refine G.aload_n C 1 dX5_changeLength_38 rfl rfl ?_
        refine G.getR (ci := 4) (k := 0) C rfl inlX5 (by decide) m9_16 rfl hf dX5_changeLength_39 (fun v8 hv8 hf => ?_)
        try dsimp only at hf
        refine G.iload C 0 dX5_changeLength_42 rfl ?_
        obtain ⟨v9, hv9, hf⟩ := bind_some hf
        try dsimp only at hf
        refine G.callV C (st := [.int (v7), .int (v5), .ref (v6)]) (st2 := [.int (v9), .int (v7), .int (v5), .ref (v6)]) (ct_X3_gapAt hv9) (ko_X3_gapAt hv9) rfl m9_129 m9_130 m9_131 m9_15 m9_132 kd_X3_gapAt ⟨Nat.le_of_ble_eq_true rfl, Nat.le_of_ble_eq_true rfl⟩ ⟨Nat.zero_le _, Nat.zero_le _⟩ (Nat.le_of_ble_eq_true rfl) rfl rfl dX5_changeLength_44 ?_
        obtain ⟨⟨v10, h11⟩, hv10, hf⟩ := bind_some hf
        try dsimp only at hf
        refine G.callV C (st := []) (st2 := [.int (v10)]) (ct_X2_put hv10) (ko_X2_put hv10) rfl m9_383 m9_276 m9_277 m9_28 m9_278 kd_X2_put ⟨Nat.le_of_ble_eq_true rfl, Nat.le_of_ble_eq_true rfl⟩ ⟨Nat.zero_le _, Nat.zero_le _⟩ (Nat.le_of_ble_eq_true rfl) rfl rfl dX5_changeLength_47 ?_
        refine G.pop C dX5_changeLength_50 rfl ?_
        refine G.iinc (k := 3) (v := (x3 + 1)) (lv' := [(3, .int ((x3 + 1))), (4, .int (v5)), (0, .ref (a0)), (1, .ref (a1))]) C dX5_changeLength_51 rfl rfl (by decide) rfl ?_
        refine G.goto (tgt := 10) C dX5_changeLength_54 (by decide) ?_
        cases hf
        refine G.sub C [2, 3, 0] (lv' := [(0, .ref (a0)), (1, .ref (a1)), (3, .int ((x3 + 1)))]) rfl ?_
        exact ih3 _ _ hlp3
  refine G.sub C [1, 2, 0] (lv' := [(0, .ref (a0)), (1, .ref (a1)), (3, .int ((0 : Int32)))]) rfl ?_
  exact hloop3 LF _ _ hlp3
theorem ko_X5_stretch {h : PH} {a0 : Nat} {a1 : Int32} {a2 : Int32} {r : (Except (String × PH) (Int32 × PH))} (hf : f_X5_stretch h a0 a1 a2 = some r) : kO h a0 4 := by
  unfold f_X5_stretch at hf
  exact okO_k (gd_ok hf).1
theorem kd_X5_stretch : yX5_stretch.cls = RX5 ∧ yX5_stretch.cls ≠ "java/lang/invoke/MethodHandle" ∧ yX5_stretch.cls ≠ "java/lang/invoke/VarHandle" ∧ (parseMethodDescriptor yX5_stretch.desc).map (fun d => d.parameters.length) = some 2 := by decide +kernel
set_option maxRecDepth 20000 in
set_option maxHeartbeats 4000000 in
theorem cx_X5_stretch {l : Launch} {h : PH} {a0 : Nat} {a1 : Int32} {a2 : Int32} {r : (Except (String × PH) (Int32 × PH))} (hf : f_X5_stretch h a0 a1 a2 = some r) : CX l yX5_stretch cX5_stretch 5 (some .int) 7 112 [.ref (a0), .int (a1), .int (a2)] h (xIW r) := by
  refine CX.of (own := RX5) rfl (by decide) (Nat.le_of_ble_eq_true rfl) ?_
  intro p e R s m args below meth c g X hR C TT tab
  subst hR
  unfold f_X5_stretch at hf
  obtain ⟨hok, hf⟩ := gd_ok hf
  refine G.sub C [0, 1, 2] (lv' := [(0, .ref (a0)), (1, .int (a1)), (2, .int (a2))]) rfl ?_
  refine G.aload_n C 0 dX5_stretch_0 rfl rfl ?_
  refine G.iload_n C 1 dX5_stretch_1 rfl rfl ?_
  obtain ⟨r1, hr1, hf⟩ := bind_some hf
  cases r1 with
  | error E4 =>
    try dsimp only at hf
    cases hf
    exact G.callXe C TT tab (st := []) (cx_X5_existing hr1) rfl rfl ⟨rfl, rfl⟩ (ko_X5_existing hr1) rfl m9_229 m9_230 m9_231 m9_2 m9_232 kd_X5_existing ⟨Nat.le_of_ble_eq_true rfl, Nat.le_of_ble_eq_true rfl⟩ (Nat.le_of_ble_eq_true rfl) rfl dX5_stretch_2
  | ok v2 =>
    try dsimp only at hf
    refine G.callXo C TT (st := []) (st2 := [.ref (v2)]) (cx_X5_existing hr1) rfl (ko_X5_existing hr1) rfl m9_229 m9_230 m9_231 m9_2 m9_232 kd_X5_existing ⟨Nat.le_of_ble_eq_true rfl, Nat.le_of_ble_eq_true rfl⟩ (Nat.le_of_ble_eq_true rfl) rfl rfl dX5_stretch_2 ?_
    refine G.astore_n (lv' := [(3, .ref (v2)), (0, .ref (a0)), (1, .int (a1)), (2, .int (a2))]) C dX5_stretch_5 rfl (by decide) rfl ?_
    refine G.aload_n C 1 dX5_stretch_6 rfl rfl ?_
    refine G.iload_n C 3 dX5_stretch_7 rfl rfl ?_
    obtain ⟨r5, hr5, hf⟩ := bind_some hf
    cases r5 with
    | error E8 =>
      try dsimp only at hf
      cases hf
      exact G.callXe C TT tab (st := []) (cx_X5_requireLength hr5) rfl rfl ⟨rfl, rfl⟩ (ko_X5_requireLength hr5) rfl m9_183 m9_184 m9_185 m9_2 m9_186 kd_X5_requireLength ⟨Nat.le_of_ble_eq_true rfl, Nat.le_of_ble_eq_true rfl⟩ (Nat.le_of_ble_eq_true rfl) rfl dX5_stretch_8
    | ok v6 =>
      try dsimp only at hf
      refine G.callXo C TT (st := []) (st2 := []) (cx_X5_requireLength hr5) rfl (ko_X5_requireLength hr5) rfl m9_183 m9_184 m9_185 m9_2 m9_186 kd_X5_requireLength ⟨Nat.le_of_ble_eq_true rfl, Nat.le_of_ble_eq_true rfl⟩ (Nat.le_of_ble_eq_true rfl) rfl rfl dX5_stretch_8 ?_
      refine G.iload_n C 3 dX5_stretch_11 rfl rfl ?_
      refine G.aload_n C 1 dX5_stretch_12 rfl rfl ?_
      refine G.aload_n C 0 dX5_stretch_13 rfl rfl ?_
      obtain ⟨v9, hv9, hf⟩ := bind_some hf
      try dsimp only at hf
      refine G.callV C (st := [.int (a2)]) (st2 := [.int (v9), .int (a2)]) (ct_X5_greatestLength hv9) (ko_X5_greatestLength hv9) rfl m9_350 m9_351 m9_352 m9_2 m9_353 kd_X5_greatestLength ⟨Nat.le_of_ble_eq_true rfl, Nat.le_of_ble_eq_true rfl⟩ ⟨Nat.zero_le _, Nat.zero_le _⟩ (Nat.le_of_ble_eq_true rfl) rfl rfl dX5_stretch_14 ?_
      refine G.icmp_le (tgt := 30) C dX5_stretch_17 (by decide) hf (fun c16 hf => ?_) (fun c16 hf => ?_)
      · refine G.aload_n C 1 dX5_stretch_30 rfl rfl ?_
        refine G.getR (ci := 4) (k := 2) C rfl inlX5 (by decide) m9_21 rfl hf dX5_stretch_31 (fun v10 hv10 hf => ?_)
        try dsimp only at hf
        refine G.aload_n C 1 dX5_stretch_34 rfl rfl ?_
        refine G.getR (ci := 4) (k := 0) C rfl inlX5 (by decide) m9_16 rfl hf dX5_stretch_35 (fun v11 hv11 hf => ?_)
        try dsimp only at hf
        obtain ⟨h12, hh12, hf⟩ := bind_some hf
        try dsimp only at hf
        refine G.callV C (st := []) (st2 := []) (ct_X0_save hh12) (ko_X0_save hh12) rfl m9_109 m9_110 m9_111 m9_20 m9_112 kd_X0_save ⟨Nat.le_of_ble_eq_true rfl, Nat.le_of_ble_eq_true rfl⟩ ⟨Nat.zero_le _, Nat.zero_le _⟩ (Nat.le_of_ble_eq_true rfl) rfl rfl dX5_stretch_38 ?_
        refine G.aload_n C 0 dX5_stretch_41 rfl rfl ?_
        obtain ⟨v13, hv13, hf⟩ := bind_some hf
        try dsimp only at hf
        refine G.callV C (st := []) (st2 := [.int (v13)]) (ct_X2_hueCount hv13) (ko_X2_hueCount hv13) rfl m9_362 m9_363 m9_364 m9_28 m9_365 kd_X2_hueCount ⟨Nat.le_of_ble_eq_true rfl, Nat.le_of_ble_eq_true rfl⟩ ⟨Nat.zero_le _, Nat.zero_le _⟩ (Nat.le_of_ble_eq_true rfl) rfl rfl dX5_stretch_42 ?_
        refine G.istore (lv' := [(4, .int (v13)), (3, .ref (v2)), (0, .ref (a0)), (1, .int (a1)), (2, .int (a2))]) C dX5_stretch_45 (by decide) rfl ?_
        refine G.aload_n C 2 dX5_stretch_47 rfl rfl ?_
        refine G.aload_n C 1 dX5_stretch_48 rfl rfl ?_
        refine G.iload_n C 4 dX5_stretch_49 rfl rfl ?_
        obtain ⟨h14, hh14, hf⟩ := bind_some hf
        try dsimp only at hf
        refine G.callV C (st := []) (st2 := []) (ct_X5_changeLength hh14) (ko_X5_changeLength hh14) rfl m9_378 m9_379 m9_380 m9_2 m9_381 kd_X5_changeLength ⟨Nat.le_of_ble_eq_true rfl, Nat.le_of_ble_eq_true rfl⟩ ⟨Nat.zero_le _, Nat.zero_le _⟩ (Nat.le_of_ble_eq_true rfl) rfl rfl dX5_stretch_50 ?_
        refine G.iload C 0 dX5_stretch_53 rfl ?_
        refine G.aload_n C 1 dX5_stretch_55 rfl rfl ?_
        obtain ⟨v15, hv15, hf⟩ := bind_some hf
        try dsimp only at hf
        refine G.callV C (st := [.int (v13)]) (st2 := [.int (v15), .int (v13)]) (ct_X2_hueCount hv15) (ko_X2_hueCount hv15) rfl m9_362 m9_363 m9_364 m9_28 m9_365 kd_X2_hueCount ⟨Nat.le_of_ble_eq_true rfl, Nat.le_of_ble_eq_true rfl⟩ ⟨Nat.zero_le _, Nat.zero_le _⟩ (Nat.le_of_ble_eq_true rfl) rfl rfl dX5_stretch_56 ?_
        refine G.isub C dX5_stretch_59 ?_
        cases hf
        refine G.retX rfl ?_
        exact G.iret C rfl dX5_stretch_60
      · cases hf
        exact G.throwIS (is := 121) (text := "two hues would take one place") C TT tab rfl m9_89 m9_90 (by decide +kernel) dX5_stretch_20 dX5_stretch_23 dX5_stretch_24 dX5_stretch_26 dX5_stretch_29 (Nat.le_of_ble_eq_true rfl) (Nat.le_of_ble_eq_true rfl) ⟨rfl, rfl⟩
theorem ko_X5_layBack {h : PH} {a0 : Nat} {a1 : Nat} {a2 : Int32} {a3 : Nat} {r : PH} (hf : f_X5_layBack h a0 a1 a2 a3 = some r) : kO h a0 4 := by
  unfold f_X5_layBack at hf
  exact okO_k (gd_ok hf).1
theorem kd_X5_layBack : yX5_layBack.cls = RX5 ∧ yX5_layBack.cls ≠ "java/lang/invoke/MethodHandle" ∧ yX5_layBack.cls ≠ "java/lang/invoke/VarHandle" ∧ (parseMethodDescriptor yX5_layBack.desc).map (fun d => d.parameters.length) = some 3 := by decide +kernel
set_option maxRecDepth 20000 in
set_option maxHeartbeats 4000000 in
theorem ct_X5_layBack {l : Launch} {h : PH} {a0 : Nat} {a1 : Nat} {a2 : Int32} {a3 : Nat} {r : PH} (hf : f_X5_layBack h a0 a1 a2 a3 = some r) : CT l yX5_layBack cX5_layBack 7 none 2 48 [.ref (a0), .ref (a1), .int (a2), .ref (a3)] h none r := by
  refine CT.of (own := RX5) rfl (by decide) (Nat.le_of_ble_eq_true rfl) ?_
  intro p e R s m args below meth c g X hR C
  subst hR
  unfold f_X5_layBack at hf
  obtain ⟨hok, hf⟩ := gd_ok hf
  have hj61 : ∀ (hh : PH), f_X5_layBack_J61 hh = some r → G p l e ({ frames := 2, cells := 0, slots := 0, locals := 48 } : Room) s m args below meth c 7 g X h 0 0 (MQ below (QW g X h s.heap.size none r) args s 0 0 (AF X h s.heap.size)) 61 [] [] hh := by
    intro hh hf
    unfold f_X5_layBack_J61 at hf
    cases hf
    exact G.vret C rfl dX5_layBack_61
  refine G.sub C [0, 1, 2, 3] (lv' := [(0, .ref (a0)), (1, .ref (a1)), (2, .int (a2)), (3, .ref (a3))]) rfl ?_
  refine G.iconst (v := 0) C dX5_layBack_0 (by decide) ?_
  refine G.istore (lv' := [(4, .int ((0 : Int32))), (0, .ref (a0)), (1, .ref (a1)), (2, .int (a2)), (3, .ref (a3))]) C dX5_layBack_1 (by decide) rfl ?_
  obtain ⟨z1, hlp1, hfo1⟩ := bind_some hf
  clear hf
  have hloop1 : ∀ (k : Nat), ∀ (x4 : Int32) (hh : PH), (lpn (f_X5_layBack_L3 (a0) (a1) (a2) (a3)) k (x4, hh)) = some z1 → G p l e ({ frames := 2, cells := 0, slots := 0, locals := 48 } : Room) s m args below meth c 7 g X h 0 0 (MQ below (QW g X h s.heap.size none r) args s 0 0 (AF X h s.heap.size)) 3 [(0, .ref (a0)), (1, .ref (a1)), (2, .int (a2)), (3, .ref (a3)), (4, .int (x4))] [] hh := by
    intro k
    induction k with
    | zero => intro x4 hh hlp1; exact (lpn_0 hlp1).elim
    | succ k ih1 =>
      intro x4 hh hlp1
      obtain ⟨y1, hf, hlp1⟩ := lpn_s hlp1
      unfold f_X5_layBack_L3 at hf
      try dsimp only at hf
      have hj55 : ∀ (hh : PH) (x4 : Int32), f_X5_layBack_J55 hh (a0) (a1) (a2) (a3) (x4) = some y1 → G p l e ({ frames := 2, cells := 0, slots := 0, locals := 48 } : Room) s m args below meth c 7 g X h 0 0 (MQ below (QW g X h s.heap.size none r) args s 0 0 (AF X h s.heap.size)) 55 [(0, .ref (a0)), (1, .ref (a1)), (2, .int (a2)), (3, .ref (a3)), (4, .int (x4))] [] hh := by
        intro hh x4 hf
        unfold f_X5_layBack_J55 at hf
        refine G.iinc (k := 4) (v := (x4 + 1)) (lv' := [(4, .int ((x4 + 1))), (0, .ref (a0)), (1, .ref (a1)), (2, .int (a2)), (3, .ref (a3))]) C dX5_layBack_55 rfl rfl (by decide) rfl ?_
        refine G.goto (tgt := 3) C dX5_layBack_58 (by decide) ?_
        cases hf
        refine G.sub C [1, 2, 3, 4, 0] (lv' := [(0, .ref (a0)), (1, .ref (a1)), (2, .int (a2)), (3, .ref (a3)), (4, .int ((x4 + 1)))]) rfl ?_
        exact ih1 _ _ hlp1
      refine G.iload C 4 dX5_layBack_3 rfl ?_
      refine G.aload_n C 1 dX5_layBack_5 rfl rfl ?_
      obtain ⟨v2, hv2, hf⟩ := bind_some hf
      try dsimp only at hf
      refine G.callV C (st := [.int (x4)]) (st2 := [.int (v2), .int (x4)]) (ct_X2_hueCount hv2) (ko_X2_hueCount hv2) rfl m9_362 m9_363 m9_364 m9_28 m9_365 kd_X2_hueCount ⟨Nat.le_of_ble_eq_true rfl, Nat.le_of_ble_eq_true rfl⟩ ⟨Nat.zero_le _, Nat.zero_le _⟩ (Nat.le_of_ble_eq_true rfl) rfl rfl dX5_layBack_6 ?_
      refine G.icmp_ge (tgt := 61) C dX5_layBack_9 (by decide) hf (fun c11 hf => ?_) (fun c11 hf => ?_)
      · cases hf
        change some _ = some _ at hlp1
        have hf := hfo1
        try rw [← Option.some.inj hlp1] at hf
        try dsimp only at hf
        refine G.sub C [] (lv' := []) rfl ?_
        exact hj61 _ hf
      · refine G.aload_n C 1 dX5_layBack_12 rfl rfl ?_
        refine G.iload C 4 dX5_layBack_13 rfl ?_
        obtain ⟨v3, hv3, hf⟩ := bind_some hf
        try dsimp only at hf
        refine G.callV C (st := []) (st2 := [.int (v3)]) (ct_X2_hueAt hv3) (ko_X2_hueAt hv3) rfl m9_366 m9_367 m9_368 m9_28 m9_369 kd_X2_hueAt ⟨Nat.le_of_ble_eq_true rfl, Nat.le_of_ble_eq_true rfl⟩ ⟨Nat.zero_le _, Nat.zero_le _⟩ (Nat.le_of_ble_eq_true rfl) rfl rfl dX5_layBack_15 ?_
        refine G.istore (lv' := [(5, .int (v3)), (0, .ref (a0)), (1, .ref (a1)), (2, .int (a2)), (3, .ref (a3)), (4, .int (x4))]) C dX5_layBack_18 (by decide) rfl ?_
        refine G.aload_n C 2 dX5_layBack_20 rfl rfl ?_
        refine G.iload C 0 dX5_layBack_21 rfl ?_
        refine G.iload_n C 3 dX5_layBack_23 rfl rfl ?_
        obtain ⟨v4, hv4, hf⟩ := bind_some hf
        try dsimp only at hf
        refine G.callV C (st := []) (st2 := [.int (v4)]) (ct_X2_firstFrom hv4) (ko_X2_firstFrom hv4) rfl m9_370 m9_371 m9_372 m9_28 m9_373 kd_X2_firstFrom ⟨Nat.le_of_ble_eq_true rfl, Nat.le_of_ble_eq_true rfl⟩ ⟨Nat.zero_le _, Nat.zero_le _⟩ (Nat.le_of_ble_eq_true rfl) rfl rfl dX5_layBack_24 ?_
        refine G.istore (lv' := [(6, .int (v4)), (5, .int (v3)), (0, .ref (a0)), (1, .ref (a1)), (2, .int (a2)), (3, .ref (a3)), (4, .int (x4))]) C dX5_layBack_27 (by decide) rfl ?_
        refine G.iload C 0 dX5_layBack_29 rfl ?_
        refine G.iconst (v := (-1)) C dX5_layBack_31 (by decide) ?_
        refine G.icmp_eq (tgt := 55) C dX5_layBack_32 (by decide) hf (fun c10 hf => ?_) (fun c10 hf => ?_)
        · refine G.sub C [2, 3, 4, 5, 6] (lv' := [(0, .ref (a0)), (1, .ref (a1)), (2, .int (a2)), (3, .ref (a3)), (4, .int (x4))]) rfl ?_
          exact hj55 _ _ hf
        · refine G.aload_n C 5 dX5_layBack_35 rfl rfl ?_
          refine G.iload C 1 dX5_layBack_36 rfl ?_
          refine G.iload C 0 dX5_layBack_38 rfl ?_
          refine G.iload_n C 4 dX5_layBack_40 rfl rfl ?_
          refine G.isub C dX5_layBack_41 ?_
          refine G.aload_n C 2 dX5_layBack_42 rfl rfl ?_
          refine G.getR (ci := 4) (k := 0) C rfl inlX5 (by decide) m9_16 rfl hf dX5_layBack_43 (fun v5 hv5 hf => ?_)
          try dsimp only at hf
          refine G.iload C 1 dX5_layBack_46 rfl ?_
          obtain ⟨v6, hv6, hf⟩ := bind_some hf
          try dsimp only at hf
          refine G.callV C (st := [.int ((v4 - a2)), .int (v3), .ref (a3)]) (st2 := [.int (v6), .int ((v4 - a2)), .int (v3), .ref (a3)]) (ct_X3_gapAt hv6) (ko_X3_gapAt hv6) rfl m9_129 m9_130 m9_131 m9_15 m9_132 kd_X3_gapAt ⟨Nat.le_of_ble_eq_true rfl, Nat.le_of_ble_eq_true rfl⟩ ⟨Nat.zero_le _, Nat.zero_le _⟩ (Nat.le_of_ble_eq_true rfl) rfl rfl dX5_layBack_48 ?_
          obtain ⟨⟨v7, h8⟩, hv7, hf⟩ := bind_some hf
          try dsimp only at hf
          refine G.callV C (st := []) (st2 := [.int (v7)]) (ct_X2_put hv7) (ko_X2_put hv7) rfl m9_383 m9_276 m9_277 m9_28 m9_278 kd_X2_put ⟨Nat.le_of_ble_eq_true rfl, Nat.le_of_ble_eq_true rfl⟩ ⟨Nat.zero_le _, Nat.zero_le _⟩ (Nat.le_of_ble_eq_true rfl) rfl rfl dX5_layBack_51 ?_
          refine G.pop C dX5_layBack_54 rfl ?_
          refine G.sub C [2, 3, 4, 5, 6] (lv' := [(0, .ref (a0)), (1, .ref (a1)), (2, .int (a2)), (3, .ref (a3)), (4, .int (x4))]) rfl ?_
          exact hj55 _ _ hf
  refine G.sub C [1, 2, 3, 4, 0] (lv' := [(0, .ref (a0)), (1, .ref (a1)), (2, .int (a2)), (3, .ref (a3)), (4, .int ((0 : Int32)))]) rfl ?_
  exact hloop1 LF _ _ hlp1
theorem ko_X5_cut {h : PH} {a0 : Nat} {a1 : Int32} {a2 : Int32} {r : (Except (String × PH) (Int32 × PH))} (hf : f_X5_cut h a0 a1 a2 = some r) : kO h a0 4 := by
  unfold f_X5_cut at hf
  exact okO_k (gd_ok hf).1
theorem kd_X5_cut : yX5_cut.cls = RX5 ∧ yX5_cut.cls ≠ "java/lang/invoke/MethodHandle" ∧ yX5_cut.cls ≠ "java/lang/invoke/VarHandle" ∧ (parseMethodDescriptor yX5_cut.desc).map (fun d => d.parameters.length) = some 2 := by decide +kernel
set_option maxRecDepth 20000 in
set_option maxHeartbeats 4000000 in
theorem cx_X5_cut {l : Launch} {h : PH} {a0 : Nat} {a1 : Int32} {a2 : Int32} {r : (Except (String × PH) (Int32 × PH))} (hf : f_X5_cut h a0 a1 a2 = some r) : CX l yX5_cut cX5_cut 5 (some .int) 7 112 [.ref (a0), .int (a1), .int (a2)] h (xIW r) := by
  refine CX.of (own := RX5) rfl (by decide) (Nat.le_of_ble_eq_true rfl) ?_
  intro p e R s m args below meth c g X hR C TT tab
  subst hR
  unfold f_X5_cut at hf
  obtain ⟨hok, hf⟩ := gd_ok hf
  have hj21 : f_X5_cut_J21 h = some r → G p l e ({ frames := 7, cells := cN (xIW r), slots := cS (xIW r), locals := 112 } : Room) s m args below meth c 5 g X h 0 0 (vx_MQ below (QX g X h s.heap.size (xIW r)) (XX g X h s.heap.size (xIW r)) args s (cN (xIW r)) (cS (xIW r)) (AF X h s.heap.size)) 21 [] [] h := by
    intro hf
    unfold f_X5_cut_J21 at hf
    cases hf
    exact G.throwIA (is := 133) (text := "the place is out of range") C TT tab rfl m9_87 m9_88 (by decide +kernel) dX5_cut_21 dX5_cut_24 dX5_cut_25 dX5_cut_27 dX5_cut_30 (Nat.le_of_ble_eq_true rfl) (Nat.le_of_ble_eq_true rfl) ⟨rfl, rfl⟩
  have hj74 : ∀ (hh : PH) (x0 : Nat) (x2 : Int32) (x3 : Nat), f_X5_cut_J74 hh (x0) (x2) (x3) = some r → G p l e ({ frames := 7, cells := cN (xIW r), slots := cS (xIW r), locals := 112 } : Room) s m args below meth c 5 g X h 0 0 (vx_MQ below (QX g X h s.heap.size (xIW r)) (XX g X h s.heap.size (xIW r)) args s (cN (xIW r)) (cS (xIW r)) (AF X h s.heap.size)) 74 [(0, .ref (x0)), (2, .int (x2)), (3, .ref (x3))] [] hh := by
    intro hh x0 x2 x3 hf
    unfold f_X5_cut_J74 at hf
    refine G.aload_n C 0 dX5_cut_74 rfl rfl ?_
    refine G.aload_n C 2 dX5_cut_75 rfl rfl ?_
    refine G.iload_n C 1 dX5_cut_76 rfl rfl ?_
    obtain ⟨h25, hh25, hf⟩ := bind_some hf
    try dsimp only at hf
    refine G.callV C (st := []) (st2 := []) (ct_X5_changeLength hh25) (ko_X5_changeLength hh25) rfl m9_378 m9_379 m9_380 m9_2 m9_381 kd_X5_changeLength ⟨Nat.le_of_ble_eq_true rfl, Nat.le_of_ble_eq_true rfl⟩ ⟨Nat.zero_le _, Nat.zero_le _⟩ (Nat.le_of_ble_eq_true rfl) rfl rfl dX5_cut_77 ?_
    refine G.aload_n C 0 dX5_cut_80 rfl rfl ?_
    refine G.getR (ci := 4) (k := 0) C rfl inlX5 (by decide) m9_16 rfl hf dX5_cut_81 (fun v26 hv26 hf => ?_)
    try dsimp only at hf
    obtain ⟨h27, hh27, hf⟩ := bind_some hf
    try dsimp only at hf
    refine G.callV C (st := []) (st2 := []) (ct_X3_countCut hh27) (ko_X3_countCut hh27) rfl m9_412 m9_413 m9_414 m9_15 m9_415 kd_X3_countCut ⟨Nat.le_of_ble_eq_true rfl, Nat.le_of_ble_eq_true rfl⟩ ⟨Nat.zero_le _, Nat.zero_le _⟩ (Nat.le_of_ble_eq_true rfl) rfl rfl dX5_cut_84 ?_
    refine G.aload_n C 0 dX5_cut_87 rfl rfl ?_
    refine G.getR (ci := 4) (k := 0) C rfl inlX5 (by decide) m9_16 rfl hf dX5_cut_88 (fun v28 hv28 hf => ?_)
    try dsimp only at hf
    obtain ⟨v29, hv29, hf⟩ := bind_some hf
    try dsimp only at hf
    refine G.callV C (st := []) (st2 := [.int (v29)]) (ct_X3_ropeCount hv29) (ko_X3_ropeCount hv29) rfl m9_191 m9_192 m9_193 m9_15 m9_194 kd_X3_ropeCount ⟨Nat.le_of_ble_eq_true rfl, Nat.le_of_ble_eq_true rfl⟩ ⟨Nat.zero_le _, Nat.zero_le _⟩ (Nat.le_of_ble_eq_true rfl) rfl rfl dX5_cut_91 ?_
    refine G.iconst (v := 1) C dX5_cut_94 (by decide) ?_
    refine G.isub C dX5_cut_95 ?_
    cases hf
    refine G.retX rfl ?_
    exact G.iret C rfl dX5_cut_96
  refine G.sub C [0, 1, 2] (lv' := [(0, .ref (a0)), (1, .int (a1)), (2, .int (a2))]) rfl ?_
  refine G.aload_n C 0 dX5_cut_0 rfl rfl ?_
  refine G.iload_n C 1 dX5_cut_1 rfl rfl ?_
  obtain ⟨r1, hr1, hf⟩ := bind_some hf
  cases r1 with
  | error E4 =>
    try dsimp only at hf
    cases hf
    exact G.callXe C TT tab (st := []) (cx_X5_existing hr1) rfl rfl ⟨rfl, rfl⟩ (ko_X5_existing hr1) rfl m9_229 m9_230 m9_231 m9_2 m9_232 kd_X5_existing ⟨Nat.le_of_ble_eq_true rfl, Nat.le_of_ble_eq_true rfl⟩ (Nat.le_of_ble_eq_true rfl) rfl dX5_cut_2
  | ok v2 =>
    try dsimp only at hf
    refine G.callXo C TT (st := []) (st2 := [.ref (v2)]) (cx_X5_existing hr1) rfl (ko_X5_existing hr1) rfl m9_229 m9_230 m9_231 m9_2 m9_232 kd_X5_existing ⟨Nat.le_of_ble_eq_true rfl, Nat.le_of_ble_eq_true rfl⟩ (Nat.le_of_ble_eq_true rfl) rfl rfl dX5_cut_2 ?_
    refine G.astore_n (lv' := [(3, .ref (v2)), (0, .ref (a0)), (1, .int (a1)), (2, .int (a2))]) C dX5_cut_5 rfl (by decide) rfl ?_
    refine G.iload_n C 3 dX5_cut_6 rfl rfl ?_
    refine G.iconst (v := 1) C dX5_cut_7 (by decide) ?_
    refine G.icmp_lt (tgt := 21) C dX5_cut_8 (by decide) hf (fun c22 hf => ?_) (fun c22 hf => ?_)
    · refine G.sub C [] (lv' := []) rfl ?_
      exact hj21  hf
    · refine G.iload_n C 3 dX5_cut_11 rfl rfl ?_
      refine G.aload_n C 0 dX5_cut_12 rfl rfl ?_
      obtain ⟨v5, hv5, hf⟩ := bind_some hf
      try dsimp only at hf
      refine G.callV C (st := [.int (a2)]) (st2 := [.int (v5), .int (a2)]) (ct_X2_length hv5) (ko_X2_length hv5) rfl m9_354 m9_355 m9_356 m9_28 m9_357 kd_X2_length ⟨Nat.le_of_ble_eq_true rfl, Nat.le_of_ble_eq_true rfl⟩ ⟨Nat.zero_le _, Nat.zero_le _⟩ (Nat.le_of_ble_eq_true rfl) rfl rfl dX5_cut_13 ?_
      refine G.iconst (v := 1) C dX5_cut_16 (by decide) ?_
      refine G.isub C dX5_cut_17 ?_
      refine G.icmp_le (tgt := 31) C dX5_cut_18 (by decide) hf (fun c21 hf => ?_) (fun c21 hf => ?_)
      · refine G.aload_n C 1 dX5_cut_31 rfl rfl ?_
        obtain ⟨r6, hr6, hf⟩ := bind_some hf
        cases r6 with
        | error E9 =>
          try dsimp only at hf
          cases hf
          exact G.callXe C TT tab (st := []) (cx_X5_requireRoomForRope hr6) rfl rfl ⟨rfl, rfl⟩ (ko_X5_requireRoomForRope hr6) rfl m9_187 m9_188 m9_189 m9_2 m9_190 kd_X5_requireRoomForRope ⟨Nat.le_of_ble_eq_true rfl, Nat.le_of_ble_eq_true rfl⟩ (Nat.le_of_ble_eq_true rfl) rfl dX5_cut_32
        | ok v7 =>
          try dsimp only at hf
          refine G.callXo C TT (st := []) (st2 := []) (cx_X5_requireRoomForRope hr6) rfl (ko_X5_requireRoomForRope hr6) rfl m9_187 m9_188 m9_189 m9_2 m9_190 kd_X5_requireRoomForRope ⟨Nat.le_of_ble_eq_true rfl, Nat.le_of_ble_eq_true rfl⟩ (Nat.le_of_ble_eq_true rfl) rfl rfl dX5_cut_32 ?_
          refine G.aload_n C 1 dX5_cut_35 rfl rfl ?_
          refine G.getR (ci := 4) (k := 2) C rfl inlX5 (by decide) m9_21 rfl hf dX5_cut_36 (fun v10 hv10 hf => ?_)
          try dsimp only at hf
          refine G.aload_n C 1 dX5_cut_39 rfl rfl ?_
          refine G.getR (ci := 4) (k := 0) C rfl inlX5 (by decide) m9_16 rfl hf dX5_cut_40 (fun v11 hv11 hf => ?_)
          try dsimp only at hf
          obtain ⟨h12, hh12, hf⟩ := bind_some hf
          try dsimp only at hf
          refine G.callV C (st := []) (st2 := []) (ct_X0_save hh12) (ko_X0_save hh12) rfl m9_109 m9_110 m9_111 m9_20 m9_112 kd_X0_save ⟨Nat.le_of_ble_eq_true rfl, Nat.le_of_ble_eq_true rfl⟩ ⟨Nat.zero_le _, Nat.zero_le _⟩ (Nat.le_of_ble_eq_true rfl) rfl rfl dX5_cut_43 ?_
          refine G.aload_n C 1 dX5_cut_46 rfl rfl ?_
          refine G.getR (ci := 4) (k := 0) C rfl inlX5 (by decide) m9_16 rfl hf dX5_cut_47 (fun v13 hv13 hf => ?_)
          try dsimp only at hf
          refine G.aload_n C 0 dX5_cut_50 rfl rfl ?_
          obtain ⟨v14, hv14, hf⟩ := bind_some hf
          try dsimp only at hf
          refine G.callV C (st := [.ref (v13)]) (st2 := [.int (v14), .ref (v13)]) (ct_X2_length hv14) (ko_X2_length hv14) rfl m9_354 m9_355 m9_356 m9_28 m9_357 kd_X2_length ⟨Nat.le_of_ble_eq_true rfl, Nat.le_of_ble_eq_true rfl⟩ ⟨Nat.zero_le _, Nat.zero_le _⟩ (Nat.le_of_ble_eq_true rfl) rfl rfl dX5_cut_51 ?_
          refine G.iload_n C 3 dX5_cut_54 rfl rfl ?_
          refine G.isub C dX5_cut_55 ?_
          obtain ⟨⟨v15, h16⟩, hv15, hf⟩ := bind_some hf
          try dsimp only at hf
          refine G.callV C (st := []) (st2 := [va_rf (v15)]) (ct_X3_addRope hv15) (ko_X3_addRope hv15) rfl m9_195 m9_196 m9_197 m9_15 m9_198 kd_X3_addRope ⟨Nat.le_of_ble_eq_true rfl, Nat.le_of_ble_eq_true rfl⟩ ⟨Nat.zero_le _, Nat.zero_le _⟩ (Nat.le_of_ble_eq_true rfl) rfl rfl dX5_cut_56 ?_
          refine G.qstore (lv' := [(4, va_rf (v15)), (3, .ref (v2)), (0, .ref (a0)), (1, .int (a1)), (2, .int (a2))]) C dX5_cut_59 (by decide) rfl ?_
          refine G.qload C 0 dX5_cut_61 rfl ?_
          refine G.ifnull (tgt := 74) C dX5_cut_63 (by decide) (fun e20 => ?_) (fun a18 e20 => ?_)
          · subst e20
            try dsimp only at hf
            refine G.sub C [2, 4, 1] (lv' := [(0, .ref (a0)), (2, .int (a2)), (3, .ref (v2))]) rfl ?_
            exact hj74 _ _ _ _ hf
          · subst e20
            try dsimp only at hf
            refine G.aload_n C 2 dX5_cut_66 rfl rfl ?_
            refine G.aload_n C 1 dX5_cut_67 rfl rfl ?_
            refine G.iload_n C 4 dX5_cut_68 rfl rfl ?_
            refine G.aload C 0 dX5_cut_69 rfl ?_
            obtain ⟨h19, hh19, hf⟩ := bind_some hf
            try dsimp only at hf
            refine G.callV C (st := []) (st2 := []) (ct_X5_layBack hh19) (ko_X5_layBack hh19) rfl m9_408 m9_409 m9_410 m9_2 m9_411 kd_X5_layBack ⟨Nat.le_of_ble_eq_true rfl, Nat.le_of_ble_eq_true rfl⟩ ⟨Nat.zero_le _, Nat.zero_le _⟩ (Nat.le_of_ble_eq_true rfl) rfl rfl dX5_cut_71 ?_
            refine G.sub C [2, 4, 1] (lv' := [(0, .ref (a0)), (2, .int (a2)), (3, .ref (v2))]) rfl ?_
            exact hj74 _ _ _ _ hf
      · refine G.sub C [] (lv' := []) rfl ?_
        exact hj21  hf
theorem ko_X5_turnRound {h : PH} {a0 : Nat} {a1 : Nat} {r : (Int32 × PH)} (hf : f_X5_turnRound h a0 a1 = some r) : kO h a0 4 := by
  unfold f_X5_turnRound at hf
  exact okO_k (gd_ok hf).1
theorem kd_X5_turnRound : yX5_turnRound.cls = RX5 ∧ yX5_turnRound.cls ≠ "java/lang/invoke/MethodHandle" ∧ yX5_turnRound.cls ≠ "java/lang/invoke/VarHandle" ∧ (parseMethodDescriptor yX5_turnRound.desc).map (fun d => d.parameters.length) = some 1 := by decide +kernel
set_option maxRecDepth 20000 in
set_option maxHeartbeats 4000000 in
theorem ct_X5_turnRound {l : Launch} {h : PH} {a0 : Nat} {a1 : Nat} {r : (Int32 × PH)} (hf : f_X5_turnRound h a0 a1 = some r) : CT l yX5_turnRound cX5_turnRound 4 (some .int) 2 48 [.ref (a0), .ref (a1)] h (some (.int r.1)) r.2 := by
  refine CT.of (own := RX5) rfl (by decide) (Nat.le_of_ble_eq_true rfl) ?_
  intro p e R s m args below meth c g X hR C
  subst hR
  unfold f_X5_turnRound at hf
  obtain ⟨hok, hf⟩ := gd_ok hf
  have hj62 : ∀ (hh : PH) (x0 : Nat) (x1 : Nat), f_X5_turnRound_J62 hh (x0) (x1) = some r → G p l e ({ frames := 2, cells := 0, slots := 0, locals := 48 } : Room) s m args below meth c 4 g X h 0 0 (MQ below (QW g X h s.heap.size (some (.int r.1)) r.2) args s 0 0 (AF X h s.heap.size)) 62 [(0, .ref (x0)), (1, .ref (x1))] [] hh := by
    intro hh x0 x1 hf
    unfold f_X5_turnRound_J62 at hf
    refine G.aload_n C 1 dX5_turnRound_62 rfl rfl ?_
    refine G.aload_n C 0 dX5_turnRound_63 rfl rfl ?_
    refine G.getR (ci := 4) (k := 4) C rfl inlX5 (by decide) m9_29 rfl hf dX5_turnRound_64 (fun v19 hv19 hf => ?_)
    try dsimp only at hf
    obtain ⟨v20, hv20, hf⟩ := bind_some hf
    try dsimp only at hf
    refine G.callV C (st := []) (st2 := [.int (v20)]) (ct_X2_differences hv20) (ko_X2_differences hv20) rfl m9_435 m9_436 m9_437 m9_28 m9_438 kd_X2_differences ⟨Nat.le_of_ble_eq_true rfl, Nat.le_of_ble_eq_true rfl⟩ ⟨Nat.zero_le _, Nat.zero_le _⟩ (Nat.le_of_ble_eq_true rfl) rfl rfl dX5_turnRound_67 ?_
    refine G.istore_n (lv' := [(2, .int (v20)), (0, .ref (x0)), (1, .ref (x1))]) C dX5_turnRound_70 rfl (by decide) rfl ?_
    refine G.aload_n C 2 dX5_turnRound_71 rfl rfl ?_
    refine G.aload_n C 1 dX5_turnRound_72 rfl rfl ?_
    refine G.getR (ci := 4) (k := 4) C rfl inlX5 (by decide) m9_29 rfl hf dX5_turnRound_73 (fun v21 hv21 hf => ?_)
    try dsimp only at hf
    obtain ⟨h22, hh22, hf⟩ := bind_some hf
    try dsimp only at hf
    refine G.callV C (st := []) (st2 := []) (ct_X2_copyFrom hh22) (ko_X2_copyFrom hh22) rfl m9_384 m9_126 m9_127 m9_28 m9_128 kd_X2_copyFrom ⟨Nat.le_of_ble_eq_true rfl, Nat.le_of_ble_eq_true rfl⟩ ⟨Nat.zero_le _, Nat.zero_le _⟩ (Nat.le_of_ble_eq_true rfl) rfl rfl dX5_turnRound_76 ?_
    refine G.iload_n C 0 dX5_turnRound_79 rfl rfl ?_
    cases hf
    exact G.iret C rfl dX5_turnRound_80
  refine G.sub C [0, 1] (lv' := [(0, .ref (a0)), (1, .ref (a1))]) rfl ?_
  refine G.aload_n C 0 dX5_turnRound_0 rfl rfl ?_
  refine G.getR (ci := 4) (k := 4) C rfl inlX5 (by decide) m9_29 rfl hf dX5_turnRound_1 (fun v1 hv1 hf => ?_)
  try dsimp only at hf
  refine G.aload_n C 1 dX5_turnRound_4 rfl rfl ?_
  obtain ⟨v2, hv2, hf⟩ := bind_some hf
  try dsimp only at hf
  refine G.callV C (st := [.ref (v1)]) (st2 := [.int (v2), .ref (v1)]) (ct_X2_length hv2) (ko_X2_length hv2) rfl m9_354 m9_355 m9_356 m9_28 m9_357 kd_X2_length ⟨Nat.le_of_ble_eq_true rfl, Nat.le_of_ble_eq_true rfl⟩ ⟨Nat.zero_le _, Nat.zero_le _⟩ (Nat.le_of_ble_eq_true rfl) rfl rfl dX5_turnRound_5 ?_
  obtain ⟨h3, hh3, hf⟩ := bind_some hf
  try dsimp only at hf
  refine G.callV C (st := []) (st2 := []) (ct_X2_begin hh3) (ko_X2_begin hh3) rfl m9_382 m9_200 m9_201 m9_28 m9_202 kd_X2_begin ⟨Nat.le_of_ble_eq_true rfl, Nat.le_of_ble_eq_true rfl⟩ ⟨Nat.zero_le _, Nat.zero_le _⟩ (Nat.le_of_ble_eq_true rfl) rfl rfl dX5_turnRound_8 ?_
  refine G.iconst (v := 0) C dX5_turnRound_11 (by decide) ?_
  refine G.istore_n (lv' := [(2, .int ((0 : Int32))), (0, .ref (a0)), (1, .ref (a1))]) C dX5_turnRound_12 rfl (by decide) rfl ?_
  obtain ⟨z4, hlp4, hfo4⟩ := bind_some hf
  clear hf
  have hloop4 : ∀ (k : Nat), ∀ (x2 : Int32) (hh : PH), (lpn (f_X5_turnRound_L13 (a0) (a1)) k (x2, hh)) = some z4 → G p l e ({ frames := 2, cells := 0, slots := 0, locals := 48 } : Room) s m args below meth c 4 g X h 0 0 (MQ below (QW g X h s.heap.size (some (.int r.1)) r.2) args s 0 0 (AF X h s.heap.size)) 13 [(0, .ref (a0)), (1, .ref (a1)), (2, .int (x2))] [] hh := by
    intro k
    induction k with
    | zero => intro x2 hh hlp4; exact (lpn_0 hlp4).elim
    | succ k ih4 =>
      intro x2 hh hlp4
      obtain ⟨y4, hf, hlp4⟩ := lpn_s hlp4
      unfold f_X5_turnRound_L13 at hf
      try dsimp only at hf
      refine G.iload_n C 2 dX5_turnRound_13 rfl rfl ?_
      refine G.aload_n C 1 dX5_turnRound_14 rfl rfl ?_
      obtain ⟨v5, hv5, hf⟩ := bind_some hf
      try dsimp only at hf
      refine G.callV C (st := [.int (x2)]) (st2 := [.int (v5), .int (x2)]) (ct_X2_hueCount hv5) (ko_X2_hueCount hv5) rfl m9_362 m9_363 m9_364 m9_28 m9_365 kd_X2_hueCount ⟨Nat.le_of_ble_eq_true rfl, Nat.le_of_ble_eq_true rfl⟩ ⟨Nat.zero_le _, Nat.zero_le _⟩ (Nat.le_of_ble_eq_true rfl) rfl rfl dX5_turnRound_15 ?_
      refine G.icmp_ge (tgt := 62) C dX5_turnRound_18 (by decide) hf (fun c15 hf => ?_) (fun c15 hf => ?_)
      · cases hf
        change some _ = some _ at hlp4
        have hf := hfo4
        try rw [← Option.some.inj hlp4] at hf
        try dsimp only at hf
        refine G.sub C [0, 1] (lv' := [(0, .ref (a0)), (1, .ref (a1))]) rfl ?_
        exact hj62 _ _ _ hf
      · refine G.aload_n C 1 dX5_turnRound_21 rfl rfl ?_
        refine G.iload_n C 2 dX5_turnRound_22 rfl rfl ?_
        obtain ⟨v6, hv6, hf⟩ := bind_some hf
        try dsimp only at hf
        refine G.callV C (st := []) (st2 := [.int (v6)]) (ct_X2_hueAt hv6) (ko_X2_hueAt hv6) rfl m9_366 m9_367 m9_368 m9_28 m9_369 kd_X2_hueAt ⟨Nat.le_of_ble_eq_true rfl, Nat.le_of_ble_eq_true rfl⟩ ⟨Nat.zero_le _, Nat.zero_le _⟩ (Nat.le_of_ble_eq_true rfl) rfl rfl dX5_turnRound_23 ?_
        refine G.istore_n (lv' := [(3, .int (v6)), (0, .ref (a0)), (1, .ref (a1)), (2, .int (x2))]) C dX5_turnRound_26 rfl (by decide) rfl ?_
        refine G.aload_n C 1 dX5_turnRound_27 rfl rfl ?_
        refine G.getR (ci := 4) (k := 4) C rfl inlX5 (by decide) m9_29 rfl hf dX5_turnRound_28 (fun v7 hv7 hf => ?_)
        try dsimp only at hf
        refine G.iload_n C 0 dX5_turnRound_31 rfl rfl ?_
        refine G.aload_n C 2 dX5_turnRound_32 rfl rfl ?_
        obtain ⟨v8, hv8, hf⟩ := bind_some hf
        try dsimp only at hf
        refine G.callV C (st := [.int (v6), .ref (v7)]) (st2 := [.int (v8), .int (v6), .ref (v7)]) (ct_X2_length hv8) (ko_X2_length hv8) rfl m9_354 m9_355 m9_356 m9_28 m9_357 kd_X2_length ⟨Nat.le_of_ble_eq_true rfl, Nat.le_of_ble_eq_true rfl⟩ ⟨Nat.zero_le _, Nat.zero_le _⟩ (Nat.le_of_ble_eq_true rfl) rfl rfl dX5_turnRound_33 ?_
        refine G.iconst (v := 1) C dX5_turnRound_36 (by decide) ?_
        refine G.isub C dX5_turnRound_37 ?_
        refine G.aload_n C 2 dX5_turnRound_38 rfl rfl ?_
        refine G.iload_n C 0 dX5_turnRound_39 rfl rfl ?_
        obtain ⟨v9, hv9, hf⟩ := bind_some hf
        try dsimp only at hf
        refine G.callV C (st := [.int ((v8 - (1 : Int32))), .int (v6), .ref (v7)]) (st2 := [.int (v9), .int ((v8 - (1 : Int32))), .int (v6), .ref (v7)]) (ct_X2_lastOf hv9) (ko_X2_lastOf hv9) rfl m9_431 m9_432 m9_433 m9_28 m9_434 kd_X2_lastOf ⟨Nat.le_of_ble_eq_true rfl, Nat.le_of_ble_eq_true rfl⟩ ⟨Nat.zero_le _, Nat.zero_le _⟩ (Nat.le_of_ble_eq_true rfl) rfl rfl dX5_turnRound_40 ?_
        refine G.isub C dX5_turnRound_43 ?_
        refine G.aload_n C 1 dX5_turnRound_44 rfl rfl ?_
        refine G.getR (ci := 4) (k := 0) C rfl inlX5 (by decide) m9_16 rfl hf dX5_turnRound_45 (fun v10 hv10 hf => ?_)
        try dsimp only at hf
        refine G.iload_n C 0 dX5_turnRound_48 rfl rfl ?_
        obtain ⟨v11, hv11, hf⟩ := bind_some hf
        try dsimp only at hf
        refine G.callV C (st := [.int (((v8 - (1 : Int32)) - v9)), .int (v6), .ref (v7)]) (st2 := [.int (v11), .int (((v8 - (1 : Int32)) - v9)), .int (v6), .ref (v7)]) (ct_X3_gapAt hv11) (ko_X3_gapAt hv11) rfl m9_129 m9_130 m9_131 m9_15 m9_132 kd_X3_gapAt ⟨Nat.le_of_ble_eq_true rfl, Nat.le_of_ble_eq_true rfl⟩ ⟨Nat.zero_le _, Nat.zero_le _⟩ (Nat.le_of_ble_eq_true rfl) rfl rfl dX5_turnRound_49 ?_
        obtain ⟨⟨v12, h13⟩, hv12, hf⟩ := bind_some hf
        try dsimp only at hf
        refine G.callV C (st := []) (st2 := [.int (v12)]) (ct_X2_put hv12) (ko_X2_put hv12) rfl m9_383 m9_276 m9_277 m9_28 m9_278 kd_X2_put ⟨Nat.le_of_ble_eq_true rfl, Nat.le_of_ble_eq_true rfl⟩ ⟨Nat.zero_le _, Nat.zero_le _⟩ (Nat.le_of_ble_eq_true rfl) rfl rfl dX5_turnRound_52 ?_
        refine G.pop C dX5_turnRound_55 rfl ?_
        refine G.iinc (k := 3) (v := (x2 + 1)) (lv' := [(2, .int ((x2 + 1))), (3, .int (v6)), (0, .ref (a0)), (1, .ref (a1))]) C dX5_turnRound_56 rfl rfl (by decide) rfl ?_
        refine G.goto (tgt := 13) C dX5_turnRound_59 (by decide) ?_
        cases hf
        refine G.sub C [2, 3, 0] (lv' := [(0, .ref (a0)), (1, .ref (a1)), (2, .int ((x2 + 1)))]) rfl ?_
        exact ih4 _ _ hlp4
  refine G.sub C [1, 2, 0] (lv' := [(0, .ref (a0)), (1, .ref (a1)), (2, .int ((0 : Int32)))]) rfl ?_
  exact hloop4 LF _ _ hlp4
theorem ko_X5_turn {h : PH} {a0 : Nat} {a1 : Int32} {r : (Except (String × PH) (Int32 × PH))} (hf : f_X5_turn h a0 a1 = some r) : kO h a0 4 := by
  unfold f_X5_turn at hf
  exact okO_k (gd_ok hf).1
theorem kd_X5_turn : yX5_turn.cls = RX5 ∧ yX5_turn.cls ≠ "java/lang/invoke/MethodHandle" ∧ yX5_turn.cls ≠ "java/lang/invoke/VarHandle" ∧ (parseMethodDescriptor yX5_turn.desc).map (fun d => d.parameters.length) = some 1 := by decide +kernel
set_option maxRecDepth 20000 in
set_option maxHeartbeats 4000000 in
theorem cx_X5_turn {l : Launch} {h : PH} {a0 : Nat} {a1 : Int32} {r : (Except (String × PH) (Int32 × PH))} (hf : f_X5_turn h a0 a1 = some r) : CX l yX5_turn cX5_turn 3 (some .int) 7 112 [.ref (a0), .int (a1)] h (xIW r) := by
  refine CX.of (own := RX5) rfl (by decide) (Nat.le_of_ble_eq_true rfl) ?_
  intro p e R s m args below meth c g X hR C TT tab
  subst hR
  unfold f_X5_turn at hf
  obtain ⟨hok, hf⟩ := gd_ok hf
  refine G.sub C [0, 1] (lv' := [(0, .ref (a0)), (1, .int (a1))]) rfl ?_
  refine G.aload_n C 0 dX5_turn_0 rfl rfl ?_
  refine G.iload_n C 1 dX5_turn_1 rfl rfl ?_
  obtain ⟨r1, hr1, hf⟩ := bind_some hf
  cases r1 with
  | error E4 =>
    try dsimp only at hf
    cases hf
    exact G.callXe C TT tab (st := []) (cx_X5_existing hr1) rfl rfl ⟨rfl, rfl⟩ (ko_X5_existing hr1) rfl m9_229 m9_230 m9_231 m9_2 m9_232 kd_X5_existing ⟨Nat.le_of_ble_eq_true rfl, Nat.le_of_ble_eq_true rfl⟩ (Nat.le_of_ble_eq_true rfl) rfl dX5_turn_2
  | ok v2 =>
    try dsimp only at hf
    refine G.callXo C TT (st := []) (st2 := [.ref (v2)]) (cx_X5_existing hr1) rfl (ko_X5_existing hr1) rfl m9_229 m9_230 m9_231 m9_2 m9_232 kd_X5_existing ⟨Nat.le_of_ble_eq_true rfl, Nat.le_of_ble_eq_true rfl⟩ (Nat.le_of_ble_eq_true rfl) rfl rfl dX5_turn_2 ?_
    refine G.astore_n (lv' := [(2, .ref (v2)), (0, .ref (a0)), (1, .int (a1))]) C dX5_turn_5 rfl (by decide) rfl ?_
    refine G.aload_n C 1 dX5_turn_6 rfl rfl ?_
    refine G.getR (ci := 4) (k := 2) C rfl inlX5 (by decide) m9_21 rfl hf dX5_turn_7 (fun v5 hv5 hf => ?_)
    try dsimp only at hf
    refine G.aload_n C 1 dX5_turn_10 rfl rfl ?_
    refine G.getR (ci := 4) (k := 0) C rfl inlX5 (by decide) m9_16 rfl hf dX5_turn_11 (fun v6 hv6 hf => ?_)
    try dsimp only at hf
    obtain ⟨h7, hh7, hf⟩ := bind_some hf
    try dsimp only at hf
    refine G.callV C (st := []) (st2 := []) (ct_X0_save hh7) (ko_X0_save hh7) rfl m9_109 m9_110 m9_111 m9_20 m9_112 kd_X0_save ⟨Nat.le_of_ble_eq_true rfl, Nat.le_of_ble_eq_true rfl⟩ ⟨Nat.zero_le _, Nat.zero_le _⟩ (Nat.le_of_ble_eq_true rfl) rfl rfl dX5_turn_14 ?_
    refine G.aload_n C 1 dX5_turn_17 rfl rfl ?_
    refine G.aload_n C 0 dX5_turn_18 rfl rfl ?_
    obtain ⟨⟨v8, h9⟩, hv8, hf⟩ := bind_some hf
    try dsimp only at hf
    refine G.callV C (st := []) (st2 := [.int (v8)]) (ct_X5_turnRound hv8) (ko_X5_turnRound hv8) rfl m9_427 m9_428 m9_429 m9_2 m9_430 kd_X5_turnRound ⟨Nat.le_of_ble_eq_true rfl, Nat.le_of_ble_eq_true rfl⟩ ⟨Nat.zero_le _, Nat.zero_le _⟩ (Nat.le_of_ble_eq_true rfl) rfl rfl dX5_turn_19 ?_
    cases hf
    refine G.retX rfl ?_
    exact G.iret C rfl dX5_turn_22
theorem ko_X5_draftLaid {h : PH} {a0 : Nat} {a1 : Int32} {a2 : Int32} {r : (Int32 × PH)} (hf : f_X5_draftLaid h a0 a1 a2 = some r) : kO h a0 4 := by
  unfold f_X5_draftLaid at hf
  exact okO_k (gd_ok hf).1
theorem kd_X5_draftLaid : yX5_draftLaid.cls = RX5 ∧ yX5_draftLaid.cls ≠ "java/lang/invoke/MethodHandle" ∧ yX5_draftLaid.cls ≠ "java/lang/invoke/VarHandle" ∧ (parseMethodDescriptor yX5_draftLaid.desc).map (fun d => d.parameters.length) = some 2 := by decide +kernel
set_option maxRecDepth 20000 in
set_option maxHeartbeats 4000000 in
theorem ct_X5_draftLaid {l : Launch} {h : PH} {a0 : Nat} {a1 : Int32} {a2 : Int32} {r : (Int32 × PH)} (hf : f_X5_draftLaid h a0 a1 a2 = some r) : CT l yX5_draftLaid cX5_draftLaid 4 (some .boolean) 2 48 [.ref (a0), .int (a1), .int (a2)] h (some (.int r.1)) r.2 := by
  refine CT.of (own := RX5) rfl (by decide) (Nat.le_of_ble_eq_true rfl) ?_
  intro p e R s m args below meth c g X hR C
  subst hR
  unfold f_X5_draftLaid at hf
  obtain ⟨hok, hf⟩ := gd_ok hf
  refine G.sub C [0, 1, 2] (lv' := [(0, .ref (a0)), (1, .int (a1)), (2, .int (a2))]) rfl ?_
  refine G.aload_n C 0 dX5_draftLaid_0 rfl rfl ?_
  refine G.getR (ci := 4) (k := 0) C rfl inlX5 (by decide) m9_16 rfl hf dX5_draftLaid_1 (fun v1 hv1 hf => ?_)
  try dsimp only at hf
  refine G.iload_n C 1 dX5_draftLaid_4 rfl rfl ?_
  obtain ⟨v2, hv2, hf⟩ := bind_some hf
  try dsimp only at hf
  refine G.callV C (st := []) (st2 := [.int (v2)]) (ct_X3_gapAt hv2) (ko_X3_gapAt hv2) rfl m9_129 m9_130 m9_131 m9_15 m9_132 kd_X3_gapAt ⟨Nat.le_of_ble_eq_true rfl, Nat.le_of_ble_eq_true rfl⟩ ⟨Nat.zero_le _, Nat.zero_le _⟩ (Nat.le_of_ble_eq_true rfl) rfl rfl dX5_draftLaid_5 ?_
  refine G.istore_n (lv' := [(3, .int (v2)), (0, .ref (a0)), (1, .int (a1)), (2, .int (a2))]) C dX5_draftLaid_8 rfl (by decide) rfl ?_
  refine G.aload_n C 1 dX5_draftLaid_9 rfl rfl ?_
  refine G.getR (ci := 4) (k := 4) C rfl inlX5 (by decide) m9_29 rfl hf dX5_draftLaid_10 (fun v3 hv3 hf => ?_)
  try dsimp only at hf
  refine G.iload_n C 2 dX5_draftLaid_13 rfl rfl ?_
  refine G.iload_n C 3 dX5_draftLaid_14 rfl rfl ?_
  refine G.iload_n C 0 dX5_draftLaid_15 rfl rfl ?_
  obtain ⟨v4, hv4, hf⟩ := bind_some hf
  try dsimp only at hf
  refine G.callV C (st := []) (st2 := [.int (v4)]) (ct_X2_reasonAgainst hv4) (ko_X2_reasonAgainst hv4) rfl m9_261 m9_262 m9_263 m9_28 m9_264 kd_X2_reasonAgainst ⟨Nat.le_of_ble_eq_true rfl, Nat.le_of_ble_eq_true rfl⟩ ⟨Nat.zero_le _, Nat.zero_le _⟩ (Nat.le_of_ble_eq_true rfl) rfl rfl dX5_draftLaid_16 ?_
  refine G.if_eq (tgt := 24) C dX5_draftLaid_19 (by decide) hf (fun c9 hf => ?_) (fun c9 hf => ?_)
  · refine G.aload_n C 1 dX5_draftLaid_24 rfl rfl ?_
    refine G.getR (ci := 4) (k := 4) C rfl inlX5 (by decide) m9_29 rfl hf dX5_draftLaid_25 (fun v5 hv5 hf => ?_)
    try dsimp only at hf
    refine G.iload_n C 2 dX5_draftLaid_28 rfl rfl ?_
    refine G.iload_n C 3 dX5_draftLaid_29 rfl rfl ?_
    refine G.iload_n C 0 dX5_draftLaid_30 rfl rfl ?_
    obtain ⟨⟨v6, h7⟩, hv6, hf⟩ := bind_some hf
    try dsimp only at hf
    refine G.callV C (st := []) (st2 := [.int (v6)]) (ct_X2_put hv6) (ko_X2_put hv6) rfl m9_383 m9_276 m9_277 m9_28 m9_278 kd_X2_put ⟨Nat.le_of_ble_eq_true rfl, Nat.le_of_ble_eq_true rfl⟩ ⟨Nat.zero_le _, Nat.zero_le _⟩ (Nat.le_of_ble_eq_true rfl) rfl rfl dX5_draftLaid_31 ?_
    refine G.pop C dX5_draftLaid_34 rfl ?_
    refine G.iconst (v := 1) C dX5_draftLaid_35 (by decide) ?_
    cases hf
    exact G.zret (v := (1 : Int32)) C rfl rfl dX5_draftLaid_36
  · refine G.iconst (v := 0) C dX5_draftLaid_22 (by decide) ?_
    cases hf
    exact G.zret (v := (0 : Int32)) C rfl rfl dX5_draftLaid_23
theorem ko_X5_draftJoined {h : PH} {a0 : Nat} {a1 : Nat} {a2 : Nat} {r : (Int32 × PH)} (hf : f_X5_draftJoined h a0 a1 a2 = some r) : kO h a0 4 := by
  unfold f_X5_draftJoined at hf
  exact okO_k (gd_ok hf).1
theorem kd_X5_draftJoined : yX5_draftJoined.cls = RX5 ∧ yX5_draftJoined.cls ≠ "java/lang/invoke/MethodHandle" ∧ yX5_draftJoined.cls ≠ "java/lang/invoke/VarHandle" ∧ (parseMethodDescriptor yX5_draftJoined.desc).map (fun d => d.parameters.length) = some 2 := by decide +kernel
set_option maxRecDepth 20000 in
set_option maxHeartbeats 4000000 in
theorem ct_X5_draftJoined {l : Launch} {h : PH} {a0 : Nat} {a1 : Nat} {a2 : Nat} {r : (Int32 × PH)} (hf : f_X5_draftJoined h a0 a1 a2 = some r) : CT l yX5_draftJoined cX5_draftJoined 7 (some .boolean) 3 71 [.ref (a0), .ref (a1), .ref (a2)] h (some (.int r.1)) r.2 := by
  refine CT.of (own := RX5) rfl (by decide) (Nat.le_of_ble_eq_true rfl) ?_
  intro p e R s m args below meth c g X hR C
  subst hR
  unfold f_X5_draftJoined at hf
  obtain ⟨hok, hf⟩ := gd_ok hf
  have hj153 : ∀ (hh : PH) (x3 : Int32), f_X5_draftJoined_J153 hh (x3) = some r → G p l e ({ frames := 3, cells := 0, slots := 0, locals := 71 } : Room) s m args below meth c 7 g X h 0 0 (MQ below (QW g X h s.heap.size (some (.int r.1)) r.2) args s 0 0 (AF X h s.heap.size)) 153 [(3, .int (x3))] [] hh := by
    intro hh x3 hf
    unfold f_X5_draftJoined_J153 at hf
    refine G.iload_n C 0 dX5_draftJoined_153 rfl rfl ?_
    obtain ⟨c25, hf⟩ := gd_ok hf
    cases hf
    exact G.zret C rfl (z01_n c25) dX5_draftJoined_154
  have hj70 : ∀ (hh : PH) (x0 : Nat) (x1 : Nat) (x2 : Nat) (x3 : Int32), f_X5_draftJoined_J70 hh (x0) (x1) (x2) (x3) = some r → G p l e ({ frames := 3, cells := 0, slots := 0, locals := 71 } : Room) s m args below meth c 7 g X h 0 0 (MQ below (QW g X h s.heap.size (some (.int r.1)) r.2) args s 0 0 (AF X h s.heap.size)) 70 [(0, .ref (x0)), (1, .ref (x1)), (2, .ref (x2)), (3, .int (x3))] [] hh := by
    intro hh x0 x1 x2 x3 hf
    unfold f_X5_draftJoined_J70 at hf
    refine G.iconst (v := 0) C dX5_draftJoined_70 (by decide) ?_
    refine G.istore (lv' := [(4, .int ((0 : Int32))), (0, .ref (x0)), (1, .ref (x1)), (2, .ref (x2)), (3, .int (x3))]) C dX5_draftJoined_71 (by decide) rfl ?_
    obtain ⟨z26, hlp26, hfo26⟩ := bind_some hf
    clear hf
    have hloop26 : ∀ (k : Nat), ∀ (x3 : Int32) (x4 : Int32) (hh : PH), (lpn (f_X5_draftJoined_L73 (x0) (x1) (x2)) k (x3, x4, hh)) = some z26 → G p l e ({ frames := 3, cells := 0, slots := 0, locals := 71 } : Room) s m args below meth c 7 g X h 0 0 (MQ below (QW g X h s.heap.size (some (.int r.1)) r.2) args s 0 0 (AF X h s.heap.size)) 73 [(0, .ref (x0)), (1, .ref (x1)), (2, .ref (x2)), (3, .int (x3)), (4, .int (x4))] [] hh := by
      intro k
      induction k with
      | zero => intro x3 x4 hh hlp26; exact (lpn_0 hlp26).elim
      | succ k ih26 =>
        intro x3 x4 hh hlp26
        obtain ⟨y26, hf, hlp26⟩ := lpn_s hlp26
        unfold f_X5_draftJoined_L73 at hf
        try dsimp only at hf
        have hj147 : ∀ (hh : PH) (x3 : Int32) (x4 : Int32), f_X5_draftJoined_J147 hh (x0) (x1) (x2) (x3) (x4) = some y26 → G p l e ({ frames := 3, cells := 0, slots := 0, locals := 71 } : Room) s m args below meth c 7 g X h 0 0 (MQ below (QW g X h s.heap.size (some (.int r.1)) r.2) args s 0 0 (AF X h s.heap.size)) 147 [(0, .ref (x0)), (1, .ref (x1)), (2, .ref (x2)), (3, .int (x3)), (4, .int (x4))] [] hh := by
          intro hh x3 x4 hf
          unfold f_X5_draftJoined_J147 at hf
          refine G.iinc (k := 4) (v := (x4 + 1)) (lv' := [(4, .int ((x4 + 1))), (0, .ref (x0)), (1, .ref (x1)), (2, .ref (x2)), (3, .int (x3))]) C dX5_draftJoined_147 rfl rfl (by decide) rfl ?_
          refine G.goto (tgt := 73) C dX5_draftJoined_150 (by decide) ?_
          cases hf
          refine G.sub C [1, 2, 3, 4, 0] (lv' := [(0, .ref (x0)), (1, .ref (x1)), (2, .ref (x2)), (3, .int (x3)), (4, .int ((x4 + 1)))]) rfl ?_
          exact ih26 _ _ _ hlp26
        have hj146 : ∀ (hh : PH) (x4 : Int32) (k0 : Int32), f_X5_draftJoined_J146 hh (x0) (x1) (x2) (x4) k0 = some y26 → G p l e ({ frames := 3, cells := 0, slots := 0, locals := 71 } : Room) s m args below meth c 7 g X h 0 0 (MQ below (QW g X h s.heap.size (some (.int r.1)) r.2) args s 0 0 (AF X h s.heap.size)) 146 [(0, .ref (x0)), (1, .ref (x1)), (2, .ref (x2)), (4, .int (x4))] [.int (k0)] hh := by
          intro hh x4 k0 hf
          unfold f_X5_draftJoined_J146 at hf
          refine G.istore_n (lv' := [(3, .int (k0)), (0, .ref (x0)), (1, .ref (x1)), (2, .ref (x2)), (4, .int (x4))]) C dX5_draftJoined_146 rfl (by decide) rfl ?_
          refine G.sub C [1, 2, 3, 0, 4] (lv' := [(0, .ref (x0)), (1, .ref (x1)), (2, .ref (x2)), (3, .int (k0)), (4, .int (x4))]) rfl ?_
          exact hj147 _ _ _ hf
        have hj145 : ∀ (hh : PH) (x4 : Int32), f_X5_draftJoined_J145 hh (x0) (x1) (x2) (x4) = some y26 → G p l e ({ frames := 3, cells := 0, slots := 0, locals := 71 } : Room) s m args below meth c 7 g X h 0 0 (MQ below (QW g X h s.heap.size (some (.int r.1)) r.2) args s 0 0 (AF X h s.heap.size)) 145 [(0, .ref (x0)), (1, .ref (x1)), (2, .ref (x2)), (4, .int (x4))] [] hh := by
          intro hh x4 hf
          unfold f_X5_draftJoined_J145 at hf
          refine G.iconst (v := 0) C dX5_draftJoined_145 (by decide) ?_
          refine G.sub C [0, 1, 2, 3] (lv' := [(0, .ref (x0)), (1, .ref (x1)), (2, .ref (x2)), (4, .int (x4))]) rfl ?_
          exact hj146 _ _ _ hf
        refine G.iload C 4 dX5_draftJoined_73 rfl ?_
        refine G.aload_n C 2 dX5_draftJoined_75 rfl rfl ?_
        obtain ⟨v27, hv27, hf⟩ := bind_some hf
        try dsimp only at hf
        refine G.callV C (st := [.int (x4)]) (st2 := [.int (v27), .int (x4)]) (ct_X2_hueCount hv27) (ko_X2_hueCount hv27) rfl m9_362 m9_363 m9_364 m9_28 m9_365 kd_X2_hueCount ⟨Nat.le_of_ble_eq_true rfl, Nat.le_of_ble_eq_true rfl⟩ ⟨Nat.zero_le _, Nat.zero_le _⟩ (Nat.le_of_ble_eq_true rfl) rfl rfl dX5_draftJoined_76 ?_
        refine G.icmp_ge (tgt := 153) C dX5_draftJoined_79 (by decide) hf (fun c41 hf => ?_) (fun c41 hf => ?_)
        · cases hf
          change some _ = some _ at hlp26
          have hf := hfo26
          try rw [← Option.some.inj hlp26] at hf
          try dsimp only at hf
          refine G.sub C [3] (lv' := [(3, .int (x3))]) rfl ?_
          exact hj153 _ _ hf
        · refine G.aload_n C 2 dX5_draftJoined_82 rfl rfl ?_
          refine G.iload C 4 dX5_draftJoined_83 rfl ?_
          obtain ⟨v28, hv28, hf⟩ := bind_some hf
          try dsimp only at hf
          refine G.callV C (st := []) (st2 := [.int (v28)]) (ct_X2_hueAt hv28) (ko_X2_hueAt hv28) rfl m9_366 m9_367 m9_368 m9_28 m9_369 kd_X2_hueAt ⟨Nat.le_of_ble_eq_true rfl, Nat.le_of_ble_eq_true rfl⟩ ⟨Nat.zero_le _, Nat.zero_le _⟩ (Nat.le_of_ble_eq_true rfl) rfl rfl dX5_draftJoined_85 ?_
          refine G.istore (lv' := [(5, .int (v28)), (0, .ref (x0)), (1, .ref (x1)), (2, .ref (x2)), (3, .int (x3)), (4, .int (x4))]) C dX5_draftJoined_88 (by decide) rfl ?_
          refine G.aload_n C 2 dX5_draftJoined_90 rfl rfl ?_
          refine G.iload C 0 dX5_draftJoined_91 rfl ?_
          obtain ⟨v29, hv29, hf⟩ := bind_some hf
          try dsimp only at hf
          refine G.callV C (st := []) (st2 := [.int (v29)]) (ct_X2_orderOf hv29) (ko_X2_orderOf hv29) rfl m9_322 m9_106 m9_107 m9_28 m9_108 kd_X2_orderOf ⟨Nat.le_of_ble_eq_true rfl, Nat.le_of_ble_eq_true rfl⟩ ⟨Nat.zero_le _, Nat.zero_le _⟩ (Nat.le_of_ble_eq_true rfl) rfl rfl dX5_draftJoined_93 ?_
          refine G.iconst (v := (-1)) C dX5_draftJoined_96 (by decide) ?_
          refine G.icmp_ne (tgt := 147) C dX5_draftJoined_97 (by decide) hf (fun c40 hf => ?_) (fun c40 hf => ?_)
          · refine G.sub C [1, 2, 3, 4, 5] (lv' := [(0, .ref (x0)), (1, .ref (x1)), (2, .ref (x2)), (3, .int (x3)), (4, .int (x4))]) rfl ?_
            exact hj147 _ _ _ hf
          · refine G.aload_n C 2 dX5_draftJoined_100 rfl rfl ?_
            obtain ⟨v30, hv30, hf⟩ := bind_some hf
            try dsimp only at hf
            refine G.callV C (st := []) (st2 := [.int (v30)]) (ct_X2_length hv30) (ko_X2_length hv30) rfl m9_354 m9_355 m9_356 m9_28 m9_357 kd_X2_length ⟨Nat.le_of_ble_eq_true rfl, Nat.le_of_ble_eq_true rfl⟩ ⟨Nat.zero_le _, Nat.zero_le _⟩ (Nat.le_of_ble_eq_true rfl) rfl rfl dX5_draftJoined_101 ?_
            refine G.aload_n C 3 dX5_draftJoined_104 rfl rfl ?_
            refine G.iload C 0 dX5_draftJoined_105 rfl ?_
            refine G.iconst (v := 0) C dX5_draftJoined_107 (by decide) ?_
            obtain ⟨v31, hv31, hf⟩ := bind_some hf
            try dsimp only at hf
            refine G.callV C (st := [.int (v30)]) (st2 := [.int (v31), .int (v30)]) (ct_X2_firstFrom hv31) (ko_X2_firstFrom hv31) rfl m9_370 m9_371 m9_372 m9_28 m9_373 kd_X2_firstFrom ⟨Nat.le_of_ble_eq_true rfl, Nat.le_of_ble_eq_true rfl⟩ ⟨Nat.zero_le _, Nat.zero_le _⟩ (Nat.le_of_ble_eq_true rfl) rfl rfl dX5_draftJoined_108 ?_
            refine G.iadd C dX5_draftJoined_111 ?_
            refine G.istore (lv' := [(6, .int ((v30 + v31))), (5, .int (v28)), (0, .ref (x0)), (1, .ref (x1)), (2, .ref (x2)), (3, .int (x3)), (4, .int (x4))]) C dX5_draftJoined_112 (by decide) rfl ?_
            refine G.aload_n C 2 dX5_draftJoined_114 rfl rfl ?_
            refine G.iload C 1 dX5_draftJoined_115 rfl ?_
            refine G.iload C 0 dX5_draftJoined_117 rfl ?_
            refine G.aload_n C 2 dX5_draftJoined_119 rfl rfl ?_
            refine G.getR (ci := 4) (k := 0) C rfl inlX5 (by decide) m9_16 rfl hf dX5_draftJoined_120 (fun v32 hv32 hf => ?_)
            try dsimp only at hf
            refine G.iload C 1 dX5_draftJoined_123 rfl ?_
            obtain ⟨v33, hv33, hf⟩ := bind_some hf
            try dsimp only at hf
            refine G.callV C (st := [.int ((v30 + v31)), .int (v28), .ref (x0)]) (st2 := [.int (v33), .int ((v30 + v31)), .int (v28), .ref (x0)]) (ct_X3_gapAt hv33) (ko_X3_gapAt hv33) rfl m9_129 m9_130 m9_131 m9_15 m9_132 kd_X3_gapAt ⟨Nat.le_of_ble_eq_true rfl, Nat.le_of_ble_eq_true rfl⟩ ⟨Nat.zero_le _, Nat.zero_le _⟩ (Nat.le_of_ble_eq_true rfl) rfl rfl dX5_draftJoined_125 ?_
            obtain ⟨v34, hv34, hf⟩ := bind_some hf
            try dsimp only at hf
            refine G.callS C (st := [.int (v28), .ref (x0)]) (st2 := [.int (v34), .int (v28), .ref (x0)]) (ct_X1_remainder hv34) m9_374 m9_375 m9_376 m9_377 kd_X1_remainder ⟨Nat.le_of_ble_eq_true rfl, Nat.le_of_ble_eq_true rfl⟩ ⟨Nat.zero_le _, Nat.zero_le _⟩ (Nat.le_of_ble_eq_true rfl) rfl rfl dX5_draftJoined_128 ?_
            obtain ⟨⟨v35, h36⟩, hv35, hf⟩ := bind_some hf
            try dsimp only at hf
            refine G.callV C (st := []) (st2 := [.int (v35)]) (ct_X5_draftLaid hv35) (ko_X5_draftLaid hv35) rfl m9_470 m9_471 m9_472 m9_2 m9_473 kd_X5_draftLaid ⟨Nat.le_of_ble_eq_true rfl, Nat.le_of_ble_eq_true rfl⟩ ⟨Nat.zero_le _, Nat.zero_le _⟩ (Nat.le_of_ble_eq_true rfl) rfl rfl dX5_draftJoined_131 ?_
            refine G.if_eq (tgt := 145) C dX5_draftJoined_134 (by decide) hf (fun c39 hf => ?_) (fun c39 hf => ?_)
            · refine G.sub C [2, 3, 4, 6] (lv' := [(0, .ref (x0)), (1, .ref (x1)), (2, .ref (x2)), (4, .int (x4))]) rfl ?_
              exact hj145 _ _ hf
            · refine G.iload_n C 5 dX5_draftJoined_137 rfl rfl ?_
              refine G.if_eq (tgt := 145) C dX5_draftJoined_138 (by decide) hf (fun c38 hf => ?_) (fun c38 hf => ?_)
              · refine G.sub C [2, 3, 4, 6] (lv' := [(0, .ref (x0)), (1, .ref (x1)), (2, .ref (x2)), (4, .int (x4))]) rfl ?_
                exact hj145 _ _ hf
              · refine G.iconst (v := 1) C dX5_draftJoined_141 (by decide) ?_
                refine G.goto (tgt := 146) C dX5_draftJoined_142 (by decide) ?_
                refine G.sub C [2, 3, 4, 6] (lv' := [(0, .ref (x0)), (1, .ref (x1)), (2, .ref (x2)), (4, .int (x4))]) rfl ?_
                exact hj146 _ _ _ hf
    refine G.sub C [1, 2, 3, 4, 0] (lv' := [(0, .ref (x0)), (1, .ref (x1)), (2, .ref (x2)), (3, .int (x3)), (4, .int ((0 : Int32)))]) rfl ?_
    exact hloop26 LF _ _ _ hlp26
  refine G.sub C [0, 1, 2] (lv' := [(0, .ref (a0)), (1, .ref (a1)), (2, .ref (a2))]) rfl ?_
  refine G.aload_n C 0 dX5_draftJoined_0 rfl rfl ?_
  refine G.getR (ci := 4) (k := 4) C rfl inlX5 (by decide) m9_29 rfl hf dX5_draftJoined_1 (fun v1 hv1 hf => ?_)
  try dsimp only at hf
  refine G.aload_n C 1 dX5_draftJoined_4 rfl rfl ?_
  obtain ⟨v2, hv2, hf⟩ := bind_some hf
  try dsimp only at hf
  refine G.callV C (st := [.ref (v1)]) (st2 := [.int (v2), .ref (v1)]) (ct_X2_length hv2) (ko_X2_length hv2) rfl m9_354 m9_355 m9_356 m9_28 m9_357 kd_X2_length ⟨Nat.le_of_ble_eq_true rfl, Nat.le_of_ble_eq_true rfl⟩ ⟨Nat.zero_le _, Nat.zero_le _⟩ (Nat.le_of_ble_eq_true rfl) rfl rfl dX5_draftJoined_5 ?_
  refine G.aload_n C 2 dX5_draftJoined_8 rfl rfl ?_
  obtain ⟨v3, hv3, hf⟩ := bind_some hf
  try dsimp only at hf
  refine G.callV C (st := [.int (v2), .ref (v1)]) (st2 := [.int (v3), .int (v2), .ref (v1)]) (ct_X2_length hv3) (ko_X2_length hv3) rfl m9_354 m9_355 m9_356 m9_28 m9_357 kd_X2_length ⟨Nat.le_of_ble_eq_true rfl, Nat.le_of_ble_eq_true rfl⟩ ⟨Nat.zero_le _, Nat.zero_le _⟩ (Nat.le_of_ble_eq_true rfl) rfl rfl dX5_draftJoined_9 ?_
  refine G.iadd C dX5_draftJoined_12 ?_
  obtain ⟨h4, hh4, hf⟩ := bind_some hf
  try dsimp only at hf
  refine G.callV C (st := []) (st2 := []) (ct_X2_begin hh4) (ko_X2_begin hh4) rfl m9_382 m9_200 m9_201 m9_28 m9_202 kd_X2_begin ⟨Nat.le_of_ble_eq_true rfl, Nat.le_of_ble_eq_true rfl⟩ ⟨Nat.zero_le _, Nat.zero_le _⟩ (Nat.le_of_ble_eq_true rfl) rfl rfl dX5_draftJoined_13 ?_
  refine G.iconst (v := 1) C dX5_draftJoined_16 (by decide) ?_
  refine G.istore_n (lv' := [(3, .int ((1 : Int32))), (0, .ref (a0)), (1, .ref (a1)), (2, .ref (a2))]) C dX5_draftJoined_17 rfl (by decide) rfl ?_
  refine G.iconst (v := 0) C dX5_draftJoined_18 (by decide) ?_
  refine G.istore (lv' := [(4, .int ((0 : Int32))), (3, .int ((1 : Int32))), (0, .ref (a0)), (1, .ref (a1)), (2, .ref (a2))]) C dX5_draftJoined_19 (by decide) rfl ?_
  obtain ⟨z5, hlp5, hfo5⟩ := bind_some hf
  clear hf
  have hloop5 : ∀ (k : Nat), ∀ (x3 : Int32) (x4 : Int32) (hh : PH), (lpn (f_X5_draftJoined_L21 (a0) (a1) (a2)) k (x3, x4, hh)) = some z5 → G p l e ({ frames := 3, cells := 0, slots := 0, locals := 71 } : Room) s m args below meth c 7 g X h 0 0 (MQ below (QW g X h s.heap.size (some (.int r.1)) r.2) args s 0 0 (AF X h s.heap.size)) 21 [(0, .ref (a0)), (1, .ref (a1)), (2, .ref (a2)), (3, .int (x3)), (4, .int (x4))] [] hh := by
    intro k
    induction k with
    | zero => intro x3 x4 hh hlp5; exact (lpn_0 hlp5).elim
    | succ k ih5 =>
      intro x3 x4 hh hlp5
      obtain ⟨y5, hf, hlp5⟩ := lpn_s hlp5
      unfold f_X5_draftJoined_L21 at hf
      try dsimp only at hf
      have hj63 : ∀ (hh : PH) (x4 : Int32) (k0 : Int32), f_X5_draftJoined_J63 hh (a0) (a1) (a2) (x4) k0 = some y5 → G p l e ({ frames := 3, cells := 0, slots := 0, locals := 71 } : Room) s m args below meth c 7 g X h 0 0 (MQ below (QW g X h s.heap.size (some (.int r.1)) r.2) args s 0 0 (AF X h s.heap.size)) 63 [(0, .ref (a0)), (1, .ref (a1)), (2, .ref (a2)), (4, .int (x4))] [.int (k0)] hh := by
        intro hh x4 k0 hf
        unfold f_X5_draftJoined_J63 at hf
        refine G.istore_n (lv' := [(3, .int (k0)), (0, .ref (a0)), (1, .ref (a1)), (2, .ref (a2)), (4, .int (x4))]) C dX5_draftJoined_63 rfl (by decide) rfl ?_
        refine G.iinc (k := 4) (v := (x4 + 1)) (lv' := [(4, .int ((x4 + 1))), (3, .int (k0)), (0, .ref (a0)), (1, .ref (a1)), (2, .ref (a2))]) C dX5_draftJoined_64 rfl rfl (by decide) rfl ?_
        refine G.goto (tgt := 21) C dX5_draftJoined_67 (by decide) ?_
        cases hf
        refine G.sub C [2, 3, 4, 1, 0] (lv' := [(0, .ref (a0)), (1, .ref (a1)), (2, .ref (a2)), (3, .int (k0)), (4, .int ((x4 + 1)))]) rfl ?_
        exact ih5 _ _ _ hlp5
      have hj62 : ∀ (hh : PH) (x4 : Int32), f_X5_draftJoined_J62 hh (a0) (a1) (a2) (x4) = some y5 → G p l e ({ frames := 3, cells := 0, slots := 0, locals := 71 } : Room) s m args below meth c 7 g X h 0 0 (MQ below (QW g X h s.heap.size (some (.int r.1)) r.2) args s 0 0 (AF X h s.heap.size)) 62 [(0, .ref (a0)), (1, .ref (a1)), (2, .ref (a2)), (4, .int (x4))] [] hh := by
        intro hh x4 hf
        unfold f_X5_draftJoined_J62 at hf
        refine G.iconst (v := 0) C dX5_draftJoined_62 (by decide) ?_
        refine G.sub C [0, 1, 2, 3] (lv' := [(0, .ref (a0)), (1, .ref (a1)), (2, .ref (a2)), (4, .int (x4))]) rfl ?_
        exact hj63 _ _ _ hf
      refine G.iload C 4 dX5_draftJoined_21 rfl ?_
      refine G.aload_n C 1 dX5_draftJoined_23 rfl rfl ?_
      obtain ⟨v6, hv6, hf⟩ := bind_some hf
      try dsimp only at hf
      refine G.callV C (st := [.int (x4)]) (st2 := [.int (v6), .int (x4)]) (ct_X2_hueCount hv6) (ko_X2_hueCount hv6) rfl m9_362 m9_363 m9_364 m9_28 m9_365 kd_X2_hueCount ⟨Nat.le_of_ble_eq_true rfl, Nat.le_of_ble_eq_true rfl⟩ ⟨Nat.zero_le _, Nat.zero_le _⟩ (Nat.le_of_ble_eq_true rfl) rfl rfl dX5_draftJoined_24 ?_
      refine G.icmp_ge (tgt := 70) C dX5_draftJoined_27 (by decide) hf (fun c14 hf => ?_) (fun c14 hf => ?_)
      · cases hf
        change some _ = some _ at hlp5
        have hf := hfo5
        try rw [← Option.some.inj hlp5] at hf
        try dsimp only at hf
        refine G.sub C [0, 1, 2, 3] (lv' := [(0, .ref (a0)), (1, .ref (a1)), (2, .ref (a2)), (3, .int (x3))]) rfl ?_
        exact hj70 _ _ _ _ _ hf
      · refine G.aload_n C 1 dX5_draftJoined_30 rfl rfl ?_
        refine G.iload C 4 dX5_draftJoined_31 rfl ?_
        obtain ⟨v7, hv7, hf⟩ := bind_some hf
        try dsimp only at hf
        refine G.callV C (st := []) (st2 := [.int (v7)]) (ct_X2_hueAt hv7) (ko_X2_hueAt hv7) rfl m9_366 m9_367 m9_368 m9_28 m9_369 kd_X2_hueAt ⟨Nat.le_of_ble_eq_true rfl, Nat.le_of_ble_eq_true rfl⟩ ⟨Nat.zero_le _, Nat.zero_le _⟩ (Nat.le_of_ble_eq_true rfl) rfl rfl dX5_draftJoined_33 ?_
        refine G.istore (lv' := [(5, .int (v7)), (0, .ref (a0)), (1, .ref (a1)), (2, .ref (a2)), (3, .int (x3)), (4, .int (x4))]) C dX5_draftJoined_36 (by decide) rfl ?_
        refine G.aload_n C 1 dX5_draftJoined_38 rfl rfl ?_
        refine G.iload C 0 dX5_draftJoined_39 rfl ?_
        refine G.aload_n C 2 dX5_draftJoined_41 rfl rfl ?_
        refine G.iload C 0 dX5_draftJoined_42 rfl ?_
        refine G.iconst (v := 0) C dX5_draftJoined_44 (by decide) ?_
        obtain ⟨v8, hv8, hf⟩ := bind_some hf
        try dsimp only at hf
        refine G.callV C (st := [.int (v7), .ref (a0)]) (st2 := [.int (v8), .int (v7), .ref (a0)]) (ct_X2_firstFrom hv8) (ko_X2_firstFrom hv8) rfl m9_370 m9_371 m9_372 m9_28 m9_373 kd_X2_firstFrom ⟨Nat.le_of_ble_eq_true rfl, Nat.le_of_ble_eq_true rfl⟩ ⟨Nat.zero_le _, Nat.zero_le _⟩ (Nat.le_of_ble_eq_true rfl) rfl rfl dX5_draftJoined_45 ?_
        obtain ⟨⟨v9, h10⟩, hv9, hf⟩ := bind_some hf
        try dsimp only at hf
        refine G.callV C (st := []) (st2 := [.int (v9)]) (ct_X5_draftLaid hv9) (ko_X5_draftLaid hv9) rfl m9_470 m9_471 m9_472 m9_2 m9_473 kd_X5_draftLaid ⟨Nat.le_of_ble_eq_true rfl, Nat.le_of_ble_eq_true rfl⟩ ⟨Nat.zero_le _, Nat.zero_le _⟩ (Nat.le_of_ble_eq_true rfl) rfl rfl dX5_draftJoined_48 ?_
        refine G.if_eq (tgt := 62) C dX5_draftJoined_51 (by decide) hf (fun c13 hf => ?_) (fun c13 hf => ?_)
        · refine G.sub C [1, 2, 3, 5] (lv' := [(0, .ref (a0)), (1, .ref (a1)), (2, .ref (a2)), (4, .int (x4))]) rfl ?_
          exact hj62 _ _ hf
        · refine G.iload_n C 4 dX5_draftJoined_54 rfl rfl ?_
          refine G.if_eq (tgt := 62) C dX5_draftJoined_55 (by decide) hf (fun c12 hf => ?_) (fun c12 hf => ?_)
          · refine G.sub C [1, 2, 3, 5] (lv' := [(0, .ref (a0)), (1, .ref (a1)), (2, .ref (a2)), (4, .int (x4))]) rfl ?_
            exact hj62 _ _ hf
          · refine G.iconst (v := 1) C dX5_draftJoined_58 (by decide) ?_
            refine G.goto (tgt := 63) C dX5_draftJoined_59 (by decide) ?_
            refine G.sub C [1, 2, 3, 5] (lv' := [(0, .ref (a0)), (1, .ref (a1)), (2, .ref (a2)), (4, .int (x4))]) rfl ?_
            exact hj63 _ _ _ hf
  refine G.sub C [2, 3, 4, 1, 0] (lv' := [(0, .ref (a0)), (1, .ref (a1)), (2, .ref (a2)), (3, .int ((1 : Int32))), (4, .int ((0 : Int32)))]) rfl ?_
  exact hloop5 LF _ _ _ hlp5
theorem ko_X5_reasonAgainstJoining {h : PH} {a0 : Nat} {a1 : Nat} {a2 : Nat} {r : (Int32 × PH)} (hf : f_X5_reasonAgainstJoining h a0 a1 a2 = some r) : kO h a0 4 := by
  unfold f_X5_reasonAgainstJoining at hf
  exact okO_k (gd_ok hf).1
theorem kd_X5_reasonAgainstJoining : yX5_reasonAgainstJoining.cls = RX5 ∧ yX5_reasonAgainstJoining.cls ≠ "java/lang/invoke/MethodHandle" ∧ yX5_reasonAgainstJoining.cls ≠ "java/lang/invoke/VarHandle" ∧ (parseMethodDescriptor yX5_reasonAgainstJoining.desc).map (fun d => d.parameters.length) = some 2 := by decide +kernel
set_option maxRecDepth 20000 in
set_option maxHeartbeats 4000000 in
theorem ct_X5_reasonAgainstJoining {l : Launch} {h : PH} {a0 : Nat} {a1 : Nat} {a2 : Nat} {r : (Int32 × PH)} (hf : f_X5_reasonAgainstJoining h a0 a1 a2 = some r) : CT l yX5_reasonAgainstJoining cX5_reasonAgainstJoining 6 (some .int) 4 97 [.ref (a0), .ref (a1), .ref (a2)] h (some (.int r.1)) r.2 := by
  refine CT.of (own := RX5) rfl (by decide) (Nat.le_of_ble_eq_true rfl) ?_
  intro p e R s m args below meth c g X hR C
  subst hR
  unfold f_X5_reasonAgainstJoining at hf
  obtain ⟨hok, hf⟩ := gd_ok hf
  have hj78 : f_X5_reasonAgainstJoining_J78 h = some r → G p l e ({ frames := 4, cells := 0, slots := 0, locals := 97 } : Room) s m args below meth c 6 g X h 0 0 (MQ below (QW g X h s.heap.size (some (.int r.1)) r.2) args s 0 0 (AF X h s.heap.size)) 78 [] [] h := by
    intro hf
    unfold f_X5_reasonAgainstJoining_J78 at hf
    refine G.iconst (v := 3) C dX5_reasonAgainstJoining_78 (by decide) ?_
    cases hf
    exact G.iret C rfl dX5_reasonAgainstJoining_79
  have hj100 : ∀ (hh : PH) (k0 : Int32), f_X5_reasonAgainstJoining_J100 hh k0 = some r → G p l e ({ frames := 4, cells := 0, slots := 0, locals := 97 } : Room) s m args below meth c 6 g X h 0 0 (MQ below (QW g X h s.heap.size (some (.int r.1)) r.2) args s 0 0 (AF X h s.heap.size)) 100 [] [.int (k0)] hh := by
    intro hh k0 hf
    unfold f_X5_reasonAgainstJoining_J100 at hf
    cases hf
    exact G.iret C rfl dX5_reasonAgainstJoining_100
  have hj86 : ∀ (x0 : Nat) (x1 : Nat) (x2 : Nat), f_X5_reasonAgainstJoining_J86 h (x0) (x1) (x2) = some r → G p l e ({ frames := 4, cells := 0, slots := 0, locals := 97 } : Room) s m args below meth c 6 g X h 0 0 (MQ below (QW g X h s.heap.size (some (.int r.1)) r.2) args s 0 0 (AF X h s.heap.size)) 86 [(0, .ref (x0)), (1, .ref (x1)), (2, .ref (x2))] [] h := by
    intro x0 x1 x2 hf
    unfold f_X5_reasonAgainstJoining_J86 at hf
    refine G.aload_n C 0 dX5_reasonAgainstJoining_86 rfl rfl ?_
    refine G.aload_n C 1 dX5_reasonAgainstJoining_87 rfl rfl ?_
    refine G.aload_n C 2 dX5_reasonAgainstJoining_88 rfl rfl ?_
    obtain ⟨⟨v15, h16⟩, hv15, hf⟩ := bind_some hf
    try dsimp only at hf
    refine G.callV C (st := []) (st2 := [.int (v15)]) (ct_X5_draftJoined hv15) (ko_X5_draftJoined hv15) rfl m9_466 m9_467 m9_468 m9_2 m9_469 kd_X5_draftJoined ⟨Nat.le_of_ble_eq_true rfl, Nat.le_of_ble_eq_true rfl⟩ ⟨Nat.zero_le _, Nat.zero_le _⟩ (Nat.le_of_ble_eq_true rfl) rfl rfl dX5_reasonAgainstJoining_89 ?_
    refine G.if_eq (tgt := 99) C dX5_reasonAgainstJoining_92 (by decide) hf (fun c18 hf => ?_) (fun c18 hf => ?_)
    · refine G.iconst (v := 4) C dX5_reasonAgainstJoining_99 (by decide) ?_
      refine G.sub C [] (lv' := []) rfl ?_
      exact hj100 _ _ hf
    · refine G.iconst (v := 0) C dX5_reasonAgainstJoining_95 (by decide) ?_
      refine G.goto (tgt := 100) C dX5_reasonAgainstJoining_96 (by decide) ?_
      refine G.sub C [] (lv' := []) rfl ?_
      exact hj100 _ _ hf
  refine G.sub C [0, 1, 2] (lv' := [(0, .ref (a0)), (1, .ref (a1)), (2, .ref (a2))]) rfl ?_
  refine G.aload_n C 1 dX5_reasonAgainstJoining_0 rfl rfl ?_
  obtain ⟨v1, hv1, hf⟩ := bind_some hf
  try dsimp only at hf
  refine G.callV C (st := []) (st2 := [.int (v1)]) (ct_X2_length hv1) (ko_X2_length hv1) rfl m9_354 m9_355 m9_356 m9_28 m9_357 kd_X2_length ⟨Nat.le_of_ble_eq_true rfl, Nat.le_of_ble_eq_true rfl⟩ ⟨Nat.zero_le _, Nat.zero_le _⟩ (Nat.le_of_ble_eq_true rfl) rfl rfl dX5_reasonAgainstJoining_1 ?_
  refine G.aload_n C 2 dX5_reasonAgainstJoining_4 rfl rfl ?_
  obtain ⟨v2, hv2, hf⟩ := bind_some hf
  try dsimp only at hf
  refine G.callV C (st := [.int (v1)]) (st2 := [.int (v2), .int (v1)]) (ct_X2_length hv2) (ko_X2_length hv2) rfl m9_354 m9_355 m9_356 m9_28 m9_357 kd_X2_length ⟨Nat.le_of_ble_eq_true rfl, Nat.le_of_ble_eq_true rfl⟩ ⟨Nat.zero_le _, Nat.zero_le _⟩ (Nat.le_of_ble_eq_true rfl) rfl rfl dX5_reasonAgainstJoining_5 ?_
  refine G.iadd C dX5_reasonAgainstJoining_8 ?_
  refine G.bipush (v := 60) C dX5_reasonAgainstJoining_9 (by decide) ?_
  refine G.icmp_le (tgt := 16) C dX5_reasonAgainstJoining_11 (by decide) hf (fun c15 hf => ?_) (fun c15 hf => ?_)
  · refine G.iconst (v := 0) C dX5_reasonAgainstJoining_16 (by decide) ?_
    refine G.istore_n (lv' := [(3, .int ((0 : Int32))), (0, .ref (a0)), (1, .ref (a1)), (2, .ref (a2))]) C dX5_reasonAgainstJoining_17 rfl (by decide) rfl ?_
    obtain ⟨z3, hlp3, hfo3⟩ := bind_some hf
    clear hf
    have hloop3 : ∀ (k : Nat), ∀ (x3 : Int32), (lpn (f_X5_reasonAgainstJoining_L18 (h) (a0) (a1) (a2)) k (x3)) = some z3 → G p l e ({ frames := 4, cells := 0, slots := 0, locals := 97 } : Room) s m args below meth c 6 g X h 0 0 (MQ below (QW g X h s.heap.size (some (.int r.1)) r.2) args s 0 0 (AF X h s.heap.size)) 18 [(0, .ref (a0)), (1, .ref (a1)), (2, .ref (a2)), (3, .int (x3))] [] h := by
      intro k
      induction k with
      | zero => intro x3 hlp3; exact (lpn_0 hlp3).elim
      | succ k ih3 =>
        intro x3 hlp3
        obtain ⟨y3, hf, hlp3⟩ := lpn_s hlp3
        unfold f_X5_reasonAgainstJoining_L18 at hf
        try dsimp only at hf
        have hj80 : ∀ (x3 : Int32), f_X5_reasonAgainstJoining_J80 h (a0) (a1) (a2) (x3) = some y3 → G p l e ({ frames := 4, cells := 0, slots := 0, locals := 97 } : Room) s m args below meth c 6 g X h 0 0 (MQ below (QW g X h s.heap.size (some (.int r.1)) r.2) args s 0 0 (AF X h s.heap.size)) 80 [(0, .ref (a0)), (1, .ref (a1)), (2, .ref (a2)), (3, .int (x3))] [] h := by
          intro x3 hf
          unfold f_X5_reasonAgainstJoining_J80 at hf
          refine G.iinc (k := 3) (v := (x3 + 1)) (lv' := [(3, .int ((x3 + 1))), (0, .ref (a0)), (1, .ref (a1)), (2, .ref (a2))]) C dX5_reasonAgainstJoining_80 rfl rfl (by decide) rfl ?_
          refine G.goto (tgt := 18) C dX5_reasonAgainstJoining_83 (by decide) ?_
          cases hf
          refine G.sub C [1, 2, 3, 0] (lv' := [(0, .ref (a0)), (1, .ref (a1)), (2, .ref (a2)), (3, .int ((x3 + 1)))]) rfl ?_
          exact ih3 _ hlp3
        refine G.iload_n C 3 dX5_reasonAgainstJoining_18 rfl rfl ?_
        refine G.aload_n C 1 dX5_reasonAgainstJoining_19 rfl rfl ?_
        obtain ⟨v4, hv4, hf⟩ := bind_some hf
        try dsimp only at hf
        refine G.callV C (st := [.int (x3)]) (st2 := [.int (v4), .int (x3)]) (ct_X2_hueCount hv4) (ko_X2_hueCount hv4) rfl m9_362 m9_363 m9_364 m9_28 m9_365 kd_X2_hueCount ⟨Nat.le_of_ble_eq_true rfl, Nat.le_of_ble_eq_true rfl⟩ ⟨Nat.zero_le _, Nat.zero_le _⟩ (Nat.le_of_ble_eq_true rfl) rfl rfl dX5_reasonAgainstJoining_20 ?_
        refine G.icmp_ge (tgt := 86) C dX5_reasonAgainstJoining_23 (by decide) hf (fun c14 hf => ?_) (fun c14 hf => ?_)
        · cases hf
          change some _ = some _ at hlp3
          have hf := hfo3
          try rw [← Option.some.inj hlp3] at hf
          try dsimp only at hf
          refine G.sub C [0, 1, 2] (lv' := [(0, .ref (a0)), (1, .ref (a1)), (2, .ref (a2))]) rfl ?_
          exact hj86 _ _ _ hf
        · refine G.aload_n C 1 dX5_reasonAgainstJoining_26 rfl rfl ?_
          refine G.iload_n C 3 dX5_reasonAgainstJoining_27 rfl rfl ?_
          obtain ⟨v5, hv5, hf⟩ := bind_some hf
          try dsimp only at hf
          refine G.callV C (st := []) (st2 := [.int (v5)]) (ct_X2_hueAt hv5) (ko_X2_hueAt hv5) rfl m9_366 m9_367 m9_368 m9_28 m9_369 kd_X2_hueAt ⟨Nat.le_of_ble_eq_true rfl, Nat.le_of_ble_eq_true rfl⟩ ⟨Nat.zero_le _, Nat.zero_le _⟩ (Nat.le_of_ble_eq_true rfl) rfl rfl dX5_reasonAgainstJoining_28 ?_
          refine G.istore (lv' := [(4, .int (v5)), (0, .ref (a0)), (1, .ref (a1)), (2, .ref (a2)), (3, .int (x3))]) C dX5_reasonAgainstJoining_31 (by decide) rfl ?_
          refine G.aload_n C 2 dX5_reasonAgainstJoining_33 rfl rfl ?_
          refine G.iload C 0 dX5_reasonAgainstJoining_34 rfl ?_
          obtain ⟨v6, hv6, hf⟩ := bind_some hf
          try dsimp only at hf
          refine G.callV C (st := []) (st2 := [.int (v6)]) (ct_X2_lastOf hv6) (ko_X2_lastOf hv6) rfl m9_431 m9_432 m9_433 m9_28 m9_434 kd_X2_lastOf ⟨Nat.le_of_ble_eq_true rfl, Nat.le_of_ble_eq_true rfl⟩ ⟨Nat.zero_le _, Nat.zero_le _⟩ (Nat.le_of_ble_eq_true rfl) rfl rfl dX5_reasonAgainstJoining_36 ?_
          refine G.aload_n C 1 dX5_reasonAgainstJoining_39 rfl rfl ?_
          refine G.getR (ci := 4) (k := 0) C rfl inlX5 (by decide) m9_16 rfl hf dX5_reasonAgainstJoining_40 (fun v7 hv7 hf => ?_)
          try dsimp only at hf
          refine G.iload C 0 dX5_reasonAgainstJoining_43 rfl ?_
          obtain ⟨v8, hv8, hf⟩ := bind_some hf
          try dsimp only at hf
          refine G.callV C (st := [.int (v6)]) (st2 := [.int (v8), .int (v6)]) (ct_X3_gapAt hv8) (ko_X3_gapAt hv8) rfl m9_129 m9_130 m9_131 m9_15 m9_132 kd_X3_gapAt ⟨Nat.le_of_ble_eq_true rfl, Nat.le_of_ble_eq_true rfl⟩ ⟨Nat.zero_le _, Nat.zero_le _⟩ (Nat.le_of_ble_eq_true rfl) rfl rfl dX5_reasonAgainstJoining_45 ?_
          refine G.iadd C dX5_reasonAgainstJoining_48 ?_
          refine G.istore (lv' := [(5, .int ((v6 + v8))), (4, .int (v5)), (0, .ref (a0)), (1, .ref (a1)), (2, .ref (a2)), (3, .int (x3))]) C dX5_reasonAgainstJoining_49 (by decide) rfl ?_
          refine G.aload_n C 4 dX5_reasonAgainstJoining_51 rfl rfl ?_
          refine G.iload C 1 dX5_reasonAgainstJoining_52 rfl ?_
          obtain ⟨v9, hv9, hf⟩ := bind_some hf
          try dsimp only at hf
          refine G.callV C (st := []) (st2 := [.int (v9)]) (ct_X2_orderOf hv9) (ko_X2_orderOf hv9) rfl m9_322 m9_106 m9_107 m9_28 m9_108 kd_X2_orderOf ⟨Nat.le_of_ble_eq_true rfl, Nat.le_of_ble_eq_true rfl⟩ ⟨Nat.zero_le _, Nat.zero_le _⟩ (Nat.le_of_ble_eq_true rfl) rfl rfl dX5_reasonAgainstJoining_54 ?_
          refine G.iconst (v := (-1)) C dX5_reasonAgainstJoining_57 (by decide) ?_
          refine G.icmp_eq (tgt := 80) C dX5_reasonAgainstJoining_58 (by decide) hf (fun c13 hf => ?_) (fun c13 hf => ?_)
          · refine G.sub C [2, 3, 4, 5] (lv' := [(0, .ref (a0)), (1, .ref (a1)), (2, .ref (a2)), (3, .int (x3))]) rfl ?_
            exact hj80 _ hf
          · refine G.iload C 0 dX5_reasonAgainstJoining_61 rfl ?_
            refine G.aload_n C 3 dX5_reasonAgainstJoining_63 rfl rfl ?_
            obtain ⟨v10, hv10, hf⟩ := bind_some hf
            try dsimp only at hf
            refine G.callV C (st := [.int ((v6 + v8))]) (st2 := [.int (v10), .int ((v6 + v8))]) (ct_X2_length hv10) (ko_X2_length hv10) rfl m9_354 m9_355 m9_356 m9_28 m9_357 kd_X2_length ⟨Nat.le_of_ble_eq_true rfl, Nat.le_of_ble_eq_true rfl⟩ ⟨Nat.zero_le _, Nat.zero_le _⟩ (Nat.le_of_ble_eq_true rfl) rfl rfl dX5_reasonAgainstJoining_64 ?_
            refine G.aload_n C 4 dX5_reasonAgainstJoining_67 rfl rfl ?_
            refine G.iload C 1 dX5_reasonAgainstJoining_68 rfl ?_
            refine G.iconst (v := 0) C dX5_reasonAgainstJoining_70 (by decide) ?_
            obtain ⟨v11, hv11, hf⟩ := bind_some hf
            try dsimp only at hf
            refine G.callV C (st := [.int (v10), .int ((v6 + v8))]) (st2 := [.int (v11), .int (v10), .int ((v6 + v8))]) (ct_X2_firstFrom hv11) (ko_X2_firstFrom hv11) rfl m9_370 m9_371 m9_372 m9_28 m9_373 kd_X2_firstFrom ⟨Nat.le_of_ble_eq_true rfl, Nat.le_of_ble_eq_true rfl⟩ ⟨Nat.zero_le _, Nat.zero_le _⟩ (Nat.le_of_ble_eq_true rfl) rfl rfl dX5_reasonAgainstJoining_71 ?_
            refine G.iadd C dX5_reasonAgainstJoining_74 ?_
            refine G.icmp_eq (tgt := 80) C dX5_reasonAgainstJoining_75 (by decide) hf (fun c12 hf => ?_) (fun c12 hf => ?_)
            · refine G.sub C [2, 3, 4, 5] (lv' := [(0, .ref (a0)), (1, .ref (a1)), (2, .ref (a2)), (3, .int (x3))]) rfl ?_
              exact hj80 _ hf
            · cases hf
              change some _ = some _ at hlp3
              have hf := hfo3
              try rw [← Option.some.inj hlp3] at hf
              try dsimp only at hf
              refine G.sub C [] (lv' := []) rfl ?_
              exact hj78  hf
    refine G.sub C [1, 2, 3, 0] (lv' := [(0, .ref (a0)), (1, .ref (a1)), (2, .ref (a2)), (3, .int ((0 : Int32)))]) rfl ?_
    exact hloop3 LF _ hlp3
  · refine G.iconst (v := 2) C dX5_reasonAgainstJoining_14 (by decide) ?_
    cases hf
    exact G.iret C rfl dX5_reasonAgainstJoining_15
theorem ko_X5_join {h : PH} {a0 : Nat} {a1 : Int32} {a2 : Int32} {r : (Except (String × PH) (Int32 × PH))} (hf : f_X5_join h a0 a1 a2 = some r) : kO h a0 4 := by
  unfold f_X5_join at hf
  exact okO_k (gd_ok hf).1
theorem kd_X5_join : yX5_join.cls = RX5 ∧ yX5_join.cls ≠ "java/lang/invoke/MethodHandle" ∧ yX5_join.cls ≠ "java/lang/invoke/VarHandle" ∧ (parseMethodDescriptor yX5_join.desc).map (fun d => d.parameters.length) = some 2 := by decide +kernel
set_option maxRecDepth 20000 in
set_option maxHeartbeats 4000000 in
theorem cx_X5_join {l : Launch} {h : PH} {a0 : Nat} {a1 : Int32} {a2 : Int32} {r : (Except (String × PH) (Int32 × PH))} (hf : f_X5_join h a0 a1 a2 = some r) : CX l yX5_join cX5_join 5 (some .int) 7 122 [.ref (a0), .int (a1), .int (a2)] h (xIW r) := by
  refine CX.of (own := RX5) rfl (by decide) (Nat.le_of_ble_eq_true rfl) ?_
  intro p e R s m args below meth c g X hR C TT tab
  subst hR
  unfold f_X5_join at hf
  obtain ⟨hok, hf⟩ := gd_ok hf
  have hj28 : ∀ (hh : PH), f_X5_join_J28 hh = some r → G p l e ({ frames := 7, cells := cN (xIW r), slots := cS (xIW r), locals := 122 } : Room) s m args below meth c 5 g X h 0 0 (vx_MQ below (QX g X h s.heap.size (xIW r)) (XX g X h s.heap.size (xIW r)) args s (cN (xIW r)) (cS (xIW r)) (AF X h s.heap.size)) 28 [] [] hh := by
    intro hh hf
    unfold f_X5_join_J28 at hf
    cases hf
    exact G.throwIS (is := 149) (text := "the ropes cannot be joined") C TT tab rfl m9_89 m9_90 (by decide +kernel) dX5_join_28 dX5_join_31 dX5_join_32 dX5_join_34 dX5_join_37 (Nat.le_of_ble_eq_true rfl) (Nat.le_of_ble_eq_true rfl) ⟨rfl, rfl⟩
  refine G.sub C [0, 1, 2] (lv' := [(0, .ref (a0)), (1, .int (a1)), (2, .int (a2))]) rfl ?_
  refine G.aload_n C 0 dX5_join_0 rfl rfl ?_
  refine G.iload_n C 1 dX5_join_1 rfl rfl ?_
  obtain ⟨r1, hr1, hf⟩ := bind_some hf
  cases r1 with
  | error E4 =>
    try dsimp only at hf
    cases hf
    exact G.callXe C TT tab (st := []) (cx_X5_existing hr1) rfl rfl ⟨rfl, rfl⟩ (ko_X5_existing hr1) rfl m9_229 m9_230 m9_231 m9_2 m9_232 kd_X5_existing ⟨Nat.le_of_ble_eq_true rfl, Nat.le_of_ble_eq_true rfl⟩ (Nat.le_of_ble_eq_true rfl) rfl dX5_join_2
  | ok v2 =>
    try dsimp only at hf
    refine G.callXo C TT (st := []) (st2 := [.ref (v2)]) (cx_X5_existing hr1) rfl (ko_X5_existing hr1) rfl m9_229 m9_230 m9_231 m9_2 m9_232 kd_X5_existing ⟨Nat.le_of_ble_eq_true rfl, Nat.le_of_ble_eq_true rfl⟩ (Nat.le_of_ble_eq_true rfl) rfl rfl dX5_join_2 ?_
    refine G.astore_n (lv' := [(3, .ref (v2)), (0, .ref (a0)), (1, .int (a1)), (2, .int (a2))]) C dX5_join_5 rfl (by decide) rfl ?_
    refine G.aload_n C 1 dX5_join_6 rfl rfl ?_
    refine G.iload_n C 3 dX5_join_7 rfl rfl ?_
    obtain ⟨r5, hr5, hf⟩ := bind_some hf
    cases r5 with
    | error E8 =>
      try dsimp only at hf
      cases hf
      exact G.callXe C TT tab (st := []) (cx_X5_existing hr5) rfl rfl ⟨rfl, rfl⟩ (ko_X5_existing hr5) rfl m9_229 m9_230 m9_231 m9_2 m9_232 kd_X5_existing ⟨Nat.le_of_ble_eq_true rfl, Nat.le_of_ble_eq_true rfl⟩ (Nat.le_of_ble_eq_true rfl) rfl dX5_join_8
    | ok v6 =>
      try dsimp only at hf
      refine G.callXo C TT (st := []) (st2 := [.ref (v6)]) (cx_X5_existing hr5) rfl (ko_X5_existing hr5) rfl m9_229 m9_230 m9_231 m9_2 m9_232 kd_X5_existing ⟨Nat.le_of_ble_eq_true rfl, Nat.le_of_ble_eq_true rfl⟩ (Nat.le_of_ble_eq_true rfl) rfl rfl dX5_join_8 ?_
      refine G.astore (lv' := [(4, .ref (v6)), (3, .ref (v2)), (0, .ref (a0)), (1, .int (a1)), (2, .int (a2))]) C dX5_join_11 (by decide) rfl ?_
      refine G.iload_n C 3 dX5_join_13 rfl rfl ?_
      refine G.iload_n C 4 dX5_join_14 rfl rfl ?_
      refine G.icmp_eq (tgt := 28) C dX5_join_15 (by decide) hf (fun c26 hf => ?_) (fun c26 hf => ?_)
      · refine G.sub C [] (lv' := []) rfl ?_
        exact hj28 _ hf
      · refine G.aload_n C 2 dX5_join_18 rfl rfl ?_
        refine G.aload_n C 1 dX5_join_19 rfl rfl ?_
        refine G.aload C 0 dX5_join_20 rfl ?_
        obtain ⟨⟨v9, h10⟩, hv9, hf⟩ := bind_some hf
        try dsimp only at hf
        refine G.callV C (st := []) (st2 := [.int (v9)]) (ct_X5_reasonAgainstJoining hv9) (ko_X5_reasonAgainstJoining hv9) rfl m9_462 m9_463 m9_464 m9_2 m9_465 kd_X5_reasonAgainstJoining ⟨Nat.le_of_ble_eq_true rfl, Nat.le_of_ble_eq_true rfl⟩ ⟨Nat.zero_le _, Nat.zero_le _⟩ (Nat.le_of_ble_eq_true rfl) rfl rfl dX5_join_22 ?_
        refine G.if_eq (tgt := 38) C dX5_join_25 (by decide) hf (fun c25 hf => ?_) (fun c25 hf => ?_)
        · refine G.aload_n C 2 dX5_join_38 rfl rfl ?_
          refine G.getR (ci := 4) (k := 2) C rfl inlX5 (by decide) m9_21 rfl hf dX5_join_39 (fun v12 hv12 hf => ?_)
          try dsimp only at hf
          refine G.aload_n C 2 dX5_join_42 rfl rfl ?_
          refine G.getR (ci := 4) (k := 0) C rfl inlX5 (by decide) m9_16 rfl hf dX5_join_43 (fun v13 hv13 hf => ?_)
          try dsimp only at hf
          obtain ⟨h14, hh14, hf⟩ := bind_some hf
          try dsimp only at hf
          refine G.callV C (st := []) (st2 := []) (ct_X0_save hh14) (ko_X0_save hh14) rfl m9_109 m9_110 m9_111 m9_20 m9_112 kd_X0_save ⟨Nat.le_of_ble_eq_true rfl, Nat.le_of_ble_eq_true rfl⟩ ⟨Nat.zero_le _, Nat.zero_le _⟩ (Nat.le_of_ble_eq_true rfl) rfl rfl dX5_join_46 ?_
          refine G.aload_n C 2 dX5_join_49 rfl rfl ?_
          refine G.aload_n C 1 dX5_join_50 rfl rfl ?_
          refine G.aload C 0 dX5_join_51 rfl ?_
          obtain ⟨⟨v15, h16⟩, hv15, hf⟩ := bind_some hf
          try dsimp only at hf
          refine G.callV C (st := []) (st2 := [.int (v15)]) (ct_X5_draftJoined hv15) (ko_X5_draftJoined hv15) rfl m9_466 m9_467 m9_468 m9_2 m9_469 kd_X5_draftJoined ⟨Nat.le_of_ble_eq_true rfl, Nat.le_of_ble_eq_true rfl⟩ ⟨Nat.zero_le _, Nat.zero_le _⟩ (Nat.le_of_ble_eq_true rfl) rfl rfl dX5_join_53 ?_
          refine G.pop C dX5_join_56 rfl ?_
          refine G.aload_n C 1 dX5_join_57 rfl rfl ?_
          refine G.aload_n C 2 dX5_join_58 rfl rfl ?_
          refine G.getR (ci := 4) (k := 4) C rfl inlX5 (by decide) m9_29 rfl hf dX5_join_59 (fun v18 hv18 hf => ?_)
          try dsimp only at hf
          obtain ⟨h19, hh19, hf⟩ := bind_some hf
          try dsimp only at hf
          refine G.callV C (st := []) (st2 := []) (ct_X2_copyFrom hh19) (ko_X2_copyFrom hh19) rfl m9_384 m9_126 m9_127 m9_28 m9_128 kd_X2_copyFrom ⟨Nat.le_of_ble_eq_true rfl, Nat.le_of_ble_eq_true rfl⟩ ⟨Nat.zero_le _, Nat.zero_le _⟩ (Nat.le_of_ble_eq_true rfl) rfl rfl dX5_join_62 ?_
          refine G.aload_n C 2 dX5_join_65 rfl rfl ?_
          refine G.getR (ci := 4) (k := 0) C rfl inlX5 (by decide) m9_16 rfl hf dX5_join_66 (fun v20 hv20 hf => ?_)
          try dsimp only at hf
          refine G.iload_n C 4 dX5_join_69 rfl rfl ?_
          obtain ⟨h21, hh21, hf⟩ := bind_some hf
          try dsimp only at hf
          refine G.callV C (st := []) (st2 := []) (ct_X3_removeRope hh21) (ko_X3_removeRope hh21) rfl m9_234 m9_235 m9_236 m9_15 m9_237 kd_X3_removeRope ⟨Nat.le_of_ble_eq_true rfl, Nat.le_of_ble_eq_true rfl⟩ ⟨Nat.zero_le _, Nat.zero_le _⟩ (Nat.le_of_ble_eq_true rfl) rfl rfl dX5_join_70 ?_
          refine G.aload_n C 2 dX5_join_73 rfl rfl ?_
          refine G.getR (ci := 4) (k := 0) C rfl inlX5 (by decide) m9_16 rfl hf dX5_join_74 (fun v22 hv22 hf => ?_)
          try dsimp only at hf
          obtain ⟨h23, hh23, hf⟩ := bind_some hf
          try dsimp only at hf
          refine G.callV C (st := []) (st2 := []) (ct_X3_countJoin hh23) (ko_X3_countJoin hh23) rfl m9_474 m9_475 m9_476 m9_15 m9_477 kd_X3_countJoin ⟨Nat.le_of_ble_eq_true rfl, Nat.le_of_ble_eq_true rfl⟩ ⟨Nat.zero_le _, Nat.zero_le _⟩ (Nat.le_of_ble_eq_true rfl) rfl rfl dX5_join_77 ?_
          refine G.aload_n C 1 dX5_join_80 rfl rfl ?_
          obtain ⟨v24, hv24, hf⟩ := bind_some hf
          try dsimp only at hf
          refine G.callV C (st := []) (st2 := [.int (v24)]) (ct_X2_length hv24) (ko_X2_length hv24) rfl m9_354 m9_355 m9_356 m9_28 m9_357 kd_X2_length ⟨Nat.le_of_ble_eq_true rfl, Nat.le_of_ble_eq_true rfl⟩ ⟨Nat.zero_le _, Nat.zero_le _⟩ (Nat.le_of_ble_eq_true rfl) rfl rfl dX5_join_81 ?_
          cases hf
          refine G.retX rfl ?_
          exact G.iret C rfl dX5_join_84
        · refine G.sub C [] (lv' := []) rfl ?_
          exact hj28 _ hf
theorem ko_X5_append {h : PH} {a0 : Nat} {a1 : Int32} {r : (Except (String × PH) (Int32 × PH))} (hf : f_X5_append h a0 a1 = some r) : kO h a0 4 := by
  unfold f_X5_append at hf
  exact okO_k (gd_ok hf).1
theorem kd_X5_append : yX5_append.cls = RX5 ∧ yX5_append.cls ≠ "java/lang/invoke/MethodHandle" ∧ yX5_append.cls ≠ "java/lang/invoke/VarHandle" ∧ (parseMethodDescriptor yX5_append.desc).map (fun d => d.parameters.length) = some 1 := by decide +kernel
set_option maxRecDepth 20000 in
set_option maxHeartbeats 4000000 in
theorem cx_X5_append {l : Launch} {h : PH} {a0 : Nat} {a1 : Int32} {r : (Except (String × PH) (Int32 × PH))} (hf : f_X5_append h a0 a1 = some r) : CX l yX5_append cX5_append 2 (some .int) 6 90 [.ref (a0), .int (a1)] h (xIW r) := by
  refine CX.of (own := RX5) rfl (by decide) (Nat.le_of_ble_eq_true rfl) ?_
  intro p e R s m args below meth c g X hR C TT tab
  subst hR
  unfold f_X5_append at hf
  obtain ⟨hok, hf⟩ := gd_ok hf
  have hj12 : f_X5_append_J12 h = some r → G p l e ({ frames := 6, cells := cN (xIW r), slots := cS (xIW r), locals := 90 } : Room) s m args below meth c 2 g X h 0 0 (vx_MQ below (QX g X h s.heap.size (xIW r)) (XX g X h s.heap.size (xIW r)) args s (cN (xIW r)) (cS (xIW r)) (AF X h s.heap.size)) 12 [] [] h := by
    intro hf
    unfold f_X5_append_J12 at hf
    cases hf
    exact G.throwIA (is := 162) (text := "the code is not 33 to 126") C TT tab rfl m9_87 m9_88 (by decide +kernel) dX5_append_12 dX5_append_15 dX5_append_16 dX5_append_18 dX5_append_21 (Nat.le_of_ble_eq_true rfl) (Nat.le_of_ble_eq_true rfl) ⟨rfl, rfl⟩
  refine G.sub C [0, 1] (lv' := [(0, .ref (a0)), (1, .int (a1))]) rfl ?_
  refine G.iload_n C 1 dX5_append_0 rfl rfl ?_
  refine G.bipush (v := 33) C dX5_append_1 (by decide) ?_
  refine G.icmp_lt (tgt := 12) C dX5_append_3 (by decide) hf (fun c9 hf => ?_) (fun c9 hf => ?_)
  · refine G.sub C [] (lv' := []) rfl ?_
    exact hj12  hf
  · refine G.iload_n C 1 dX5_append_6 rfl rfl ?_
    refine G.bipush (v := 126) C dX5_append_7 (by decide) ?_
    refine G.icmp_le (tgt := 22) C dX5_append_9 (by decide) hf (fun c8 hf => ?_) (fun c8 hf => ?_)
    · refine G.aload_n C 0 dX5_append_22 rfl rfl ?_
      refine G.getR (ci := 4) (k := 3) C rfl inlX5 (by decide) m9_25 rfl hf dX5_append_23 (fun v1 hv1 hf => ?_)
      try dsimp only at hf
      obtain ⟨v2, hv2, hf⟩ := bind_some hf
      try dsimp only at hf
      refine G.callV C (st := []) (st2 := [.int (v2)]) (ct_X4_isFull hv2) (ko_X4_isFull hv2) rfl m9_509 m9_510 m9_511 m9_24 m9_512 kd_X4_isFull ⟨Nat.le_of_ble_eq_true rfl, Nat.le_of_ble_eq_true rfl⟩ ⟨Nat.zero_le _, Nat.zero_le _⟩ (Nat.le_of_ble_eq_true rfl) rfl rfl dX5_append_26 ?_
      refine G.if_eq (tgt := 42) C dX5_append_29 (by decide) hf (fun c7 hf => ?_) (fun c7 hf => ?_)
      · refine G.aload_n C 0 dX5_append_42 rfl rfl ?_
        refine G.getR (ci := 4) (k := 3) C rfl inlX5 (by decide) m9_25 rfl hf dX5_append_43 (fun v3 hv3 hf => ?_)
        try dsimp only at hf
        refine G.iload_n C 1 dX5_append_46 rfl rfl ?_
        obtain ⟨h4, hh4, hf⟩ := bind_some hf
        try dsimp only at hf
        refine G.callV C (st := []) (st2 := []) (ct_X4_add hh4) (ko_X4_add hh4) rfl m9_513 m9_514 m9_515 m9_24 m9_516 kd_X4_add ⟨Nat.le_of_ble_eq_true rfl, Nat.le_of_ble_eq_true rfl⟩ ⟨Nat.zero_le _, Nat.zero_le _⟩ (Nat.le_of_ble_eq_true rfl) rfl rfl dX5_append_47 ?_
        refine G.aload_n C 0 dX5_append_50 rfl rfl ?_
        refine G.getR (ci := 4) (k := 3) C rfl inlX5 (by decide) m9_25 rfl hf dX5_append_51 (fun v5 hv5 hf => ?_)
        try dsimp only at hf
        obtain ⟨v6, hv6, hf⟩ := bind_some hf
        try dsimp only at hf
        refine G.callV C (st := []) (st2 := [.int (v6)]) (ct_X4_length hv6) (ko_X4_length hv6) rfl m9_517 m9_518 m9_519 m9_24 m9_520 kd_X4_length ⟨Nat.le_of_ble_eq_true rfl, Nat.le_of_ble_eq_true rfl⟩ ⟨Nat.zero_le _, Nat.zero_le _⟩ (Nat.le_of_ble_eq_true rfl) rfl rfl dX5_append_54 ?_
        cases hf
        refine G.retX rfl ?_
        exact G.iret C rfl dX5_append_57
      · cases hf
        exact G.throwIS (is := 168) (text := "the buffer is full") C TT tab rfl m9_89 m9_90 (by decide +kernel) dX5_append_32 dX5_append_35 dX5_append_36 dX5_append_38 dX5_append_41 (Nat.le_of_ble_eq_true rfl) (Nat.le_of_ble_eq_true rfl) ⟨rfl, rfl⟩
    · refine G.sub C [] (lv' := []) rfl ?_
      exact hj12  hf
theorem ko_X5_clearBuffer {h : PH} {a0 : Nat} {r : (Int32 × PH)} (hf : f_X5_clearBuffer h a0 = some r) : kO h a0 4 := by
  unfold f_X5_clearBuffer at hf
  exact okO_k (gd_ok hf).1
theorem kd_X5_clearBuffer : yX5_clearBuffer.cls = RX5 ∧ yX5_clearBuffer.cls ≠ "java/lang/invoke/MethodHandle" ∧ yX5_clearBuffer.cls ≠ "java/lang/invoke/VarHandle" ∧ (parseMethodDescriptor yX5_clearBuffer.desc).map (fun d => d.parameters.length) = some 0 := by decide +kernel
set_option maxRecDepth 20000 in
set_option maxHeartbeats 4000000 in
theorem ct_X5_clearBuffer {l : Launch} {h : PH} {a0 : Nat} {r : (Int32 × PH)} (hf : f_X5_clearBuffer h a0 = some r) : CT l yX5_clearBuffer cX5_clearBuffer 2 (some .int) 1 20 [.ref (a0)] h (some (.int r.1)) r.2 := by
  refine CT.of (own := RX5) rfl (by decide) (Nat.le_of_ble_eq_true rfl) ?_
  intro p e R s m args below meth c g X hR C
  subst hR
  unfold f_X5_clearBuffer at hf
  obtain ⟨hok, hf⟩ := gd_ok hf
  refine G.sub C [0] (lv' := [(0, .ref (a0))]) rfl ?_
  refine G.aload_n C 0 dX5_clearBuffer_0 rfl rfl ?_
  refine G.getR (ci := 4) (k := 3) C rfl inlX5 (by decide) m9_25 rfl hf dX5_clearBuffer_1 (fun v1 hv1 hf => ?_)
  try dsimp only at hf
  obtain ⟨v2, hv2, hf⟩ := bind_some hf
  try dsimp only at hf
  refine G.callV C (st := []) (st2 := [.int (v2)]) (ct_X4_length hv2) (ko_X4_length hv2) rfl m9_517 m9_518 m9_519 m9_24 m9_520 kd_X4_length ⟨Nat.le_of_ble_eq_true rfl, Nat.le_of_ble_eq_true rfl⟩ ⟨Nat.zero_le _, Nat.zero_le _⟩ (Nat.le_of_ble_eq_true rfl) rfl rfl dX5_clearBuffer_4 ?_
  refine G.istore_n (lv' := [(1, .int (v2)), (0, .ref (a0))]) C dX5_clearBuffer_7 rfl (by decide) rfl ?_
  refine G.aload_n C 1 dX5_clearBuffer_8 rfl rfl ?_
  refine G.getR (ci := 4) (k := 3) C rfl inlX5 (by decide) m9_25 rfl hf dX5_clearBuffer_9 (fun v3 hv3 hf => ?_)
  try dsimp only at hf
  obtain ⟨h4, hh4, hf⟩ := bind_some hf
  try dsimp only at hf
  refine G.callV C (st := []) (st2 := []) (ct_X4_empty hh4) (ko_X4_empty hh4) rfl m9_530 m9_531 m9_532 m9_24 m9_533 kd_X4_empty ⟨Nat.le_of_ble_eq_true rfl, Nat.le_of_ble_eq_true rfl⟩ ⟨Nat.zero_le _, Nat.zero_le _⟩ (Nat.le_of_ble_eq_true rfl) rfl rfl dX5_clearBuffer_12 ?_
  refine G.iload_n C 0 dX5_clearBuffer_15 rfl rfl ?_
  cases hf
  exact G.iret C rfl dX5_clearBuffer_16
theorem ko_X5_firstError {h : PH} {a0 : Nat} {r : Int32} (hf : f_X5_firstError h a0 = some r) : kO h a0 4 := by
  unfold f_X5_firstError at hf
  exact okO_k (gd_ok hf).1
theorem kd_X5_firstError : yX5_firstError.cls = RX5 ∧ yX5_firstError.cls ≠ "java/lang/invoke/MethodHandle" ∧ yX5_firstError.cls ≠ "java/lang/invoke/VarHandle" ∧ (parseMethodDescriptor yX5_firstError.desc).map (fun d => d.parameters.length) = some 0 := by decide +kernel
set_option maxRecDepth 20000 in
set_option maxHeartbeats 4000000 in
theorem ct_X5_firstError {l : Launch} {h : PH} {a0 : Nat} {r : Int32} (hf : f_X5_firstError h a0 = some r) : CT l yX5_firstError cX5_firstError 1 (some .int) 5 105 [.ref (a0)] h (some (.int r)) h := by
  refine CT.of (own := RX5) rfl (by decide) (Nat.le_of_ble_eq_true rfl) ?_
  intro p e R s m args below meth c g X hR C
  subst hR
  unfold f_X5_firstError at hf
  obtain ⟨hok, hf⟩ := gd_ok hf
  refine G.sub C [0] (lv' := [(0, .ref (a0))]) rfl ?_
  refine G.aload_n C 0 dX5_firstError_0 rfl rfl ?_
  refine G.getR (ci := 4) (k := 3) C rfl inlX5 (by decide) m9_25 rfl hf dX5_firstError_1 (fun v1 hv1 hf => ?_)
  try dsimp only at hf
  obtain ⟨v2, hv2, hf⟩ := bind_some hf
  try dsimp only at hf
  refine G.callV C (st := []) (st2 := [.int (v2)]) (ct_X4_firstWrong hv2) (ko_X4_firstWrong hv2) rfl m9_542 m9_543 m9_544 m9_24 m9_545 kd_X4_firstWrong ⟨Nat.le_of_ble_eq_true rfl, Nat.le_of_ble_eq_true rfl⟩ ⟨Nat.zero_le _, Nat.zero_le _⟩ (Nat.le_of_ble_eq_true rfl) rfl rfl dX5_firstError_4 ?_
  cases hf
  exact G.iret C rfl dX5_firstError_7
theorem ko_X5_playLaying {h : PH} {a0 : Nat} {a1 : Nat} {a2 : Int32} {a3 : Int32} {r : (Int32 × PH)} (hf : f_X5_playLaying h a0 a1 a2 a3 = some r) : kO h a0 4 := by
  unfold f_X5_playLaying at hf
  exact okO_k (gd_ok hf).1
theorem kd_X5_playLaying : yX5_playLaying.cls = RX5 ∧ yX5_playLaying.cls ≠ "java/lang/invoke/MethodHandle" ∧ yX5_playLaying.cls ≠ "java/lang/invoke/VarHandle" ∧ (parseMethodDescriptor yX5_playLaying.desc).map (fun d => d.parameters.length) = some 3 := by decide +kernel
set_option maxRecDepth 20000 in
set_option maxHeartbeats 4000000 in
theorem ct_X5_playLaying {l : Launch} {h : PH} {a0 : Nat} {a1 : Nat} {a2 : Int32} {a3 : Int32} {r : (Int32 × PH)} (hf : f_X5_playLaying h a0 a1 a2 a3 = some r) : CT l yX5_playLaying cX5_playLaying 5 (some .boolean) 3 71 [.ref (a0), .ref (a1), .int (a2), .int (a3)] h (some (.int r.1)) r.2 := by
  refine CT.of (own := RX5) rfl (by decide) (Nat.le_of_ble_eq_true rfl) ?_
  intro p e R s m args below meth c g X hR C
  subst hR
  unfold f_X5_playLaying at hf
  obtain ⟨hok, hf⟩ := gd_ok hf
  have hj27 : f_X5_playLaying_J27 h = some r → G p l e ({ frames := 3, cells := 0, slots := 0, locals := 71 } : Room) s m args below meth c 5 g X h 0 0 (MQ below (QW g X h s.heap.size (some (.int r.1)) r.2) args s 0 0 (AF X h s.heap.size)) 27 [] [] h := by
    intro hf
    unfold f_X5_playLaying_J27 at hf
    refine G.iconst (v := 0) C dX5_playLaying_27 (by decide) ?_
    cases hf
    exact G.zret (v := (0 : Int32)) C rfl rfl dX5_playLaying_28
  refine G.sub C [0, 1, 2, 3] (lv' := [(0, .ref (a0)), (1, .ref (a1)), (2, .int (a2)), (3, .int (a3))]) rfl ?_
  refine G.aload_n C 0 dX5_playLaying_0 rfl rfl ?_
  refine G.getR (ci := 4) (k := 0) C rfl inlX5 (by decide) m9_16 rfl hf dX5_playLaying_1 (fun v1 hv1 hf => ?_)
  try dsimp only at hf
  refine G.iload_n C 2 dX5_playLaying_4 rfl rfl ?_
  obtain ⟨v2, hv2, hf⟩ := bind_some hf
  try dsimp only at hf
  refine G.callV C (st := []) (st2 := [.int (v2)]) (ct_X3_gapAt hv2) (ko_X3_gapAt hv2) rfl m9_129 m9_130 m9_131 m9_15 m9_132 kd_X3_gapAt ⟨Nat.le_of_ble_eq_true rfl, Nat.le_of_ble_eq_true rfl⟩ ⟨Nat.zero_le _, Nat.zero_le _⟩ (Nat.le_of_ble_eq_true rfl) rfl rfl dX5_playLaying_5 ?_
  refine G.istore (lv' := [(4, .int (v2)), (0, .ref (a0)), (1, .ref (a1)), (2, .int (a2)), (3, .int (a3))]) C dX5_playLaying_8 (by decide) rfl ?_
  refine G.iload C 0 dX5_playLaying_10 rfl ?_
  refine G.iload_n C 4 dX5_playLaying_12 rfl rfl ?_
  refine G.icmp_le (tgt := 27) C dX5_playLaying_13 (by decide) hf (fun c9 hf => ?_) (fun c9 hf => ?_)
  · refine G.sub C [] (lv' := []) rfl ?_
    exact hj27  hf
  · refine G.aload_n C 2 dX5_playLaying_16 rfl rfl ?_
    refine G.iload_n C 3 dX5_playLaying_17 rfl rfl ?_
    refine G.iload_n C 4 dX5_playLaying_18 rfl rfl ?_
    refine G.iload C 0 dX5_playLaying_19 rfl ?_
    obtain ⟨v3, hv3, hf⟩ := bind_some hf
    try dsimp only at hf
    refine G.callV C (st := []) (st2 := [.int (v3)]) (ct_X2_reasonAgainst hv3) (ko_X2_reasonAgainst hv3) rfl m9_261 m9_262 m9_263 m9_28 m9_264 kd_X2_reasonAgainst ⟨Nat.le_of_ble_eq_true rfl, Nat.le_of_ble_eq_true rfl⟩ ⟨Nat.zero_le _, Nat.zero_le _⟩ (Nat.le_of_ble_eq_true rfl) rfl rfl dX5_playLaying_21 ?_
    refine G.if_eq (tgt := 29) C dX5_playLaying_24 (by decide) hf (fun c8 hf => ?_) (fun c8 hf => ?_)
    · refine G.aload_n C 1 dX5_playLaying_29 rfl rfl ?_
      refine G.getR (ci := 4) (k := 0) C rfl inlX5 (by decide) m9_16 rfl hf dX5_playLaying_30 (fun v4 hv4 hf => ?_)
      try dsimp only at hf
      refine G.aload_n C 2 dX5_playLaying_33 rfl rfl ?_
      refine G.iload_n C 3 dX5_playLaying_34 rfl rfl ?_
      refine G.iload_n C 4 dX5_playLaying_35 rfl rfl ?_
      obtain ⟨⟨v5, h6⟩, hv5, hf⟩ := bind_some hf
      try dsimp only at hf
      refine G.callV C (st := []) (st2 := [.int (v5)]) (ct_X3_layOn hv5) (ko_X3_layOn hv5) rfl m9_270 m9_271 m9_272 m9_15 m9_273 kd_X3_layOn ⟨Nat.le_of_ble_eq_true rfl, Nat.le_of_ble_eq_true rfl⟩ ⟨Nat.zero_le _, Nat.zero_le _⟩ (Nat.le_of_ble_eq_true rfl) rfl rfl dX5_playLaying_36 ?_
      refine G.pop C dX5_playLaying_39 rfl ?_
      refine G.iconst (v := 1) C dX5_playLaying_40 (by decide) ?_
      cases hf
      exact G.zret (v := (1 : Int32)) C rfl rfl dX5_playLaying_41
    · refine G.sub C [] (lv' := []) rfl ?_
      exact hj27  hf
theorem ko_X5_playPart {h : PH} {a0 : Nat} {a1 : Int32} {a2 : Int32} {r : (Int32 × PH)} (hf : f_X5_playPart h a0 a1 a2 = some r) : kO h a0 4 := by
  unfold f_X5_playPart at hf
  exact okO_k (gd_ok hf).1
theorem kd_X5_playPart : yX5_playPart.cls = RX5 ∧ yX5_playPart.cls ≠ "java/lang/invoke/MethodHandle" ∧ yX5_playPart.cls ≠ "java/lang/invoke/VarHandle" ∧ (parseMethodDescriptor yX5_playPart.desc).map (fun d => d.parameters.length) = some 2 := by decide +kernel
set_option maxRecDepth 20000 in
set_option maxHeartbeats 4000000 in
theorem ct_X5_playPart {l : Launch} {h : PH} {a0 : Nat} {a1 : Int32} {a2 : Int32} {r : (Int32 × PH)} (hf : f_X5_playPart h a0 a1 a2 = some r) : CT l yX5_playPart cX5_playPart 5 (some .boolean) 4 95 [.ref (a0), .int (a1), .int (a2)] h (some (.int r.1)) r.2 := by
  refine CT.of (own := RX5) rfl (by decide) (Nat.le_of_ble_eq_true rfl) ?_
  intro p e R s m args below meth c g X hR C
  subst hR
  unfold f_X5_playPart at hf
  obtain ⟨hok, hf⟩ := gd_ok hf
  have hj41 : ∀ (hh : PH) (k0 : Int32), f_X5_playPart_J41 hh k0 = some r → G p l e ({ frames := 4, cells := 0, slots := 0, locals := 95 } : Room) s m args below meth c 5 g X h 0 0 (MQ below (QW g X h s.heap.size (some (.int r.1)) r.2) args s 0 0 (AF X h s.heap.size)) 41 [] [.int (k0)] hh := by
    intro hh k0 hf
    unfold f_X5_playPart_J41 at hf
    obtain ⟨c31, hf⟩ := gd_ok hf
    cases hf
    exact G.zret C rfl (z01_n c31) dX5_playPart_41
  have hj114 : ∀ (hh : PH) (k0 : Int32), f_X5_playPart_J114 hh k0 = some r → G p l e ({ frames := 4, cells := 0, slots := 0, locals := 95 } : Room) s m args below meth c 5 g X h 0 0 (MQ below (QW g X h s.heap.size (some (.int r.1)) r.2) args s 0 0 (AF X h s.heap.size)) 114 [] [.int (k0)] hh := by
    intro hh k0 hf
    unfold f_X5_playPart_J114 at hf
    obtain ⟨c32, hf⟩ := gd_ok hf
    cases hf
    exact G.zret C rfl (z01_n c32) dX5_playPart_114
  refine G.sub C [0, 1, 2] (lv' := [(0, .ref (a0)), (1, .int (a1)), (2, .int (a2))]) rfl ?_
  refine G.aload_n C 0 dX5_playPart_0 rfl rfl ?_
  refine G.getR (ci := 4) (k := 3) C rfl inlX5 (by decide) m9_25 rfl hf dX5_playPart_1 (fun v1 hv1 hf => ?_)
  try dsimp only at hf
  refine G.iload_n C 1 dX5_playPart_4 rfl rfl ?_
  obtain ⟨v2, hv2, hf⟩ := bind_some hf
  try dsimp only at hf
  refine G.callV C (st := []) (st2 := [.int (v2)]) (ct_X4_codeAt hv2) (ko_X4_codeAt hv2) rfl m9_623 m9_547 m9_548 m9_24 m9_549 kd_X4_codeAt ⟨Nat.le_of_ble_eq_true rfl, Nat.le_of_ble_eq_true rfl⟩ ⟨Nat.zero_le _, Nat.zero_le _⟩ (Nat.le_of_ble_eq_true rfl) rfl rfl dX5_playPart_5 ?_
  refine G.istore_n (lv' := [(3, .int (v2)), (0, .ref (a0)), (1, .int (a1)), (2, .int (a2))]) C dX5_playPart_8 rfl (by decide) rfl ?_
  refine G.iload_n C 0 dX5_playPart_9 rfl rfl ?_
  refine G.bipush (v := 114) C dX5_playPart_10 (by decide) ?_
  refine G.icmp_ne (tgt := 42) C dX5_playPart_12 (by decide) hf (fun c34 hf => ?_) (fun c34 hf => ?_)
  · refine G.aload_n C 1 dX5_playPart_42 rfl rfl ?_
    refine G.getR (ci := 4) (k := 0) C rfl inlX5 (by decide) m9_16 rfl hf dX5_playPart_43 (fun v3 hv3 hf => ?_)
    try dsimp only at hf
    refine G.aload_n C 1 dX5_playPart_46 rfl rfl ?_
    refine G.getR (ci := 4) (k := 0) C rfl inlX5 (by decide) m9_16 rfl hf dX5_playPart_47 (fun v4 hv4 hf => ?_)
    try dsimp only at hf
    obtain ⟨v5, hv5, hf⟩ := bind_some hf
    try dsimp only at hf
    refine G.callV C (st := [.ref (v3)]) (st2 := [.int (v5), .ref (v3)]) (ct_X3_ropeCount hv5) (ko_X3_ropeCount hv5) rfl m9_191 m9_192 m9_193 m9_15 m9_194 kd_X3_ropeCount ⟨Nat.le_of_ble_eq_true rfl, Nat.le_of_ble_eq_true rfl⟩ ⟨Nat.zero_le _, Nat.zero_le _⟩ (Nat.le_of_ble_eq_true rfl) rfl rfl dX5_playPart_50 ?_
    refine G.iconst (v := 1) C dX5_playPart_53 (by decide) ?_
    refine G.isub C dX5_playPart_54 ?_
    obtain ⟨v6, hv6, hf⟩ := bind_some hf
    try dsimp only at hf
    refine G.callV C (st := []) (st2 := [va_rf (v6)]) (ct_X3_ropeAt hv6) (ko_X3_ropeAt hv6) rfl m9_233 m9_102 m9_103 m9_15 m9_104 kd_X3_ropeAt ⟨Nat.le_of_ble_eq_true rfl, Nat.le_of_ble_eq_true rfl⟩ ⟨Nat.zero_le _, Nat.zero_le _⟩ (Nat.le_of_ble_eq_true rfl) rfl rfl dX5_playPart_55 ?_
    refine G.qstore (lv' := [(4, va_rf (v6)), (3, .int (v2)), (0, .ref (a0)), (1, .int (a1)), (2, .int (a2))]) C dX5_playPart_58 (by decide) rfl ?_
    refine G.qload C 0 dX5_playPart_60 rfl ?_
    refine G.ifnonnull (tgt := 67) C dX5_playPart_62 (by decide) (fun a7 e25 => ?_) (fun e25 => ?_)
    · subst e25
      try dsimp only at hf
      refine G.iload_n C 1 dX5_playPart_67 rfl rfl ?_
      refine G.bipush (v := 60) C dX5_playPart_68 (by decide) ?_
      refine G.icmp_ne (tgt := 82) C dX5_playPart_70 (by decide) hf (fun c24 hf => ?_) (fun c24 hf => ?_)
      · refine G.iload_n C 1 dX5_playPart_82 rfl rfl ?_
        refine G.bipush (v := 45) C dX5_playPart_83 (by decide) ?_
        refine G.icmp_ne (tgt := 115) C dX5_playPart_85 (by decide) hf (fun c20 hf => ?_) (fun c20 hf => ?_)
        · refine G.aload_n C 2 dX5_playPart_115 rfl rfl ?_
          refine G.aload C 0 dX5_playPart_116 rfl ?_
          refine G.iload_n C 1 dX5_playPart_118 rfl rfl ?_
          refine G.bipush (v := 97) C dX5_playPart_119 (by decide) ?_
          refine G.isub C dX5_playPart_121 ?_
          refine G.aload_n C 2 dX5_playPart_122 rfl rfl ?_
          refine G.getR (ci := 4) (k := 3) C rfl inlX5 (by decide) m9_25 rfl hf dX5_playPart_123 (fun v8 hv8 hf => ?_)
          try dsimp only at hf
          refine G.iload_n C 3 dX5_playPart_126 rfl rfl ?_
          refine G.iconst (v := 1) C dX5_playPart_127 (by decide) ?_
          refine G.iadd C dX5_playPart_128 ?_
          refine G.iload_n C 4 dX5_playPart_129 rfl rfl ?_
          obtain ⟨v9, hv9, hf⟩ := bind_some hf
          try dsimp only at hf
          refine G.callV C (st := [.int ((v2 - (97 : Int32))), .ref (a7), .ref (a0)]) (st2 := [.int (v9), .int ((v2 - (97 : Int32))), .ref (a7), .ref (a0)]) (ct_X4_numberIn hv9) (ko_X4_numberIn hv9) rfl m9_624 m9_625 m9_626 m9_24 m9_627 kd_X4_numberIn ⟨Nat.le_of_ble_eq_true rfl, Nat.le_of_ble_eq_true rfl⟩ ⟨Nat.zero_le _, Nat.zero_le _⟩ (Nat.le_of_ble_eq_true rfl) rfl rfl dX5_playPart_130 ?_
          obtain ⟨⟨v10, h11⟩, hv10, hf⟩ := bind_some hf
          try dsimp only at hf
          refine G.callV C (st := []) (st2 := [.int (v10)]) (ct_X5_playLaying hv10) (ko_X5_playLaying hv10) rfl m9_628 m9_629 m9_630 m9_2 m9_631 kd_X5_playLaying ⟨Nat.le_of_ble_eq_true rfl, Nat.le_of_ble_eq_true rfl⟩ ⟨Nat.zero_le _, Nat.zero_le _⟩ (Nat.le_of_ble_eq_true rfl) rfl rfl dX5_playPart_133 ?_
          obtain ⟨c13, hf⟩ := gd_ok hf
          cases hf
          exact G.zret C rfl (z01_n c13) dX5_playPart_136
        · refine G.aload C 0 dX5_playPart_88 rfl ?_
          refine G.aload_n C 2 dX5_playPart_90 rfl rfl ?_
          refine G.getR (ci := 4) (k := 3) C rfl inlX5 (by decide) m9_25 rfl hf dX5_playPart_91 (fun v14 hv14 hf => ?_)
          try dsimp only at hf
          refine G.iload_n C 3 dX5_playPart_94 rfl rfl ?_
          refine G.iconst (v := 1) C dX5_playPart_95 (by decide) ?_
          refine G.iadd C dX5_playPart_96 ?_
          obtain ⟨v15, hv15, hf⟩ := bind_some hf
          try dsimp only at hf
          refine G.callV C (st := [.ref (a7)]) (st2 := [.int (v15), .ref (a7)]) (ct_X4_codeAt hv15) (ko_X4_codeAt hv15) rfl m9_623 m9_547 m9_548 m9_24 m9_549 kd_X4_codeAt ⟨Nat.le_of_ble_eq_true rfl, Nat.le_of_ble_eq_true rfl⟩ ⟨Nat.zero_le _, Nat.zero_le _⟩ (Nat.le_of_ble_eq_true rfl) rfl rfl dX5_playPart_97 ?_
          refine G.bipush (v := 97) C dX5_playPart_100 (by decide) ?_
          refine G.isub C dX5_playPart_102 ?_
          obtain ⟨⟨v16, h17⟩, hv16, hf⟩ := bind_some hf
          try dsimp only at hf
          refine G.callV C (st := []) (st2 := [.int (v16)]) (ct_X2_remove hv16) (ko_X2_remove hv16) rfl m9_323 m9_324 m9_325 m9_28 m9_326 kd_X2_remove ⟨Nat.le_of_ble_eq_true rfl, Nat.le_of_ble_eq_true rfl⟩ ⟨Nat.zero_le _, Nat.zero_le _⟩ (Nat.le_of_ble_eq_true rfl) rfl rfl dX5_playPart_103 ?_
          refine G.if_le (tgt := 113) C dX5_playPart_106 (by decide) hf (fun c19 hf => ?_) (fun c19 hf => ?_)
          · refine G.iconst (v := 0) C dX5_playPart_113 (by decide) ?_
            refine G.sub C [] (lv' := []) rfl ?_
            exact hj114 _ _ hf
          · refine G.iconst (v := 1) C dX5_playPart_109 (by decide) ?_
            refine G.goto (tgt := 114) C dX5_playPart_110 (by decide) ?_
            refine G.sub C [] (lv' := []) rfl ?_
            exact hj114 _ _ hf
      · refine G.aload_n C 2 dX5_playPart_73 rfl rfl ?_
        refine G.aload C 0 dX5_playPart_74 rfl ?_
        obtain ⟨⟨v21, h22⟩, hv21, hf⟩ := bind_some hf
        try dsimp only at hf
        refine G.callV C (st := []) (st2 := [.int (v21)]) (ct_X5_turnRound hv21) (ko_X5_turnRound hv21) rfl m9_427 m9_428 m9_429 m9_2 m9_430 kd_X5_turnRound ⟨Nat.le_of_ble_eq_true rfl, Nat.le_of_ble_eq_true rfl⟩ ⟨Nat.zero_le _, Nat.zero_le _⟩ (Nat.le_of_ble_eq_true rfl) rfl rfl dX5_playPart_76 ?_
        refine G.pop C dX5_playPart_79 rfl ?_
        refine G.iconst (v := 1) C dX5_playPart_80 (by decide) ?_
        cases hf
        exact G.zret (v := (1 : Int32)) C rfl rfl dX5_playPart_81
    · subst e25
      try dsimp only at hf
      refine G.iconst (v := 0) C dX5_playPart_65 (by decide) ?_
      cases hf
      exact G.zret (v := (0 : Int32)) C rfl rfl dX5_playPart_66
  · refine G.aload_n C 1 dX5_playPart_15 rfl rfl ?_
    refine G.getR (ci := 4) (k := 0) C rfl inlX5 (by decide) m9_16 rfl hf dX5_playPart_16 (fun v26 hv26 hf => ?_)
    try dsimp only at hf
    refine G.aload_n C 1 dX5_playPart_19 rfl rfl ?_
    refine G.getR (ci := 4) (k := 3) C rfl inlX5 (by decide) m9_25 rfl hf dX5_playPart_20 (fun v27 hv27 hf => ?_)
    try dsimp only at hf
    refine G.iload_n C 2 dX5_playPart_23 rfl rfl ?_
    refine G.iconst (v := 1) C dX5_playPart_24 (by decide) ?_
    refine G.iadd C dX5_playPart_25 ?_
    refine G.iload_n C 3 dX5_playPart_26 rfl rfl ?_
    obtain ⟨v28, hv28, hf⟩ := bind_some hf
    try dsimp only at hf
    refine G.callV C (st := [.ref (v26)]) (st2 := [.int (v28), .ref (v26)]) (ct_X4_numberIn hv28) (ko_X4_numberIn hv28) rfl m9_624 m9_625 m9_626 m9_24 m9_627 kd_X4_numberIn ⟨Nat.le_of_ble_eq_true rfl, Nat.le_of_ble_eq_true rfl⟩ ⟨Nat.zero_le _, Nat.zero_le _⟩ (Nat.le_of_ble_eq_true rfl) rfl rfl dX5_playPart_27 ?_
    obtain ⟨⟨v29, h30⟩, hv29, hf⟩ := bind_some hf
    try dsimp only at hf
    refine G.callV C (st := []) (st2 := [va_rf (v29)]) (ct_X3_addRope hv29) (ko_X3_addRope hv29) rfl m9_195 m9_196 m9_197 m9_15 m9_198 kd_X3_addRope ⟨Nat.le_of_ble_eq_true rfl, Nat.le_of_ble_eq_true rfl⟩ ⟨Nat.zero_le _, Nat.zero_le _⟩ (Nat.le_of_ble_eq_true rfl) rfl rfl dX5_playPart_30 ?_
    refine G.ifnull (tgt := 40) C dX5_playPart_33 (by decide) (fun e33 => ?_) (fun a32 e33 => ?_)
    · subst e33
      try dsimp only at hf
      refine G.iconst (v := 0) C dX5_playPart_40 (by decide) ?_
      refine G.sub C [] (lv' := []) rfl ?_
      exact hj41 _ _ hf
    · subst e33
      try dsimp only at hf
      refine G.iconst (v := 1) C dX5_playPart_36 (by decide) ?_
      refine G.goto (tgt := 41) C dX5_playPart_37 (by decide) ?_
      refine G.sub C [] (lv' := []) rfl ?_
      exact hj41 _ _ hf
theorem ko_X5_play {h : PH} {a0 : Nat} {r : (Except (String × PH) (Int32 × PH))} (hf : f_X5_play h a0 = some r) : kO h a0 4 := by
  unfold f_X5_play at hf
  exact okO_k (gd_ok hf).1
theorem kd_X5_play : yX5_play.cls = RX5 ∧ yX5_play.cls ≠ "java/lang/invoke/MethodHandle" ∧ yX5_play.cls ≠ "java/lang/invoke/VarHandle" ∧ (parseMethodDescriptor yX5_play.desc).map (fun d => d.parameters.length) = some 0 := by decide +kernel
set_option maxRecDepth 20000 in
set_option maxHeartbeats 4000000 in
theorem cx_X5_play {l : Launch} {h : PH} {a0 : Nat} {r : (Except (String × PH) (Int32 × PH))} (hf : f_X5_play h a0 = some r) : CX l yX5_play cX5_play 5 (some .int) 6 119 [.ref (a0)] h (xIW r) := by
  refine CX.of (own := RX5) rfl (by decide) (Nat.le_of_ble_eq_true rfl) ?_
  intro p e R s m args below meth c g X hR C TT tab
  subst hR
  unfold f_X5_play at hf
  obtain ⟨hok, hf⟩ := gd_ok hf
  have hj91 : ∀ (hh : PH) (x0 : Nat) (x1 : Int32), f_X5_play_J91 hh (x0) (x1) = some r → G p l e ({ frames := 6, cells := cN (xIW r), slots := cS (xIW r), locals := 119 } : Room) s m args below meth c 5 g X h 0 0 (vx_MQ below (QX g X h s.heap.size (xIW r)) (XX g X h s.heap.size (xIW r)) args s (cN (xIW r)) (cS (xIW r)) (AF X h s.heap.size)) 91 [(0, .ref (x0)), (1, .int (x1))] [] hh := by
    intro hh x0 x1 hf
    unfold f_X5_play_J91 at hf
    refine G.aload_n C 0 dX5_play_91 rfl rfl ?_
    refine G.getR (ci := 4) (k := 3) C rfl inlX5 (by decide) m9_25 rfl hf dX5_play_92 (fun v16 hv16 hf => ?_)
    try dsimp only at hf
    obtain ⟨h17, hh17, hf⟩ := bind_some hf
    try dsimp only at hf
    refine G.callV C (st := []) (st2 := []) (ct_X4_empty hh17) (ko_X4_empty hh17) rfl m9_530 m9_531 m9_532 m9_24 m9_533 kd_X4_empty ⟨Nat.le_of_ble_eq_true rfl, Nat.le_of_ble_eq_true rfl⟩ ⟨Nat.zero_le _, Nat.zero_le _⟩ (Nat.le_of_ble_eq_true rfl) rfl rfl dX5_play_95 ?_
    refine G.iload_n C 1 dX5_play_98 rfl rfl ?_
    cases hf
    refine G.retX rfl ?_
    exact G.iret C rfl dX5_play_99
  have hj74 : ∀ (hh : PH) (x0 : Nat) (x1 : Int32), f_X5_play_J74 hh (x0) (x1) = some r → G p l e ({ frames := 6, cells := cN (xIW r), slots := cS (xIW r), locals := 119 } : Room) s m args below meth c 5 g X h 0 0 (vx_MQ below (QX g X h s.heap.size (xIW r)) (XX g X h s.heap.size (xIW r)) args s (cN (xIW r)) (cS (xIW r)) (AF X h s.heap.size)) 74 [(0, .ref (x0)), (1, .int (x1))] [] hh := by
    intro hh x0 x1 hf
    unfold f_X5_play_J74 at hf
    refine G.goto (tgt := 91) C dX5_play_74 (by decide) ?_
    refine G.sub C [0, 1] (lv' := [(0, .ref (x0)), (1, .int (x1))]) rfl ?_
    exact hj91 _ _ _ hf
  refine G.sub C [0] (lv' := [(0, .ref (a0))]) rfl ?_
  refine G.aload_n C 0 dX5_play_0 rfl rfl ?_
  refine G.getR (ci := 4) (k := 3) C rfl inlX5 (by decide) m9_25 rfl hf dX5_play_1 (fun v1 hv1 hf => ?_)
  try dsimp only at hf
  obtain ⟨v2, hv2, hf⟩ := bind_some hf
  try dsimp only at hf
  refine G.callV C (st := []) (st2 := [.int (v2)]) (ct_X4_isComplete hv2) (ko_X4_isComplete hv2) rfl m9_611 m9_612 m9_613 m9_24 m9_614 kd_X4_isComplete ⟨Nat.le_of_ble_eq_true rfl, Nat.le_of_ble_eq_true rfl⟩ ⟨Nat.zero_le _, Nat.zero_le _⟩ (Nat.le_of_ble_eq_true rfl) rfl rfl dX5_play_4 ?_
  refine G.if_ne (tgt := 20) C dX5_play_7 (by decide) hf (fun c17 hf => ?_) (fun c17 hf => ?_)
  · refine G.aload_n C 0 dX5_play_20 rfl rfl ?_
    refine G.getR (ci := 4) (k := 2) C rfl inlX5 (by decide) m9_21 rfl hf dX5_play_21 (fun v3 hv3 hf => ?_)
    try dsimp only at hf
    refine G.aload_n C 0 dX5_play_24 rfl rfl ?_
    refine G.getR (ci := 4) (k := 0) C rfl inlX5 (by decide) m9_16 rfl hf dX5_play_25 (fun v4 hv4 hf => ?_)
    try dsimp only at hf
    obtain ⟨h5, hh5, hf⟩ := bind_some hf
    try dsimp only at hf
    refine G.callV C (st := []) (st2 := []) (ct_X0_save hh5) (ko_X0_save hh5) rfl m9_109 m9_110 m9_111 m9_20 m9_112 kd_X0_save ⟨Nat.le_of_ble_eq_true rfl, Nat.le_of_ble_eq_true rfl⟩ ⟨Nat.zero_le _, Nat.zero_le _⟩ (Nat.le_of_ble_eq_true rfl) rfl rfl dX5_play_28 ?_
    refine G.iconst (v := 0) C dX5_play_31 (by decide) ?_
    refine G.istore_n (lv' := [(1, .int ((0 : Int32))), (0, .ref (a0))]) C dX5_play_32 rfl (by decide) rfl ?_
    refine G.iconst (v := 0) C dX5_play_33 (by decide) ?_
    refine G.istore_n (lv' := [(2, .int ((0 : Int32))), (1, .int ((0 : Int32))), (0, .ref (a0))]) C dX5_play_34 rfl (by decide) rfl ?_
    refine G.iconst (v := 0) C dX5_play_35 (by decide) ?_
    refine G.istore_n (lv' := [(3, .int ((0 : Int32))), (2, .int ((0 : Int32))), (1, .int ((0 : Int32))), (0, .ref (a0))]) C dX5_play_36 rfl (by decide) rfl ?_
    obtain ⟨z6, hlp6, hfo6⟩ := bind_some hf
    clear hf
    have hloop6 : ∀ (k : Nat), ∀ (x1 : Int32) (x2 : Int32) (x3 : Int32) (hh : PH), (lpn (f_X5_play_L37 (a0)) k (x1, x2, x3, hh)) = some z6 → G p l e ({ frames := 6, cells := cN (xIW r), slots := cS (xIW r), locals := 119 } : Room) s m args below meth c 5 g X h 0 0 (vx_MQ below (QX g X h s.heap.size (xIW r)) (XX g X h s.heap.size (xIW r)) args s (cN (xIW r)) (cS (xIW r)) (AF X h s.heap.size)) 37 [(0, .ref (a0)), (1, .int (x1)), (2, .int (x2)), (3, .int (x3))] [] hh := by
      intro k
      induction k with
      | zero => intro x1 x2 x3 hh hlp6; exact (lpn_0 hlp6).elim
      | succ k ih6 =>
        intro x1 x2 x3 hh hlp6
        obtain ⟨y6, hf, hlp6⟩ := lpn_s hlp6
        unfold f_X5_play_L37 at hf
        try dsimp only at hf
        refine G.iload_n C 3 dX5_play_37 rfl rfl ?_
        refine G.bipush (v := 60) C dX5_play_38 (by decide) ?_
        refine G.icmp_ge (tgt := 91) C dX5_play_40 (by decide) hf (fun c16 hf => ?_) (fun c16 hf => ?_)
        · cases hf
          change some _ = some _ at hlp6
          have hf := hfo6
          try rw [← Option.some.inj hlp6] at hf
          try dsimp only at hf
          refine G.sub C [0, 1] (lv' := [(0, .ref (a0)), (1, .int (x1))]) rfl ?_
          exact hj91 _ _ _ hf
        · refine G.iload_n C 2 dX5_play_43 rfl rfl ?_
          refine G.aload_n C 0 dX5_play_44 rfl rfl ?_
          refine G.getR (ci := 4) (k := 3) C rfl inlX5 (by decide) m9_25 rfl hf dX5_play_45 (fun v7 hv7 hf => ?_)
          try dsimp only at hf
          obtain ⟨v8, hv8, hf⟩ := bind_some hf
          try dsimp only at hf
          refine G.callV C (st := [.int (x2)]) (st2 := [.int (v8), .int (x2)]) (ct_X4_length hv8) (ko_X4_length hv8) rfl m9_517 m9_518 m9_519 m9_24 m9_520 kd_X4_length ⟨Nat.le_of_ble_eq_true rfl, Nat.le_of_ble_eq_true rfl⟩ ⟨Nat.zero_le _, Nat.zero_le _⟩ (Nat.le_of_ble_eq_true rfl) rfl rfl dX5_play_48 ?_
          refine G.icmp_ge (tgt := 91) C dX5_play_51 (by decide) hf (fun c15 hf => ?_) (fun c15 hf => ?_)
          · cases hf
            change some _ = some _ at hlp6
            have hf := hfo6
            try rw [← Option.some.inj hlp6] at hf
            try dsimp only at hf
            refine G.sub C [0, 1] (lv' := [(0, .ref (a0)), (1, .int (x1))]) rfl ?_
            exact hj91 _ _ _ hf
          · refine G.aload_n C 0 dX5_play_54 rfl rfl ?_
            refine G.getR (ci := 4) (k := 3) C rfl inlX5 (by decide) m9_25 rfl hf dX5_play_55 (fun v9 hv9 hf => ?_)
            try dsimp only at hf
            refine G.iload_n C 2 dX5_play_58 rfl rfl ?_
            obtain ⟨v10, hv10, hf⟩ := bind_some hf
            try dsimp only at hf
            refine G.callV C (st := []) (st2 := [.int (v10)]) (ct_X4_partEnd hv10) (ko_X4_partEnd hv10) rfl m9_615 m9_616 m9_617 m9_24 m9_618 kd_X4_partEnd ⟨Nat.le_of_ble_eq_true rfl, Nat.le_of_ble_eq_true rfl⟩ ⟨Nat.zero_le _, Nat.zero_le _⟩ (Nat.le_of_ble_eq_true rfl) rfl rfl dX5_play_59 ?_
            refine G.istore (lv' := [(4, .int (v10)), (0, .ref (a0)), (1, .int (x1)), (2, .int (x2)), (3, .int (x3))]) C dX5_play_62 (by decide) rfl ?_
            refine G.aload_n C 1 dX5_play_64 rfl rfl ?_
            refine G.iload_n C 3 dX5_play_65 rfl rfl ?_
            refine G.iload C 0 dX5_play_66 rfl ?_
            obtain ⟨⟨v11, h12⟩, hv11, hf⟩ := bind_some hf
            try dsimp only at hf
            refine G.callV C (st := []) (st2 := [.int (v11)]) (ct_X5_playPart hv11) (ko_X5_playPart hv11) rfl m9_619 m9_620 m9_621 m9_2 m9_622 kd_X5_playPart ⟨Nat.le_of_ble_eq_true rfl, Nat.le_of_ble_eq_true rfl⟩ ⟨Nat.zero_le _, Nat.zero_le _⟩ (Nat.le_of_ble_eq_true rfl) rfl rfl dX5_play_68 ?_
            refine G.if_ne (tgt := 77) C dX5_play_71 (by decide) hf (fun c14 hf => ?_) (fun c14 hf => ?_)
            · refine G.iinc (k := 2) (v := (x1 + 1)) (lv' := [(1, .int ((x1 + 1))), (4, .int (v10)), (0, .ref (a0)), (2, .int (x2)), (3, .int (x3))]) C dX5_play_77 rfl rfl (by decide) rfl ?_
              refine G.iload C 1 dX5_play_80 rfl ?_
              refine G.iconst (v := 1) C dX5_play_82 (by decide) ?_
              refine G.iadd C dX5_play_83 ?_
              refine G.istore_n (lv' := [(2, .int ((v10 + (1 : Int32)))), (1, .int ((x1 + 1))), (4, .int (v10)), (0, .ref (a0)), (3, .int (x3))]) C dX5_play_84 rfl (by decide) rfl ?_
              refine G.iinc (k := 4) (v := (x3 + 1)) (lv' := [(3, .int ((x3 + 1))), (2, .int ((v10 + (1 : Int32)))), (1, .int ((x1 + 1))), (4, .int (v10)), (0, .ref (a0))]) C dX5_play_85 rfl rfl (by decide) rfl ?_
              refine G.goto (tgt := 37) C dX5_play_88 (by decide) ?_
              cases hf
              refine G.sub C [4, 2, 1, 0] (lv' := [(0, .ref (a0)), (1, .int ((x1 + 1))), (2, .int ((v10 + (1 : Int32)))), (3, .int ((x3 + 1)))]) rfl ?_
              exact ih6 _ _ _ _ hlp6
            · cases hf
              change some _ = some _ at hlp6
              have hf := hfo6
              try rw [← Option.some.inj hlp6] at hf
              try dsimp only at hf
              refine G.sub C [1, 2] (lv' := [(0, .ref (a0)), (1, .int (x1))]) rfl ?_
              exact hj74 _ _ _ hf
    refine G.sub C [3, 2, 1, 0] (lv' := [(0, .ref (a0)), (1, .int ((0 : Int32))), (2, .int ((0 : Int32))), (3, .int ((0 : Int32)))]) rfl ?_
    exact hloop6 LF _ _ _ _ hlp6
  · cases hf
    exact G.throwIA (is := 183) (text := "the buffer is not complete ropes as a text") C TT tab rfl m9_87 m9_88 (by decide +kernel) dX5_play_10 dX5_play_13 dX5_play_14 dX5_play_16 dX5_play_19 (Nat.le_of_ble_eq_true rfl) (Nat.le_of_ble_eq_true rfl) ⟨rfl, rfl⟩
theorem ko_X5_undo {h : PH} {a0 : Nat} {r : (Except (String × PH) (Int32 × PH))} (hf : f_X5_undo h a0 = some r) : kO h a0 4 := by
  unfold f_X5_undo at hf
  exact okO_k (gd_ok hf).1
theorem kd_X5_undo : yX5_undo.cls = RX5 ∧ yX5_undo.cls ≠ "java/lang/invoke/MethodHandle" ∧ yX5_undo.cls ≠ "java/lang/invoke/VarHandle" ∧ (parseMethodDescriptor yX5_undo.desc).map (fun d => d.parameters.length) = some 0 := by decide +kernel
set_option maxRecDepth 20000 in
set_option maxHeartbeats 4000000 in
theorem cx_X5_undo {l : Launch} {h : PH} {a0 : Nat} {r : (Except (String × PH) (Int32 × PH))} (hf : f_X5_undo h a0 = some r) : CX l yX5_undo cX5_undo 1 (some .int) 6 90 [.ref (a0)] h (xIW r) := by
  refine CX.of (own := RX5) rfl (by decide) (Nat.le_of_ble_eq_true rfl) ?_
  intro p e R s m args below meth c g X hR C TT tab
  subst hR
  unfold f_X5_undo at hf
  obtain ⟨hok, hf⟩ := gd_ok hf
  refine G.sub C [0] (lv' := [(0, .ref (a0))]) rfl ?_
  refine G.aload_n C 0 dX5_undo_0 rfl rfl ?_
  refine G.getR (ci := 4) (k := 2) C rfl inlX5 (by decide) m9_21 rfl hf dX5_undo_1 (fun v1 hv1 hf => ?_)
  try dsimp only at hf
  obtain ⟨v2, hv2, hf⟩ := bind_some hf
  try dsimp only at hf
  refine G.callV C (st := []) (st2 := [.int (v2)]) (ct_X0_size hv2) (ko_X0_size hv2) rfl m9_643 m9_644 m9_645 m9_20 m9_646 kd_X0_size ⟨Nat.le_of_ble_eq_true rfl, Nat.le_of_ble_eq_true rfl⟩ ⟨Nat.zero_le _, Nat.zero_le _⟩ (Nat.le_of_ble_eq_true rfl) rfl rfl dX5_undo_4 ?_
  refine G.if_ne (tgt := 20) C dX5_undo_7 (by decide) hf (fun c8 hf => ?_) (fun c8 hf => ?_)
  · refine G.aload_n C 0 dX5_undo_20 rfl rfl ?_
    refine G.getR (ci := 4) (k := 2) C rfl inlX5 (by decide) m9_21 rfl hf dX5_undo_21 (fun v3 hv3 hf => ?_)
    try dsimp only at hf
    refine G.aload_n C 0 dX5_undo_24 rfl rfl ?_
    refine G.getR (ci := 4) (k := 0) C rfl inlX5 (by decide) m9_16 rfl hf dX5_undo_25 (fun v4 hv4 hf => ?_)
    try dsimp only at hf
    obtain ⟨h5, hh5, hf⟩ := bind_some hf
    try dsimp only at hf
    refine G.callV C (st := []) (st2 := []) (ct_X0_restoreLatest hh5) (ko_X0_restoreLatest hh5) rfl m9_647 m9_648 m9_649 m9_20 m9_650 kd_X0_restoreLatest ⟨Nat.le_of_ble_eq_true rfl, Nat.le_of_ble_eq_true rfl⟩ ⟨Nat.zero_le _, Nat.zero_le _⟩ (Nat.le_of_ble_eq_true rfl) rfl rfl dX5_undo_28 ?_
    refine G.aload_n C 0 dX5_undo_31 rfl rfl ?_
    refine G.getR (ci := 4) (k := 2) C rfl inlX5 (by decide) m9_21 rfl hf dX5_undo_32 (fun v6 hv6 hf => ?_)
    try dsimp only at hf
    obtain ⟨v7, hv7, hf⟩ := bind_some hf
    try dsimp only at hf
    refine G.callV C (st := []) (st2 := [.int (v7)]) (ct_X0_size hv7) (ko_X0_size hv7) rfl m9_643 m9_644 m9_645 m9_20 m9_646 kd_X0_size ⟨Nat.le_of_ble_eq_true rfl, Nat.le_of_ble_eq_true rfl⟩ ⟨Nat.zero_le _, Nat.zero_le _⟩ (Nat.le_of_ble_eq_true rfl) rfl rfl dX5_undo_35 ?_
    cases hf
    refine G.retX rfl ?_
    exact G.iret C rfl dX5_undo_38
  · cases hf
    exact G.throwIS (is := 195) (text := "there is no saved state") C TT tab rfl m9_89 m9_90 (by decide +kernel) dX5_undo_10 dX5_undo_13 dX5_undo_14 dX5_undo_16 dX5_undo_19 (Nat.le_of_ble_eq_true rfl) (Nat.le_of_ble_eq_true rfl) ⟨rfl, rfl⟩
theorem ko_X5_keep {h : PH} {a0 : Nat} {r : (Int32 × PH)} (hf : f_X5_keep h a0 = some r) : kO h a0 4 := by
  unfold f_X5_keep at hf
  exact okO_k (gd_ok hf).1
theorem kd_X5_keep : yX5_keep.cls = RX5 ∧ yX5_keep.cls ≠ "java/lang/invoke/MethodHandle" ∧ yX5_keep.cls ≠ "java/lang/invoke/VarHandle" ∧ (parseMethodDescriptor yX5_keep.desc).map (fun d => d.parameters.length) = some 0 := by decide +kernel
set_option maxRecDepth 20000 in
set_option maxHeartbeats 4000000 in
theorem ct_X5_keep {l : Launch} {h : PH} {a0 : Nat} {r : (Int32 × PH)} (hf : f_X5_keep h a0 = some r) : CT l yX5_keep cX5_keep 1 (some .int) 2 46 [.ref (a0)] h (some (.int r.1)) r.2 := by
  refine CT.of (own := RX5) rfl (by decide) (Nat.le_of_ble_eq_true rfl) ?_
  intro p e R s m args below meth c g X hR C
  subst hR
  unfold f_X5_keep at hf
  obtain ⟨hok, hf⟩ := gd_ok hf
  refine G.sub C [0] (lv' := [(0, .ref (a0))]) rfl ?_
  refine G.aload_n C 0 dX5_keep_0 rfl rfl ?_
  refine G.getR (ci := 4) (k := 1) C rfl inlX5 (by decide) m9_17 rfl hf dX5_keep_1 (fun v1 hv1 hf => ?_)
  try dsimp only at hf
  refine G.aload_n C 0 dX5_keep_4 rfl rfl ?_
  refine G.getR (ci := 4) (k := 0) C rfl inlX5 (by decide) m9_16 rfl hf dX5_keep_5 (fun v2 hv2 hf => ?_)
  try dsimp only at hf
  obtain ⟨h3, hh3, hf⟩ := bind_some hf
  try dsimp only at hf
  refine G.callV C (st := []) (st2 := []) (ct_X3_copyFrom hh3) (ko_X3_copyFrom hh3) rfl m9_659 m9_122 m9_123 m9_15 m9_124 kd_X3_copyFrom ⟨Nat.le_of_ble_eq_true rfl, Nat.le_of_ble_eq_true rfl⟩ ⟨Nat.zero_le _, Nat.zero_le _⟩ (Nat.le_of_ble_eq_true rfl) rfl rfl dX5_keep_8 ?_
  refine G.aload_n C 0 dX5_keep_11 rfl rfl ?_
  refine G.iconst (v := 1) C dX5_keep_12 (by decide) ?_
  refine G.put (ci := 4) (k := 5) C rfl inlX5 (by decide) m9_30 rfl tyX5 tyX5_ok nmX5 rfl rfl rfl hf dX5_keep_13 (fun h4 hh4 hf => ?_)
  try dsimp only at hf
  refine G.aload_n C 0 dX5_keep_16 rfl rfl ?_
  refine G.getR (ci := 4) (k := 0) C rfl inlX5 (by decide) m9_16 rfl hf dX5_keep_17 (fun v5 hv5 hf => ?_)
  try dsimp only at hf
  obtain ⟨v6, hv6, hf⟩ := bind_some hf
  try dsimp only at hf
  refine G.callV C (st := []) (st2 := [.int (v6)]) (ct_X3_ropeCount hv6) (ko_X3_ropeCount hv6) rfl m9_191 m9_192 m9_193 m9_15 m9_194 kd_X3_ropeCount ⟨Nat.le_of_ble_eq_true rfl, Nat.le_of_ble_eq_true rfl⟩ ⟨Nat.zero_le _, Nat.zero_le _⟩ (Nat.le_of_ble_eq_true rfl) rfl rfl dX5_keep_20 ?_
  cases hf
  exact G.iret C rfl dX5_keep_23
theorem ko_X5_restore {h : PH} {a0 : Nat} {r : (Except (String × PH) (Int32 × PH))} (hf : f_X5_restore h a0 = some r) : kO h a0 4 := by
  unfold f_X5_restore at hf
  exact okO_k (gd_ok hf).1
theorem kd_X5_restore : yX5_restore.cls = RX5 ∧ yX5_restore.cls ≠ "java/lang/invoke/MethodHandle" ∧ yX5_restore.cls ≠ "java/lang/invoke/VarHandle" ∧ (parseMethodDescriptor yX5_restore.desc).map (fun d => d.parameters.length) = some 0 := by decide +kernel
set_option maxRecDepth 20000 in
set_option maxHeartbeats 4000000 in
theorem cx_X5_restore {l : Launch} {h : PH} {a0 : Nat} {r : (Except (String × PH) (Int32 × PH))} (hf : f_X5_restore h a0 = some r) : CX l yX5_restore cX5_restore 1 (some .int) 6 90 [.ref (a0)] h (xIW r) := by
  refine CX.of (own := RX5) rfl (by decide) (Nat.le_of_ble_eq_true rfl) ?_
  intro p e R s m args below meth c g X hR C TT tab
  subst hR
  unfold f_X5_restore at hf
  obtain ⟨hok, hf⟩ := gd_ok hf
  refine G.sub C [0] (lv' := [(0, .ref (a0))]) rfl ?_
  refine G.aload_n C 0 dX5_restore_0 rfl rfl ?_
  refine G.getI (ci := 4) (k := 5) C rfl inlX5 (by decide) m9_30 rfl hf dX5_restore_1 (fun v1 hv1 hf => ?_)
  try dsimp only at hf
  refine G.if_ne (tgt := 17) C dX5_restore_4 (by decide) hf (fun c10 hf => ?_) (fun c10 hf => ?_)
  · refine G.aload_n C 0 dX5_restore_17 rfl rfl ?_
    refine G.getR (ci := 4) (k := 2) C rfl inlX5 (by decide) m9_21 rfl hf dX5_restore_18 (fun v2 hv2 hf => ?_)
    try dsimp only at hf
    refine G.aload_n C 0 dX5_restore_21 rfl rfl ?_
    refine G.getR (ci := 4) (k := 0) C rfl inlX5 (by decide) m9_16 rfl hf dX5_restore_22 (fun v3 hv3 hf => ?_)
    try dsimp only at hf
    obtain ⟨h4, hh4, hf⟩ := bind_some hf
    try dsimp only at hf
    refine G.callV C (st := []) (st2 := []) (ct_X0_save hh4) (ko_X0_save hh4) rfl m9_109 m9_110 m9_111 m9_20 m9_112 kd_X0_save ⟨Nat.le_of_ble_eq_true rfl, Nat.le_of_ble_eq_true rfl⟩ ⟨Nat.zero_le _, Nat.zero_le _⟩ (Nat.le_of_ble_eq_true rfl) rfl rfl dX5_restore_25 ?_
    refine G.aload_n C 0 dX5_restore_28 rfl rfl ?_
    refine G.getR (ci := 4) (k := 0) C rfl inlX5 (by decide) m9_16 rfl hf dX5_restore_29 (fun v5 hv5 hf => ?_)
    try dsimp only at hf
    refine G.aload_n C 0 dX5_restore_32 rfl rfl ?_
    refine G.getR (ci := 4) (k := 1) C rfl inlX5 (by decide) m9_17 rfl hf dX5_restore_33 (fun v6 hv6 hf => ?_)
    try dsimp only at hf
    obtain ⟨h7, hh7, hf⟩ := bind_some hf
    try dsimp only at hf
    refine G.callV C (st := []) (st2 := []) (ct_X3_copyFrom hh7) (ko_X3_copyFrom hh7) rfl m9_659 m9_122 m9_123 m9_15 m9_124 kd_X3_copyFrom ⟨Nat.le_of_ble_eq_true rfl, Nat.le_of_ble_eq_true rfl⟩ ⟨Nat.zero_le _, Nat.zero_le _⟩ (Nat.le_of_ble_eq_true rfl) rfl rfl dX5_restore_36 ?_
    refine G.aload_n C 0 dX5_restore_39 rfl rfl ?_
    refine G.getR (ci := 4) (k := 0) C rfl inlX5 (by decide) m9_16 rfl hf dX5_restore_40 (fun v8 hv8 hf => ?_)
    try dsimp only at hf
    obtain ⟨v9, hv9, hf⟩ := bind_some hf
    try dsimp only at hf
    refine G.callV C (st := []) (st2 := [.int (v9)]) (ct_X3_ropeCount hv9) (ko_X3_ropeCount hv9) rfl m9_191 m9_192 m9_193 m9_15 m9_194 kd_X3_ropeCount ⟨Nat.le_of_ble_eq_true rfl, Nat.le_of_ble_eq_true rfl⟩ ⟨Nat.zero_le _, Nat.zero_le _⟩ (Nat.le_of_ble_eq_true rfl) rfl rfl dX5_restore_43 ?_
    cases hf
    refine G.retX rfl ?_
    exact G.iret C rfl dX5_restore_46
  · cases hf
    exact G.throwIS (is := 202) (text := "there is no snapshot") C TT tab rfl m9_89 m9_90 (by decide +kernel) dX5_restore_7 dX5_restore_10 dX5_restore_11 dX5_restore_13 dX5_restore_16 (Nat.le_of_ble_eq_true rfl) (Nat.le_of_ble_eq_true rfl) ⟨rfl, rfl⟩
theorem ko_X5_place {h : PH} {a0 : Nat} {a1 : Int32} {a2 : Int32} {r : (Except String Int32)} (hf : f_X5_place h a0 a1 a2 = some r) : kO h a0 4 := by
  unfold f_X5_place at hf
  exact okO_k (gd_ok hf).1
theorem kd_X5_place : yX5_place.cls = RX5 ∧ yX5_place.cls ≠ "java/lang/invoke/MethodHandle" ∧ yX5_place.cls ≠ "java/lang/invoke/VarHandle" ∧ (parseMethodDescriptor yX5_place.desc).map (fun d => d.parameters.length) = some 2 := by decide +kernel
set_option maxRecDepth 20000 in
set_option maxHeartbeats 4000000 in
theorem cx_X5_place {l : Launch} {h : PH} {a0 : Nat} {a1 : Int32} {a2 : Int32} {r : (Except String Int32)} (hf : f_X5_place h a0 a1 a2 = some r) : CX l yX5_place cX5_place 4 (some .int) 7 112 [.ref (a0), .int (a1), .int (a2)] h (xI h r) := by
  refine CX.of (own := RX5) rfl (by decide) (Nat.le_of_ble_eq_true rfl) ?_
  intro p e R s m args below meth c g X hR C TT tab
  subst hR
  unfold f_X5_place at hf
  obtain ⟨hok, hf⟩ := gd_ok hf
  have hj18 : f_X5_place_J18 h = some r → G p l e ({ frames := 7, cells := cN (xI h r), slots := cS (xI h r), locals := 112 } : Room) s m args below meth c 4 g X h 0 0 (vx_MQ below (QX g X h s.heap.size (xI h r)) (XX g X h s.heap.size (xI h r)) args s (cN (xI h r)) (cS (xI h r)) (AF X h s.heap.size)) 18 [] [] h := by
    intro hf
    unfold f_X5_place_J18 at hf
    cases hf
    exact G.throwIO (is := 206) (text := "there is no such place") C TT tab rfl m9_95 m9_96 (by decide +kernel) dX5_place_18 dX5_place_21 dX5_place_22 dX5_place_24 dX5_place_27 (Nat.le_of_ble_eq_true rfl) (Nat.le_of_ble_eq_true rfl) ⟨rfl, rfl⟩
  refine G.sub C [0, 1, 2] (lv' := [(0, .ref (a0)), (1, .int (a1)), (2, .int (a2))]) rfl ?_
  refine G.aload_n C 0 dX5_place_0 rfl rfl ?_
  refine G.iload_n C 1 dX5_place_1 rfl rfl ?_
  obtain ⟨r1, hr1, hf⟩ := bind_some hf
  cases r1 with
  | error E4 =>
    try dsimp only at hf
    cases hf
    exact G.callXe C TT tab (st := []) (cx_X5_existing hr1) rfl rfl ⟨rfl, rfl⟩ (ko_X5_existing hr1) rfl m9_229 m9_230 m9_231 m9_2 m9_232 kd_X5_existing ⟨Nat.le_of_ble_eq_true rfl, Nat.le_of_ble_eq_true rfl⟩ (Nat.le_of_ble_eq_true rfl) rfl dX5_place_2
  | ok v2 =>
    try dsimp only at hf
    refine G.callXo C TT (st := []) (st2 := [.ref (v2)]) (cx_X5_existing hr1) rfl (ko_X5_existing hr1) rfl m9_229 m9_230 m9_231 m9_2 m9_232 kd_X5_existing ⟨Nat.le_of_ble_eq_true rfl, Nat.le_of_ble_eq_true rfl⟩ (Nat.le_of_ble_eq_true rfl) rfl rfl dX5_place_2 ?_
    refine G.astore_n (lv' := [(3, .ref (v2)), (0, .ref (a0)), (1, .int (a1)), (2, .int (a2))]) C dX5_place_5 rfl (by decide) rfl ?_
    refine G.iload_n C 3 dX5_place_6 rfl rfl ?_
    refine G.if_lt (tgt := 18) C dX5_place_7 (by decide) hf (fun c8 hf => ?_) (fun c8 hf => ?_)
    · refine G.sub C [] (lv' := []) rfl ?_
      exact hj18  hf
    · refine G.iload_n C 3 dX5_place_10 rfl rfl ?_
      refine G.aload_n C 0 dX5_place_11 rfl rfl ?_
      obtain ⟨v5, hv5, hf⟩ := bind_some hf
      try dsimp only at hf
      refine G.callV C (st := [.int (a2)]) (st2 := [.int (v5), .int (a2)]) (ct_X2_length hv5) (ko_X2_length hv5) rfl m9_354 m9_355 m9_356 m9_28 m9_357 kd_X2_length ⟨Nat.le_of_ble_eq_true rfl, Nat.le_of_ble_eq_true rfl⟩ ⟨Nat.zero_le _, Nat.zero_le _⟩ (Nat.le_of_ble_eq_true rfl) rfl rfl dX5_place_12 ?_
      refine G.icmp_lt (tgt := 28) C dX5_place_15 (by decide) hf (fun c7 hf => ?_) (fun c7 hf => ?_)
      · refine G.aload_n C 0 dX5_place_28 rfl rfl ?_
        refine G.iload_n C 3 dX5_place_29 rfl rfl ?_
        obtain ⟨v6, hv6, hf⟩ := bind_some hf
        try dsimp only at hf
        refine G.callV C (st := []) (st2 := [.int (v6)]) (ct_X2_colourAt hv6) (ko_X2_colourAt hv6) rfl m9_683 m9_267 m9_268 m9_28 m9_269 kd_X2_colourAt ⟨Nat.le_of_ble_eq_true rfl, Nat.le_of_ble_eq_true rfl⟩ ⟨Nat.zero_le _, Nat.zero_le _⟩ (Nat.le_of_ble_eq_true rfl) rfl rfl dX5_place_30 ?_
        cases hf
        refine G.retX rfl ?_
        exact G.iret C rfl dX5_place_33
      · refine G.sub C [] (lv' := []) rfl ?_
        exact hj18  hf
theorem ko_X5_requireWhat {h : PH} {a0 : Nat} {a1 : Int32} {a2 : Int32} {r : (Except String Unit)} (hf : f_X5_requireWhat h a0 a1 a2 = some r) : kO h a0 4 := by
  unfold f_X5_requireWhat at hf
  exact okO_k (gd_ok hf).1
theorem kd_X5_requireWhat : yX5_requireWhat.cls = RX5 ∧ yX5_requireWhat.cls ≠ "java/lang/invoke/MethodHandle" ∧ yX5_requireWhat.cls ≠ "java/lang/invoke/VarHandle" ∧ (parseMethodDescriptor yX5_requireWhat.desc).map (fun d => d.parameters.length) = some 2 := by decide +kernel
set_option maxRecDepth 20000 in
set_option maxHeartbeats 4000000 in
theorem cx_X5_requireWhat {l : Launch} {h : PH} {a0 : Nat} {a1 : Int32} {a2 : Int32} {r : (Except String Unit)} (hf : f_X5_requireWhat h a0 a1 a2 = some r) : CX l yX5_requireWhat cX5_requireWhat 3 none 6 90 [.ref (a0), .int (a1), .int (a2)] h (xV h r) := by
  refine CX.of (own := RX5) rfl (by decide) (Nat.le_of_ble_eq_true rfl) ?_
  intro p e R s m args below meth c g X hR C TT tab
  subst hR
  unfold f_X5_requireWhat at hf
  obtain ⟨hok, hf⟩ := gd_ok hf
  have hj9 : f_X5_requireWhat_J9 h = some r → G p l e ({ frames := 6, cells := cN (xV h r), slots := cS (xV h r), locals := 90 } : Room) s m args below meth c 3 g X h 0 0 (vx_MQ below (QX g X h s.heap.size (xV h r)) (XX g X h s.heap.size (xV h r)) args s (cN (xV h r)) (cS (xV h r)) (AF X h s.heap.size)) 9 [] [] h := by
    intro hf
    unfold f_X5_requireWhat_J9 at hf
    cases hf
    exact G.throwIAw (is := 279) (text := "there is no such number") C TT tab rfl m9_87 m9_88 (by decide +kernel) dX5_requireWhat_9 dX5_requireWhat_12 dX5_requireWhat_13 dX5_requireWhat_16 dX5_requireWhat_19 (Nat.le_of_ble_eq_true rfl) (Nat.le_of_ble_eq_true rfl) ⟨rfl, rfl⟩
  refine G.sub C [0, 1, 2] (lv' := [(0, .ref (a0)), (1, .int (a1)), (2, .int (a2))]) rfl ?_
  refine G.iload_n C 1 dX5_requireWhat_0 rfl rfl ?_
  refine G.if_lt (tgt := 9) C dX5_requireWhat_1 (by decide) hf (fun c2 hf => ?_) (fun c2 hf => ?_)
  · refine G.sub C [] (lv' := []) rfl ?_
    exact hj9  hf
  · refine G.iload_n C 1 dX5_requireWhat_4 rfl rfl ?_
    refine G.iload_n C 2 dX5_requireWhat_5 rfl rfl ?_
    refine G.icmp_lt (tgt := 20) C dX5_requireWhat_6 (by decide) hf (fun c1 hf => ?_) (fun c1 hf => ?_)
    · cases hf
      refine G.retX rfl ?_
      exact G.vret C rfl dX5_requireWhat_20
    · refine G.sub C [] (lv' := []) rfl ?_
      exact hj9  hf
theorem ko_X5_period {h : PH} {a0 : Nat} {a1 : Nat} {r : Int32} (hf : f_X5_period h a0 a1 = some r) : kO h a0 4 := by
  unfold f_X5_period at hf
  exact okO_k (gd_ok hf).1
theorem kd_X5_period : yX5_period.cls = RX5 ∧ yX5_period.cls ≠ "java/lang/invoke/MethodHandle" ∧ yX5_period.cls ≠ "java/lang/invoke/VarHandle" ∧ (parseMethodDescriptor yX5_period.desc).map (fun d => d.parameters.length) = some 1 := by decide +kernel
set_option maxRecDepth 20000 in
set_option maxHeartbeats 4000000 in
theorem ct_X5_period {l : Launch} {h : PH} {a0 : Nat} {a1 : Nat} {r : Int32} (hf : f_X5_period h a0 a1 = some r) : CT l yX5_period cX5_period 4 (some .int) 2 47 [.ref (a0), .ref (a1)] h (some (.int r)) h := by
  refine CT.of (own := RX5) rfl (by decide) (Nat.le_of_ble_eq_true rfl) ?_
  intro p e R s m args below meth c g X hR C
  subst hR
  unfold f_X5_period at hf
  obtain ⟨hok, hf⟩ := gd_ok hf
  have hj35 : ∀ (x2 : Int32), f_X5_period_J35 h (x2) = some r → G p l e ({ frames := 2, cells := 0, slots := 0, locals := 47 } : Room) s m args below meth c 4 g X h 0 0 (MQ below (QW g X h s.heap.size (some (.int r)) h) args s 0 0 (AF X h s.heap.size)) 35 [(2, .int (x2))] [] h := by
    intro x2 hf
    unfold f_X5_period_J35 at hf
    refine G.iload_n C 0 dX5_period_35 rfl rfl ?_
    cases hf
    exact G.iret C rfl dX5_period_36
  refine G.sub C [0, 1] (lv' := [(0, .ref (a0)), (1, .ref (a1))]) rfl ?_
  refine G.iconst (v := 1) C dX5_period_0 (by decide) ?_
  refine G.istore_n (lv' := [(2, .int ((1 : Int32))), (0, .ref (a0)), (1, .ref (a1))]) C dX5_period_1 rfl (by decide) rfl ?_
  refine G.iconst (v := 0) C dX5_period_2 (by decide) ?_
  refine G.istore_n (lv' := [(3, .int ((0 : Int32))), (2, .int ((1 : Int32))), (0, .ref (a0)), (1, .ref (a1))]) C dX5_period_3 rfl (by decide) rfl ?_
  obtain ⟨z1, hlp1, hfo1⟩ := bind_some hf
  clear hf
  have hloop1 : ∀ (k : Nat), ∀ (x2 : Int32) (x3 : Int32), (lpn (f_X5_period_L4 (h) (a0) (a1)) k (x2, x3)) = some z1 → G p l e ({ frames := 2, cells := 0, slots := 0, locals := 47 } : Room) s m args below meth c 4 g X h 0 0 (MQ below (QW g X h s.heap.size (some (.int r)) h) args s 0 0 (AF X h s.heap.size)) 4 [(0, .ref (a0)), (1, .ref (a1)), (2, .int (x2)), (3, .int (x3))] [] h := by
    intro k
    induction k with
    | zero => intro x2 x3 hlp1; exact (lpn_0 hlp1).elim
    | succ k ih1 =>
      intro x2 x3 hlp1
      obtain ⟨y1, hf, hlp1⟩ := lpn_s hlp1
      unfold f_X5_period_L4 at hf
      try dsimp only at hf
      refine G.iload_n C 3 dX5_period_4 rfl rfl ?_
      refine G.aload_n C 1 dX5_period_5 rfl rfl ?_
      obtain ⟨v2, hv2, hf⟩ := bind_some hf
      try dsimp only at hf
      refine G.callV C (st := [.int (x3)]) (st2 := [.int (v2), .int (x3)]) (ct_X2_hueCount hv2) (ko_X2_hueCount hv2) rfl m9_362 m9_363 m9_364 m9_28 m9_365 kd_X2_hueCount ⟨Nat.le_of_ble_eq_true rfl, Nat.le_of_ble_eq_true rfl⟩ ⟨Nat.zero_le _, Nat.zero_le _⟩ (Nat.le_of_ble_eq_true rfl) rfl rfl dX5_period_6 ?_
      refine G.icmp_ge (tgt := 35) C dX5_period_9 (by decide) hf (fun c7 hf => ?_) (fun c7 hf => ?_)
      · cases hf
        change some _ = some _ at hlp1
        have hf := hfo1
        try rw [← Option.some.inj hlp1] at hf
        try dsimp only at hf
        refine G.sub C [2] (lv' := [(2, .int (x2))]) rfl ?_
        exact hj35 _ hf
      · refine G.iload_n C 2 dX5_period_12 rfl rfl ?_
        refine G.aload_n C 0 dX5_period_13 rfl rfl ?_
        refine G.getR (ci := 4) (k := 0) C rfl inlX5 (by decide) m9_16 rfl hf dX5_period_14 (fun v3 hv3 hf => ?_)
        try dsimp only at hf
        refine G.aload_n C 1 dX5_period_17 rfl rfl ?_
        refine G.iload_n C 3 dX5_period_18 rfl rfl ?_
        obtain ⟨v4, hv4, hf⟩ := bind_some hf
        try dsimp only at hf
        refine G.callV C (st := [.ref (v3), .int (x2)]) (st2 := [.int (v4), .ref (v3), .int (x2)]) (ct_X2_hueAt hv4) (ko_X2_hueAt hv4) rfl m9_366 m9_367 m9_368 m9_28 m9_369 kd_X2_hueAt ⟨Nat.le_of_ble_eq_true rfl, Nat.le_of_ble_eq_true rfl⟩ ⟨Nat.zero_le _, Nat.zero_le _⟩ (Nat.le_of_ble_eq_true rfl) rfl rfl dX5_period_19 ?_
        obtain ⟨v5, hv5, hf⟩ := bind_some hf
        try dsimp only at hf
        refine G.callV C (st := [.int (x2)]) (st2 := [.int (v5), .int (x2)]) (ct_X3_gapAt hv5) (ko_X3_gapAt hv5) rfl m9_129 m9_130 m9_131 m9_15 m9_132 kd_X3_gapAt ⟨Nat.le_of_ble_eq_true rfl, Nat.le_of_ble_eq_true rfl⟩ ⟨Nat.zero_le _, Nat.zero_le _⟩ (Nat.le_of_ble_eq_true rfl) rfl rfl dX5_period_22 ?_
        obtain ⟨v6, hv6, hf⟩ := bind_some hf
        try dsimp only at hf
        refine G.callS C (st := []) (st2 := [.int (v6)]) (ct_X1_leastCommonMultiple hv6) m9_712 m9_713 m9_376 m9_714 kd_X1_leastCommonMultiple ⟨Nat.le_of_ble_eq_true rfl, Nat.le_of_ble_eq_true rfl⟩ ⟨Nat.zero_le _, Nat.zero_le _⟩ (Nat.le_of_ble_eq_true rfl) rfl rfl dX5_period_25 ?_
        refine G.istore_n (lv' := [(2, .int (v6)), (0, .ref (a0)), (1, .ref (a1)), (3, .int (x3))]) C dX5_period_28 rfl (by decide) rfl ?_
        refine G.iinc (k := 3) (v := (x3 + 1)) (lv' := [(3, .int ((x3 + 1))), (2, .int (v6)), (0, .ref (a0)), (1, .ref (a1))]) C dX5_period_29 rfl rfl (by decide) rfl ?_
        refine G.goto (tgt := 4) C dX5_period_32 (by decide) ?_
        cases hf
        refine G.sub C [2, 3, 1, 0] (lv' := [(0, .ref (a0)), (1, .ref (a1)), (2, .int (v6)), (3, .int ((x3 + 1)))]) rfl ?_
        exact ih1 _ _ hlp1
  refine G.sub C [2, 3, 1, 0] (lv' := [(0, .ref (a0)), (1, .ref (a1)), (2, .int ((1 : Int32))), (3, .int ((0 : Int32)))]) rfl ?_
  exact hloop1 LF _ _ hlp1
theorem ko_X5_ropeNumber {h : PH} {a0 : Nat} {a1 : Nat} {a2 : Int32} {r : Int32} (hf : f_X5_ropeNumber h a0 a1 a2 = some r) : kO h a0 4 := by
  unfold f_X5_ropeNumber at hf
  exact okO_k (gd_ok hf).1
theorem kd_X5_ropeNumber : yX5_ropeNumber.cls = RX5 ∧ yX5_ropeNumber.cls ≠ "java/lang/invoke/MethodHandle" ∧ yX5_ropeNumber.cls ≠ "java/lang/invoke/VarHandle" ∧ (parseMethodDescriptor yX5_ropeNumber.desc).map (fun d => d.parameters.length) = some 2 := by decide +kernel
set_option maxRecDepth 20000 in
set_option maxHeartbeats 4000000 in
theorem ct_X5_ropeNumber {l : Launch} {h : PH} {a0 : Nat} {a1 : Nat} {a2 : Int32} {r : Int32} (hf : f_X5_ropeNumber h a0 a1 a2 = some r) : CT l yX5_ropeNumber cX5_ropeNumber 3 (some .int) 3 70 [.ref (a0), .ref (a1), .int (a2)] h (some (.int r)) h := by
  refine CT.of (own := RX5) rfl (by decide) (Nat.le_of_ble_eq_true rfl) ?_
  intro p e R s m args below meth c g X hR C
  subst hR
  unfold f_X5_ropeNumber at hf
  obtain ⟨hok, hf⟩ := gd_ok hf
  refine G.sub C [0, 1, 2] (lv' := [(0, .ref (a0)), (1, .ref (a1)), (2, .int (a2))]) rfl ?_
  refine G.iload_n C 2 dX5_ropeNumber_0 rfl rfl ?_
  by_cases c1 : a2 = 0
  · rw [if_pos c1] at hf
    refine G.tswIn (tgt := 36) (off := 35) C c1 dX5_ropeNumber_1 (by decide) (by decide) rfl (by decide) ?_
    refine G.aload_n C 1 dX5_ropeNumber_36 rfl rfl ?_
    obtain ⟨v2, hv2, hf⟩ := bind_some hf
    try dsimp only at hf
    refine G.callV C (st := []) (st2 := [.int (v2)]) (ct_X2_length hv2) (ko_X2_length hv2) rfl m9_354 m9_355 m9_356 m9_28 m9_357 kd_X2_length ⟨Nat.le_of_ble_eq_true rfl, Nat.le_of_ble_eq_true rfl⟩ ⟨Nat.zero_le _, Nat.zero_le _⟩ (Nat.le_of_ble_eq_true rfl) rfl rfl dX5_ropeNumber_37 ?_
    cases hf
    exact G.iret C rfl dX5_ropeNumber_40
  · rw [if_neg c1] at hf
    by_cases c3 : a2 = 1
    · rw [if_pos c3] at hf
      refine G.tswIn (tgt := 41) (off := 40) C c3 dX5_ropeNumber_1 (by decide) (by decide) rfl (by decide) ?_
      refine G.aload_n C 1 dX5_ropeNumber_41 rfl rfl ?_
      obtain ⟨v4, hv4, hf⟩ := bind_some hf
      try dsimp only at hf
      refine G.callV C (st := []) (st2 := [.int (v4)]) (ct_X2_hueCount hv4) (ko_X2_hueCount hv4) rfl m9_362 m9_363 m9_364 m9_28 m9_365 kd_X2_hueCount ⟨Nat.le_of_ble_eq_true rfl, Nat.le_of_ble_eq_true rfl⟩ ⟨Nat.zero_le _, Nat.zero_le _⟩ (Nat.le_of_ble_eq_true rfl) rfl rfl dX5_ropeNumber_42 ?_
      cases hf
      exact G.iret C rfl dX5_ropeNumber_45
    · rw [if_neg c3] at hf
      by_cases c5 : a2 = 2
      · rw [if_pos c5] at hf
        refine G.tswIn (tgt := 46) (off := 45) C c5 dX5_ropeNumber_1 (by decide) (by decide) rfl (by decide) ?_
        refine G.aload_n C 1 dX5_ropeNumber_46 rfl rfl ?_
        refine G.iconst (v := (-1)) C dX5_ropeNumber_47 (by decide) ?_
        obtain ⟨v6, hv6, hf⟩ := bind_some hf
        try dsimp only at hf
        refine G.callV C (st := []) (st2 := [.int (v6)]) (ct_X2_placesOf hv6) (ko_X2_placesOf hv6) rfl m9_703 m9_328 m9_329 m9_28 m9_330 kd_X2_placesOf ⟨Nat.le_of_ble_eq_true rfl, Nat.le_of_ble_eq_true rfl⟩ ⟨Nat.zero_le _, Nat.zero_le _⟩ (Nat.le_of_ble_eq_true rfl) rfl rfl dX5_ropeNumber_48 ?_
        cases hf
        exact G.iret C rfl dX5_ropeNumber_51
      · rw [if_neg c5] at hf
        by_cases c7 : a2 = 3
        · rw [if_pos c7] at hf
          refine G.tswIn (tgt := 52) (off := 51) C c7 dX5_ropeNumber_1 (by decide) (by decide) rfl (by decide) ?_
          refine G.aload_n C 1 dX5_ropeNumber_52 rfl rfl ?_
          refine G.iconst (v := (-1)) C dX5_ropeNumber_53 (by decide) ?_
          refine G.iconst (v := 0) C dX5_ropeNumber_54 (by decide) ?_
          obtain ⟨v8, hv8, hf⟩ := bind_some hf
          try dsimp only at hf
          refine G.callV C (st := []) (st2 := [.int (v8)]) (ct_X2_firstFrom hv8) (ko_X2_firstFrom hv8) rfl m9_370 m9_371 m9_372 m9_28 m9_373 kd_X2_firstFrom ⟨Nat.le_of_ble_eq_true rfl, Nat.le_of_ble_eq_true rfl⟩ ⟨Nat.zero_le _, Nat.zero_le _⟩ (Nat.le_of_ble_eq_true rfl) rfl rfl dX5_ropeNumber_55 ?_
          cases hf
          exact G.iret C rfl dX5_ropeNumber_58
        · rw [if_neg c7] at hf
          by_cases c9 : a2 = 4
          · rw [if_pos c9] at hf
            refine G.tswIn (tgt := 59) (off := 58) C c9 dX5_ropeNumber_1 (by decide) (by decide) rfl (by decide) ?_
            refine G.aload_n C 1 dX5_ropeNumber_59 rfl rfl ?_
            obtain ⟨v10, hv10, hf⟩ := bind_some hf
            try dsimp only at hf
            refine G.callV C (st := []) (st2 := [.int (v10)]) (ct_X2_mostHolesSideBySide hv10) (ko_X2_mostHolesSideBySide hv10) rfl m9_704 m9_705 m9_706 m9_28 m9_707 kd_X2_mostHolesSideBySide ⟨Nat.le_of_ble_eq_true rfl, Nat.le_of_ble_eq_true rfl⟩ ⟨Nat.zero_le _, Nat.zero_le _⟩ (Nat.le_of_ble_eq_true rfl) rfl rfl dX5_ropeNumber_60 ?_
            cases hf
            exact G.iret C rfl dX5_ropeNumber_63
          · rw [if_neg c9] at hf
            refine G.tswOut (tgt := 64) C dX5_ropeNumber_1 (by have q0 := lv_neT (a := 0) c1 (by decide); have q1 := lv_neT (a := 1) c3 (by decide); have q2 := lv_neT (a := 2) c5 (by decide); have q3 := lv_neT (a := 3) c7 (by decide); have q4 := lv_neT (a := 4) c9 (by decide); omega) (by decide) ?_
            refine G.aload_n C 0 dX5_ropeNumber_64 rfl rfl ?_
            refine G.aload_n C 1 dX5_ropeNumber_65 rfl rfl ?_
            obtain ⟨v11, hv11, hf⟩ := bind_some hf
            try dsimp only at hf
            refine G.callV C (st := []) (st2 := [.int (v11)]) (ct_X5_period hv11) (ko_X5_period hv11) rfl m9_708 m9_709 m9_710 m9_2 m9_711 kd_X5_period ⟨Nat.le_of_ble_eq_true rfl, Nat.le_of_ble_eq_true rfl⟩ ⟨Nat.zero_le _, Nat.zero_le _⟩ (Nat.le_of_ble_eq_true rfl) rfl rfl dX5_ropeNumber_66 ?_
            cases hf
            exact G.iret C rfl dX5_ropeNumber_69
theorem ko_X5_ropeOf {h : PH} {a0 : Nat} {a1 : Int32} {a2 : Int32} {r : (Except String Int32)} (hf : f_X5_ropeOf h a0 a1 a2 = some r) : kO h a0 4 := by
  unfold f_X5_ropeOf at hf
  exact okO_k (gd_ok hf).1
theorem kd_X5_ropeOf : yX5_ropeOf.cls = RX5 ∧ yX5_ropeOf.cls ≠ "java/lang/invoke/MethodHandle" ∧ yX5_ropeOf.cls ≠ "java/lang/invoke/VarHandle" ∧ (parseMethodDescriptor yX5_ropeOf.desc).map (fun d => d.parameters.length) = some 2 := by decide +kernel
set_option maxRecDepth 20000 in
set_option maxHeartbeats 4000000 in
theorem cx_X5_ropeOf {l : Launch} {h : PH} {a0 : Nat} {a1 : Int32} {a2 : Int32} {r : (Except String Int32)} (hf : f_X5_ropeOf h a0 a1 a2 = some r) : CX l yX5_ropeOf cX5_ropeOf 4 (some .int) 7 112 [.ref (a0), .int (a1), .int (a2)] h (xI h r) := by
  refine CX.of (own := RX5) rfl (by decide) (Nat.le_of_ble_eq_true rfl) ?_
  intro p e R s m args below meth c g X hR C TT tab
  subst hR
  unfold f_X5_ropeOf at hf
  obtain ⟨hok, hf⟩ := gd_ok hf
  refine G.sub C [0, 1, 2] (lv' := [(0, .ref (a0)), (1, .int (a1)), (2, .int (a2))]) rfl ?_
  refine G.aload_n C 0 dX5_ropeOf_0 rfl rfl ?_
  refine G.iload_n C 1 dX5_ropeOf_1 rfl rfl ?_
  obtain ⟨r1, hr1, hf⟩ := bind_some hf
  cases r1 with
  | error E4 =>
    try dsimp only at hf
    cases hf
    exact G.callXe C TT tab (st := []) (cx_X5_existing hr1) rfl rfl ⟨rfl, rfl⟩ (ko_X5_existing hr1) rfl m9_229 m9_230 m9_231 m9_2 m9_232 kd_X5_existing ⟨Nat.le_of_ble_eq_true rfl, Nat.le_of_ble_eq_true rfl⟩ (Nat.le_of_ble_eq_true rfl) rfl dX5_ropeOf_2
  | ok v2 =>
    try dsimp only at hf
    refine G.callXo C TT (st := []) (st2 := [.ref (v2)]) (cx_X5_existing hr1) rfl (ko_X5_existing hr1) rfl m9_229 m9_230 m9_231 m9_2 m9_232 kd_X5_existing ⟨Nat.le_of_ble_eq_true rfl, Nat.le_of_ble_eq_true rfl⟩ (Nat.le_of_ble_eq_true rfl) rfl rfl dX5_ropeOf_2 ?_
    refine G.astore_n (lv' := [(3, .ref (v2)), (0, .ref (a0)), (1, .int (a1)), (2, .int (a2))]) C dX5_ropeOf_5 rfl (by decide) rfl ?_
    refine G.aload_n C 1 dX5_ropeOf_6 rfl rfl ?_
    refine G.iload_n C 3 dX5_ropeOf_7 rfl rfl ?_
    refine G.bipush (v := 6) C dX5_ropeOf_8 (by decide) ?_
    obtain ⟨r5, hr5, hf⟩ := bind_some hf
    cases r5 with
    | error E8 =>
      try dsimp only at hf
      cases hf
      exact G.callXe C TT tab (st := []) (cx_X5_requireWhat hr5) rfl rfl ⟨rfl, rfl⟩ (ko_X5_requireWhat hr5) rfl m9_695 m9_696 m9_697 m9_2 m9_698 kd_X5_requireWhat ⟨Nat.le_of_ble_eq_true rfl, Nat.le_of_ble_eq_true rfl⟩ (Nat.le_of_ble_eq_true rfl) rfl dX5_ropeOf_10
    | ok v6 =>
      try dsimp only at hf
      refine G.callXo C TT (st := []) (st2 := []) (cx_X5_requireWhat hr5) rfl (ko_X5_requireWhat hr5) rfl m9_695 m9_696 m9_697 m9_2 m9_698 kd_X5_requireWhat ⟨Nat.le_of_ble_eq_true rfl, Nat.le_of_ble_eq_true rfl⟩ (Nat.le_of_ble_eq_true rfl) rfl rfl dX5_ropeOf_10 ?_
      refine G.aload_n C 1 dX5_ropeOf_13 rfl rfl ?_
      refine G.aload_n C 0 dX5_ropeOf_14 rfl rfl ?_
      refine G.iload_n C 3 dX5_ropeOf_15 rfl rfl ?_
      obtain ⟨v9, hv9, hf⟩ := bind_some hf
      try dsimp only at hf
      refine G.callV C (st := []) (st2 := [.int (v9)]) (ct_X5_ropeNumber hv9) (ko_X5_ropeNumber hv9) rfl m9_699 m9_700 m9_701 m9_2 m9_702 kd_X5_ropeNumber ⟨Nat.le_of_ble_eq_true rfl, Nat.le_of_ble_eq_true rfl⟩ ⟨Nat.zero_le _, Nat.zero_le _⟩ (Nat.le_of_ble_eq_true rfl) rfl rfl dX5_ropeOf_16 ?_
      cases hf
      refine G.retX rfl ?_
      exact G.iret C rfl dX5_ropeOf_19
theorem ko_X5_hueOf {h : PH} {a0 : Nat} {a1 : Int32} {a2 : Int32} {a3 : Int32} {r : (Except String Int32)} (hf : f_X5_hueOf h a0 a1 a2 a3 = some r) : kO h a0 4 := by
  unfold f_X5_hueOf at hf
  exact okO_k (gd_ok hf).1
theorem kd_X5_hueOf : yX5_hueOf.cls = RX5 ∧ yX5_hueOf.cls ≠ "java/lang/invoke/MethodHandle" ∧ yX5_hueOf.cls ≠ "java/lang/invoke/VarHandle" ∧ (parseMethodDescriptor yX5_hueOf.desc).map (fun d => d.parameters.length) = some 3 := by decide +kernel
set_option maxRecDepth 20000 in
set_option maxHeartbeats 4000000 in
theorem cx_X5_hueOf {l : Launch} {h : PH} {a0 : Nat} {a1 : Int32} {a2 : Int32} {a3 : Int32} {r : (Except String Int32)} (hf : f_X5_hueOf h a0 a1 a2 a3 = some r) : CX l yX5_hueOf cX5_hueOf 5 (some .int) 7 112 [.ref (a0), .int (a1), .int (a2), .int (a3)] h (xI h r) := by
  refine CX.of (own := RX5) rfl (by decide) (Nat.le_of_ble_eq_true rfl) ?_
  intro p e R s m args below meth c g X hR C TT tab
  subst hR
  unfold f_X5_hueOf at hf
  obtain ⟨hok, hf⟩ := gd_ok hf
  refine G.sub C [0, 1, 2, 3] (lv' := [(0, .ref (a0)), (1, .int (a1)), (2, .int (a2)), (3, .int (a3))]) rfl ?_
  refine G.aload_n C 0 dX5_hueOf_0 rfl rfl ?_
  refine G.iload_n C 1 dX5_hueOf_1 rfl rfl ?_
  obtain ⟨r1, hr1, hf⟩ := bind_some hf
  cases r1 with
  | error E4 =>
    try dsimp only at hf
    cases hf
    exact G.callXe C TT tab (st := []) (cx_X5_existing hr1) rfl rfl ⟨rfl, rfl⟩ (ko_X5_existing hr1) rfl m9_229 m9_230 m9_231 m9_2 m9_232 kd_X5_existing ⟨Nat.le_of_ble_eq_true rfl, Nat.le_of_ble_eq_true rfl⟩ (Nat.le_of_ble_eq_true rfl) rfl dX5_hueOf_2
  | ok v2 =>
    try dsimp only at hf
    refine G.callXo C TT (st := []) (st2 := [.ref (v2)]) (cx_X5_existing hr1) rfl (ko_X5_existing hr1) rfl m9_229 m9_230 m9_231 m9_2 m9_232 kd_X5_existing ⟨Nat.le_of_ble_eq_true rfl, Nat.le_of_ble_eq_true rfl⟩ (Nat.le_of_ble_eq_true rfl) rfl rfl dX5_hueOf_2 ?_
    refine G.astore (lv' := [(4, .ref (v2)), (0, .ref (a0)), (1, .int (a1)), (2, .int (a2)), (3, .int (a3))]) C dX5_hueOf_5 (by decide) rfl ?_
    refine G.aload_n C 1 dX5_hueOf_7 rfl rfl ?_
    refine G.iload_n C 3 dX5_hueOf_8 rfl rfl ?_
    obtain ⟨r5, hr5, hf⟩ := bind_some hf
    cases r5 with
    | error E8 =>
      try dsimp only at hf
      cases hf
      exact G.callXe C TT tab (st := []) (cx_X5_requireHue hr5) rfl rfl ⟨rfl, rfl⟩ (ko_X5_requireHue hr5) rfl m9_91 m9_92 m9_93 m9_2 m9_94 kd_X5_requireHue ⟨Nat.le_of_ble_eq_true rfl, Nat.le_of_ble_eq_true rfl⟩ (Nat.le_of_ble_eq_true rfl) rfl dX5_hueOf_9
    | ok v6 =>
      try dsimp only at hf
      refine G.callXo C TT (st := []) (st2 := []) (cx_X5_requireHue hr5) rfl (ko_X5_requireHue hr5) rfl m9_91 m9_92 m9_93 m9_2 m9_94 kd_X5_requireHue ⟨Nat.le_of_ble_eq_true rfl, Nat.le_of_ble_eq_true rfl⟩ (Nat.le_of_ble_eq_true rfl) rfl rfl dX5_hueOf_9 ?_
      refine G.aload_n C 1 dX5_hueOf_12 rfl rfl ?_
      refine G.iload_n C 4 dX5_hueOf_13 rfl rfl ?_
      refine G.iconst (v := 4) C dX5_hueOf_14 (by decide) ?_
      obtain ⟨r9, hr9, hf⟩ := bind_some hf
      cases r9 with
      | error E12 =>
        try dsimp only at hf
        cases hf
        exact G.callXe C TT tab (st := []) (cx_X5_requireWhat hr9) rfl rfl ⟨rfl, rfl⟩ (ko_X5_requireWhat hr9) rfl m9_695 m9_696 m9_697 m9_2 m9_698 kd_X5_requireWhat ⟨Nat.le_of_ble_eq_true rfl, Nat.le_of_ble_eq_true rfl⟩ (Nat.le_of_ble_eq_true rfl) rfl dX5_hueOf_15
      | ok v10 =>
        try dsimp only at hf
        refine G.callXo C TT (st := []) (st2 := []) (cx_X5_requireWhat hr9) rfl (ko_X5_requireWhat hr9) rfl m9_695 m9_696 m9_697 m9_2 m9_698 kd_X5_requireWhat ⟨Nat.le_of_ble_eq_true rfl, Nat.le_of_ble_eq_true rfl⟩ (Nat.le_of_ble_eq_true rfl) rfl rfl dX5_hueOf_15 ?_
        refine G.aload C 0 dX5_hueOf_18 rfl ?_
        refine G.iload_n C 3 dX5_hueOf_20 rfl rfl ?_
        refine G.iload_n C 4 dX5_hueOf_21 rfl rfl ?_
        obtain ⟨v13, hv13, hf⟩ := bind_some hf
        try dsimp only at hf
        refine G.callV C (st := []) (st2 := [.int (v13)]) (ct_X2_hueNumber hv13) (ko_X2_hueNumber hv13) rfl m9_752 m9_753 m9_754 m9_28 m9_755 kd_X2_hueNumber ⟨Nat.le_of_ble_eq_true rfl, Nat.le_of_ble_eq_true rfl⟩ ⟨Nat.zero_le _, Nat.zero_le _⟩ (Nat.le_of_ble_eq_true rfl) rfl rfl dX5_hueOf_22 ?_
        cases hf
        refine G.retX rfl ?_
        exact G.iret C rfl dX5_hueOf_25
theorem ko_X5_gapOf {h : PH} {a0 : Nat} {a1 : Int32} {r : (Except String Int32)} (hf : f_X5_gapOf h a0 a1 = some r) : kO h a0 4 := by
  unfold f_X5_gapOf at hf
  exact okO_k (gd_ok hf).1
theorem kd_X5_gapOf : yX5_gapOf.cls = RX5 ∧ yX5_gapOf.cls ≠ "java/lang/invoke/MethodHandle" ∧ yX5_gapOf.cls ≠ "java/lang/invoke/VarHandle" ∧ (parseMethodDescriptor yX5_gapOf.desc).map (fun d => d.parameters.length) = some 1 := by decide +kernel
set_option maxRecDepth 20000 in
set_option maxHeartbeats 4000000 in
theorem cx_X5_gapOf {l : Launch} {h : PH} {a0 : Nat} {a1 : Int32} {r : (Except String Int32)} (hf : f_X5_gapOf h a0 a1 = some r) : CX l yX5_gapOf cX5_gapOf 2 (some .int) 7 111 [.ref (a0), .int (a1)] h (xI h r) := by
  refine CX.of (own := RX5) rfl (by decide) (Nat.le_of_ble_eq_true rfl) ?_
  intro p e R s m args below meth c g X hR C TT tab
  subst hR
  unfold f_X5_gapOf at hf
  obtain ⟨hok, hf⟩ := gd_ok hf
  refine G.sub C [0, 1] (lv' := [(0, .ref (a0)), (1, .int (a1))]) rfl ?_
  refine G.aload_n C 0 dX5_gapOf_0 rfl rfl ?_
  refine G.iload_n C 1 dX5_gapOf_1 rfl rfl ?_
  obtain ⟨r1, hr1, hf⟩ := bind_some hf
  cases r1 with
  | error E4 =>
    try dsimp only at hf
    cases hf
    exact G.callXe C TT tab (st := []) (cx_X5_requireHue hr1) rfl rfl ⟨rfl, rfl⟩ (ko_X5_requireHue hr1) rfl m9_91 m9_92 m9_93 m9_2 m9_94 kd_X5_requireHue ⟨Nat.le_of_ble_eq_true rfl, Nat.le_of_ble_eq_true rfl⟩ (Nat.le_of_ble_eq_true rfl) rfl dX5_gapOf_2
  | ok v2 =>
    try dsimp only at hf
    refine G.callXo C TT (st := []) (st2 := []) (cx_X5_requireHue hr1) rfl (ko_X5_requireHue hr1) rfl m9_91 m9_92 m9_93 m9_2 m9_94 kd_X5_requireHue ⟨Nat.le_of_ble_eq_true rfl, Nat.le_of_ble_eq_true rfl⟩ (Nat.le_of_ble_eq_true rfl) rfl rfl dX5_gapOf_2 ?_
    refine G.aload_n C 0 dX5_gapOf_5 rfl rfl ?_
    refine G.getR (ci := 4) (k := 0) C rfl inlX5 (by decide) m9_16 rfl hf dX5_gapOf_6 (fun v5 hv5 hf => ?_)
    try dsimp only at hf
    refine G.iload_n C 1 dX5_gapOf_9 rfl rfl ?_
    obtain ⟨v6, hv6, hf⟩ := bind_some hf
    try dsimp only at hf
    refine G.callV C (st := []) (st2 := [.int (v6)]) (ct_X3_gapAt hv6) (ko_X3_gapAt hv6) rfl m9_129 m9_130 m9_131 m9_15 m9_132 kd_X3_gapAt ⟨Nat.le_of_ble_eq_true rfl, Nat.le_of_ble_eq_true rfl⟩ ⟨Nat.zero_le _, Nat.zero_le _⟩ (Nat.le_of_ble_eq_true rfl) rfl rfl dX5_gapOf_10 ?_
    cases hf
    refine G.retX rfl ?_
    exact G.iret C rfl dX5_gapOf_13
theorem ko_X5_counted {h : PH} {a0 : Nat} {a1 : Int32} {r : Int32} (hf : f_X5_counted h a0 a1 = some r) : kO h a0 4 := by
  unfold f_X5_counted at hf
  exact okO_k (gd_ok hf).1
theorem kd_X5_counted : yX5_counted.cls = RX5 ∧ yX5_counted.cls ≠ "java/lang/invoke/MethodHandle" ∧ yX5_counted.cls ≠ "java/lang/invoke/VarHandle" ∧ (parseMethodDescriptor yX5_counted.desc).map (fun d => d.parameters.length) = some 1 := by decide +kernel
set_option maxRecDepth 20000 in
set_option maxHeartbeats 4000000 in
theorem ct_X5_counted {l : Launch} {h : PH} {a0 : Nat} {a1 : Int32} {r : Int32} (hf : f_X5_counted h a0 a1 = some r) : CT l yX5_counted cX5_counted 2 (some .int) 3 67 [.ref (a0), .int (a1)] h (some (.int r)) h := by
  refine CT.of (own := RX5) rfl (by decide) (Nat.le_of_ble_eq_true rfl) ?_
  intro p e R s m args below meth c g X hR C
  subst hR
  unfold f_X5_counted at hf
  obtain ⟨hok, hf⟩ := gd_ok hf
  refine G.sub C [0, 1] (lv' := [(0, .ref (a0)), (1, .int (a1))]) rfl ?_
  refine G.iload_n C 1 dX5_counted_0 rfl rfl ?_
  by_cases c1 : a1 = 0
  · rw [if_pos c1] at hf
    refine G.tswIn (tgt := 44) (off := 43) C c1 dX5_counted_1 (by decide) (by decide) rfl (by decide) ?_
    refine G.aload_n C 0 dX5_counted_44 rfl rfl ?_
    refine G.getR (ci := 4) (k := 0) C rfl inlX5 (by decide) m9_16 rfl hf dX5_counted_45 (fun v2 hv2 hf => ?_)
    try dsimp only at hf
    obtain ⟨v3, hv3, hf⟩ := bind_some hf
    try dsimp only at hf
    refine G.callV C (st := []) (st2 := [.int (v3)]) (ct_X3_ropeCount hv3) (ko_X3_ropeCount hv3) rfl m9_191 m9_192 m9_193 m9_15 m9_194 kd_X3_ropeCount ⟨Nat.le_of_ble_eq_true rfl, Nat.le_of_ble_eq_true rfl⟩ ⟨Nat.zero_le _, Nat.zero_le _⟩ (Nat.le_of_ble_eq_true rfl) rfl rfl dX5_counted_48 ?_
    cases hf
    exact G.iret C rfl dX5_counted_51
  · rw [if_neg c1] at hf
    by_cases c4 : a1 = 1
    · rw [if_pos c4] at hf
      refine G.tswIn (tgt := 52) (off := 51) C c4 dX5_counted_1 (by decide) (by decide) rfl (by decide) ?_
      refine G.aload_n C 0 dX5_counted_52 rfl rfl ?_
      refine G.getR (ci := 4) (k := 0) C rfl inlX5 (by decide) m9_16 rfl hf dX5_counted_53 (fun v5 hv5 hf => ?_)
      try dsimp only at hf
      obtain ⟨v6, hv6, hf⟩ := bind_some hf
      try dsimp only at hf
      refine G.callV C (st := []) (st2 := [.int (v6)]) (ct_X3_places hv6) (ko_X3_places hv6) rfl m9_792 m9_793 m9_794 m9_15 m9_795 kd_X3_places ⟨Nat.le_of_ble_eq_true rfl, Nat.le_of_ble_eq_true rfl⟩ ⟨Nat.zero_le _, Nat.zero_le _⟩ (Nat.le_of_ble_eq_true rfl) rfl rfl dX5_counted_56 ?_
      cases hf
      exact G.iret C rfl dX5_counted_59
    · rw [if_neg c4] at hf
      by_cases c7 : a1 = 2
      · rw [if_pos c7] at hf
        refine G.tswIn (tgt := 60) (off := 59) C c7 dX5_counted_1 (by decide) (by decide) rfl (by decide) ?_
        refine G.aload_n C 0 dX5_counted_60 rfl rfl ?_
        refine G.getR (ci := 4) (k := 0) C rfl inlX5 (by decide) m9_16 rfl hf dX5_counted_61 (fun v8 hv8 hf => ?_)
        try dsimp only at hf
        obtain ⟨v9, hv9, hf⟩ := bind_some hf
        try dsimp only at hf
        refine G.callV C (st := []) (st2 := [.int (v9)]) (ct_X3_holes hv9) (ko_X3_holes hv9) rfl m9_797 m9_798 m9_799 m9_15 m9_800 kd_X3_holes ⟨Nat.le_of_ble_eq_true rfl, Nat.le_of_ble_eq_true rfl⟩ ⟨Nat.zero_le _, Nat.zero_le _⟩ (Nat.le_of_ble_eq_true rfl) rfl rfl dX5_counted_64 ?_
        cases hf
        exact G.iret C rfl dX5_counted_67
      · rw [if_neg c7] at hf
        by_cases c10 : a1 = 3
        · rw [if_pos c10] at hf
          refine G.tswIn (tgt := 68) (off := 67) C c10 dX5_counted_1 (by decide) (by decide) rfl (by decide) ?_
          refine G.aload_n C 0 dX5_counted_68 rfl rfl ?_
          refine G.getR (ci := 4) (k := 0) C rfl inlX5 (by decide) m9_16 rfl hf dX5_counted_69 (fun v11 hv11 hf => ?_)
          try dsimp only at hf
          obtain ⟨v12, hv12, hf⟩ := bind_some hf
          try dsimp only at hf
          refine G.callV C (st := []) (st2 := [.int (v12)]) (ct_X3_laidHues hv12) (ko_X3_laidHues hv12) rfl m9_802 m9_803 m9_804 m9_15 m9_805 kd_X3_laidHues ⟨Nat.le_of_ble_eq_true rfl, Nat.le_of_ble_eq_true rfl⟩ ⟨Nat.zero_le _, Nat.zero_le _⟩ (Nat.le_of_ble_eq_true rfl) rfl rfl dX5_counted_72 ?_
          cases hf
          exact G.iret C rfl dX5_counted_75
        · rw [if_neg c10] at hf
          by_cases c13 : a1 = 4
          · rw [if_pos c13] at hf
            refine G.tswIn (tgt := 76) (off := 75) C c13 dX5_counted_1 (by decide) (by decide) rfl (by decide) ?_
            refine G.aload_n C 0 dX5_counted_76 rfl rfl ?_
            refine G.getR (ci := 4) (k := 0) C rfl inlX5 (by decide) m9_16 rfl hf dX5_counted_77 (fun v14 hv14 hf => ?_)
            try dsimp only at hf
            obtain ⟨v15, hv15, hf⟩ := bind_some hf
            try dsimp only at hf
            refine G.callV C (st := []) (st2 := [.int (v15)]) (ct_X3_layings hv15) (ko_X3_layings hv15) rfl m9_807 m9_808 m9_809 m9_15 m9_810 kd_X3_layings ⟨Nat.le_of_ble_eq_true rfl, Nat.le_of_ble_eq_true rfl⟩ ⟨Nat.zero_le _, Nat.zero_le _⟩ (Nat.le_of_ble_eq_true rfl) rfl rfl dX5_counted_80 ?_
            cases hf
            exact G.iret C rfl dX5_counted_83
          · rw [if_neg c13] at hf
            by_cases c16 : a1 = 5
            · rw [if_pos c16] at hf
              refine G.tswIn (tgt := 84) (off := 83) C c16 dX5_counted_1 (by decide) (by decide) rfl (by decide) ?_
              refine G.aload_n C 0 dX5_counted_84 rfl rfl ?_
              refine G.getR (ci := 4) (k := 0) C rfl inlX5 (by decide) m9_16 rfl hf dX5_counted_85 (fun v17 hv17 hf => ?_)
              try dsimp only at hf
              obtain ⟨v18, hv18, hf⟩ := bind_some hf
              try dsimp only at hf
              refine G.callV C (st := []) (st2 := [.int (v18)]) (ct_X3_joins hv18) (ko_X3_joins hv18) rfl m9_811 m9_812 m9_813 m9_15 m9_814 kd_X3_joins ⟨Nat.le_of_ble_eq_true rfl, Nat.le_of_ble_eq_true rfl⟩ ⟨Nat.zero_le _, Nat.zero_le _⟩ (Nat.le_of_ble_eq_true rfl) rfl rfl dX5_counted_88 ?_
              cases hf
              exact G.iret C rfl dX5_counted_91
            · rw [if_neg c16] at hf
              by_cases c19 : a1 = 6
              · rw [if_pos c19] at hf
                refine G.tswIn (tgt := 92) (off := 91) C c19 dX5_counted_1 (by decide) (by decide) rfl (by decide) ?_
                refine G.aload_n C 0 dX5_counted_92 rfl rfl ?_
                refine G.getR (ci := 4) (k := 0) C rfl inlX5 (by decide) m9_16 rfl hf dX5_counted_93 (fun v20 hv20 hf => ?_)
                try dsimp only at hf
                obtain ⟨v21, hv21, hf⟩ := bind_some hf
                try dsimp only at hf
                refine G.callV C (st := []) (st2 := [.int (v21)]) (ct_X3_cuts hv21) (ko_X3_cuts hv21) rfl m9_815 m9_816 m9_817 m9_15 m9_818 kd_X3_cuts ⟨Nat.le_of_ble_eq_true rfl, Nat.le_of_ble_eq_true rfl⟩ ⟨Nat.zero_le _, Nat.zero_le _⟩ (Nat.le_of_ble_eq_true rfl) rfl rfl dX5_counted_96 ?_
                cases hf
                exact G.iret C rfl dX5_counted_99
              · rw [if_neg c19] at hf
                refine G.tswOut (tgt := 100) C dX5_counted_1 (by have q0 := lv_neT (a := 0) c1 (by decide); have q1 := lv_neT (a := 1) c4 (by decide); have q2 := lv_neT (a := 2) c7 (by decide); have q3 := lv_neT (a := 3) c10 (by decide); have q4 := lv_neT (a := 4) c13 (by decide); have q5 := lv_neT (a := 5) c16 (by decide); have q6 := lv_neT (a := 6) c19 (by decide); omega) (by decide) ?_
                refine G.aload_n C 0 dX5_counted_100 rfl rfl ?_
                refine G.getR (ci := 4) (k := 2) C rfl inlX5 (by decide) m9_21 rfl hf dX5_counted_101 (fun v22 hv22 hf => ?_)
                try dsimp only at hf
                obtain ⟨v23, hv23, hf⟩ := bind_some hf
                try dsimp only at hf
                refine G.callV C (st := []) (st2 := [.int (v23)]) (ct_X0_size hv23) (ko_X0_size hv23) rfl m9_643 m9_644 m9_645 m9_20 m9_646 kd_X0_size ⟨Nat.le_of_ble_eq_true rfl, Nat.le_of_ble_eq_true rfl⟩ ⟨Nat.zero_le _, Nat.zero_le _⟩ (Nat.le_of_ble_eq_true rfl) rfl rfl dX5_counted_104 ?_
                cases hf
                exact G.iret C rfl dX5_counted_107
theorem ko_X5_count {h : PH} {a0 : Nat} {a1 : Int32} {r : (Except String Int32)} (hf : f_X5_count h a0 a1 = some r) : kO h a0 4 := by
  unfold f_X5_count at hf
  exact okO_k (gd_ok hf).1
theorem kd_X5_count : yX5_count.cls = RX5 ∧ yX5_count.cls ≠ "java/lang/invoke/MethodHandle" ∧ yX5_count.cls ≠ "java/lang/invoke/VarHandle" ∧ (parseMethodDescriptor yX5_count.desc).map (fun d => d.parameters.length) = some 1 := by decide +kernel
set_option maxRecDepth 20000 in
set_option maxHeartbeats 4000000 in
theorem cx_X5_count {l : Launch} {h : PH} {a0 : Nat} {a1 : Int32} {r : (Except String Int32)} (hf : f_X5_count h a0 a1 = some r) : CX l yX5_count cX5_count 2 (some .int) 7 112 [.ref (a0), .int (a1)] h (xI h r) := by
  refine CX.of (own := RX5) rfl (by decide) (Nat.le_of_ble_eq_true rfl) ?_
  intro p e R s m args below meth c g X hR C TT tab
  subst hR
  unfold f_X5_count at hf
  obtain ⟨hok, hf⟩ := gd_ok hf
  refine G.sub C [0, 1] (lv' := [(0, .ref (a0)), (1, .int (a1))]) rfl ?_
  refine G.aload_n C 0 dX5_count_0 rfl rfl ?_
  refine G.iload_n C 1 dX5_count_1 rfl rfl ?_
  refine G.bipush (v := 8) C dX5_count_2 (by decide) ?_
  obtain ⟨r1, hr1, hf⟩ := bind_some hf
  cases r1 with
  | error E4 =>
    try dsimp only at hf
    cases hf
    exact G.callXe C TT tab (st := []) (cx_X5_requireWhat hr1) rfl rfl ⟨rfl, rfl⟩ (ko_X5_requireWhat hr1) rfl m9_695 m9_696 m9_697 m9_2 m9_698 kd_X5_requireWhat ⟨Nat.le_of_ble_eq_true rfl, Nat.le_of_ble_eq_true rfl⟩ (Nat.le_of_ble_eq_true rfl) rfl dX5_count_4
  | ok v2 =>
    try dsimp only at hf
    refine G.callXo C TT (st := []) (st2 := []) (cx_X5_requireWhat hr1) rfl (ko_X5_requireWhat hr1) rfl m9_695 m9_696 m9_697 m9_2 m9_698 kd_X5_requireWhat ⟨Nat.le_of_ble_eq_true rfl, Nat.le_of_ble_eq_true rfl⟩ (Nat.le_of_ble_eq_true rfl) rfl rfl dX5_count_4 ?_
    refine G.aload_n C 0 dX5_count_7 rfl rfl ?_
    refine G.iload_n C 1 dX5_count_8 rfl rfl ?_
    obtain ⟨v5, hv5, hf⟩ := bind_some hf
    try dsimp only at hf
    refine G.callV C (st := []) (st2 := [.int (v5)]) (ct_X5_counted hv5) (ko_X5_counted hv5) rfl m9_788 m9_789 m9_790 m9_2 m9_791 kd_X5_counted ⟨Nat.le_of_ble_eq_true rfl, Nat.le_of_ble_eq_true rfl⟩ ⟨Nat.zero_le _, Nat.zero_le _⟩ (Nat.le_of_ble_eq_true rfl) rfl rfl dX5_count_9 ?_
    cases hf
    refine G.retX rfl ?_
    exact G.iret C rfl dX5_count_12
theorem ko_X5_refusal {h : PH} {a0 : Nat} {a1 : Int32} {a2 : Int32} {a3 : Int32} {r : (Except String Int32)} (hf : f_X5_refusal h a0 a1 a2 a3 = some r) : kO h a0 4 := by
  unfold f_X5_refusal at hf
  exact okO_k (gd_ok hf).1
theorem kd_X5_refusal : yX5_refusal.cls = RX5 ∧ yX5_refusal.cls ≠ "java/lang/invoke/MethodHandle" ∧ yX5_refusal.cls ≠ "java/lang/invoke/VarHandle" ∧ (parseMethodDescriptor yX5_refusal.desc).map (fun d => d.parameters.length) = some 3 := by decide +kernel
set_option maxRecDepth 20000 in
set_option maxHeartbeats 4000000 in
theorem cx_X5_refusal {l : Launch} {h : PH} {a0 : Nat} {a1 : Int32} {a2 : Int32} {a3 : Int32} {r : (Except String Int32)} (hf : f_X5_refusal h a0 a1 a2 a3 = some r) : CX l yX5_refusal cX5_refusal 5 (some .int) 7 112 [.ref (a0), .int (a1), .int (a2), .int (a3)] h (xI h r) := by
  refine CX.of (own := RX5) rfl (by decide) (Nat.le_of_ble_eq_true rfl) ?_
  intro p e R s m args below meth c g X hR C TT tab
  subst hR
  unfold f_X5_refusal at hf
  obtain ⟨hok, hf⟩ := gd_ok hf
  refine G.sub C [0, 1, 2, 3] (lv' := [(0, .ref (a0)), (1, .int (a1)), (2, .int (a2)), (3, .int (a3))]) rfl ?_
  refine G.aload_n C 0 dX5_refusal_0 rfl rfl ?_
  refine G.iload_n C 1 dX5_refusal_1 rfl rfl ?_
  obtain ⟨r1, hr1, hf⟩ := bind_some hf
  cases r1 with
  | error E4 =>
    try dsimp only at hf
    cases hf
    exact G.callXe C TT tab (st := []) (cx_X5_existing hr1) rfl rfl ⟨rfl, rfl⟩ (ko_X5_existing hr1) rfl m9_229 m9_230 m9_231 m9_2 m9_232 kd_X5_existing ⟨Nat.le_of_ble_eq_true rfl, Nat.le_of_ble_eq_true rfl⟩ (Nat.le_of_ble_eq_true rfl) rfl dX5_refusal_2
  | ok v2 =>
    try dsimp only at hf
    refine G.callXo C TT (st := []) (st2 := [.ref (v2)]) (cx_X5_existing hr1) rfl (ko_X5_existing hr1) rfl m9_229 m9_230 m9_231 m9_2 m9_232 kd_X5_existing ⟨Nat.le_of_ble_eq_true rfl, Nat.le_of_ble_eq_true rfl⟩ (Nat.le_of_ble_eq_true rfl) rfl rfl dX5_refusal_2 ?_
    refine G.astore (lv' := [(4, .ref (v2)), (0, .ref (a0)), (1, .int (a1)), (2, .int (a2)), (3, .int (a3))]) C dX5_refusal_5 (by decide) rfl ?_
    refine G.aload_n C 1 dX5_refusal_7 rfl rfl ?_
    refine G.iload_n C 3 dX5_refusal_8 rfl rfl ?_
    obtain ⟨r5, hr5, hf⟩ := bind_some hf
    cases r5 with
    | error E8 =>
      try dsimp only at hf
      cases hf
      exact G.callXe C TT tab (st := []) (cx_X5_requireHue hr5) rfl rfl ⟨rfl, rfl⟩ (ko_X5_requireHue hr5) rfl m9_91 m9_92 m9_93 m9_2 m9_94 kd_X5_requireHue ⟨Nat.le_of_ble_eq_true rfl, Nat.le_of_ble_eq_true rfl⟩ (Nat.le_of_ble_eq_true rfl) rfl dX5_refusal_9
    | ok v6 =>
      try dsimp only at hf
      refine G.callXo C TT (st := []) (st2 := []) (cx_X5_requireHue hr5) rfl (ko_X5_requireHue hr5) rfl m9_91 m9_92 m9_93 m9_2 m9_94 kd_X5_requireHue ⟨Nat.le_of_ble_eq_true rfl, Nat.le_of_ble_eq_true rfl⟩ (Nat.le_of_ble_eq_true rfl) rfl rfl dX5_refusal_9 ?_
      refine G.aload_n C 1 dX5_refusal_12 rfl rfl ?_
      refine G.iload_n C 3 dX5_refusal_13 rfl rfl ?_
      refine G.iload_n C 4 dX5_refusal_14 rfl rfl ?_
      obtain ⟨r9, hr9, hf⟩ := bind_some hf
      cases r9 with
      | error E12 =>
        try dsimp only at hf
        cases hf
        exact G.callXe C TT tab (st := []) (cx_X5_requirePhase hr9) rfl rfl ⟨rfl, rfl⟩ (ko_X5_requirePhase hr9) rfl m9_257 m9_258 m9_259 m9_2 m9_260 kd_X5_requirePhase ⟨Nat.le_of_ble_eq_true rfl, Nat.le_of_ble_eq_true rfl⟩ (Nat.le_of_ble_eq_true rfl) rfl dX5_refusal_15
      | ok v10 =>
        try dsimp only at hf
        refine G.callXo C TT (st := []) (st2 := []) (cx_X5_requirePhase hr9) rfl (ko_X5_requirePhase hr9) rfl m9_257 m9_258 m9_259 m9_2 m9_260 kd_X5_requirePhase ⟨Nat.le_of_ble_eq_true rfl, Nat.le_of_ble_eq_true rfl⟩ (Nat.le_of_ble_eq_true rfl) rfl rfl dX5_refusal_15 ?_
        refine G.aload C 0 dX5_refusal_18 rfl ?_
        refine G.iload_n C 3 dX5_refusal_20 rfl rfl ?_
        refine G.iload_n C 4 dX5_refusal_21 rfl rfl ?_
        refine G.aload_n C 1 dX5_refusal_22 rfl rfl ?_
        refine G.getR (ci := 4) (k := 0) C rfl inlX5 (by decide) m9_16 rfl hf dX5_refusal_23 (fun v13 hv13 hf => ?_)
        try dsimp only at hf
        refine G.iload_n C 3 dX5_refusal_26 rfl rfl ?_
        obtain ⟨v14, hv14, hf⟩ := bind_some hf
        try dsimp only at hf
        refine G.callV C (st := [.int (a3), .int (a2), .ref (v2)]) (st2 := [.int (v14), .int (a3), .int (a2), .ref (v2)]) (ct_X3_gapAt hv14) (ko_X3_gapAt hv14) rfl m9_129 m9_130 m9_131 m9_15 m9_132 kd_X3_gapAt ⟨Nat.le_of_ble_eq_true rfl, Nat.le_of_ble_eq_true rfl⟩ ⟨Nat.zero_le _, Nat.zero_le _⟩ (Nat.le_of_ble_eq_true rfl) rfl rfl dX5_refusal_27 ?_
        obtain ⟨v15, hv15, hf⟩ := bind_some hf
        try dsimp only at hf
        refine G.callV C (st := []) (st2 := [.int (v15)]) (ct_X2_reasonAgainst hv15) (ko_X2_reasonAgainst hv15) rfl m9_261 m9_262 m9_263 m9_28 m9_264 kd_X2_reasonAgainst ⟨Nat.le_of_ble_eq_true rfl, Nat.le_of_ble_eq_true rfl⟩ ⟨Nat.zero_le _, Nat.zero_le _⟩ (Nat.le_of_ble_eq_true rfl) rfl rfl dX5_refusal_30 ?_
        cases hf
        refine G.retX rfl ?_
        exact G.iret C rfl dX5_refusal_33
theorem ko_X5_meeting {h : PH} {a0 : Nat} {a1 : Int32} {a2 : Int32} {a3 : Int32} {a4 : Int32} {r : (Except String Int32)} (hf : f_X5_meeting h a0 a1 a2 a3 a4 = some r) : kO h a0 4 := by
  unfold f_X5_meeting at hf
  exact okO_k (gd_ok hf).1
theorem kd_X5_meeting : yX5_meeting.cls = RX5 ∧ yX5_meeting.cls ≠ "java/lang/invoke/MethodHandle" ∧ yX5_meeting.cls ≠ "java/lang/invoke/VarHandle" ∧ (parseMethodDescriptor yX5_meeting.desc).map (fun d => d.parameters.length) = some 4 := by decide +kernel
set_option maxRecDepth 20000 in
set_option maxHeartbeats 4000000 in
theorem cx_X5_meeting {l : Launch} {h : PH} {a0 : Nat} {a1 : Int32} {a2 : Int32} {a3 : Int32} {a4 : Int32} {r : (Except String Int32)} (hf : f_X5_meeting h a0 a1 a2 a3 a4 = some r) : CX l yX5_meeting cX5_meeting 5 (some .int) 7 112 [.ref (a0), .int (a1), .int (a2), .int (a3), .int (a4)] h (xI h r) := by
  refine CX.of (own := RX5) rfl (by decide) (Nat.le_of_ble_eq_true rfl) ?_
  intro p e R s m args below meth c g X hR C TT tab
  subst hR
  unfold f_X5_meeting at hf
  obtain ⟨hok, hf⟩ := gd_ok hf
  refine G.sub C [0, 1, 2, 3, 4] (lv' := [(0, .ref (a0)), (1, .int (a1)), (2, .int (a2)), (3, .int (a3)), (4, .int (a4))]) rfl ?_
  refine G.aload_n C 0 dX5_meeting_0 rfl rfl ?_
  refine G.iload_n C 1 dX5_meeting_1 rfl rfl ?_
  obtain ⟨r1, hr1, hf⟩ := bind_some hf
  cases r1 with
  | error E4 =>
    try dsimp only at hf
    cases hf
    exact G.callXe C TT tab (st := []) (cx_X5_requireHue hr1) rfl rfl ⟨rfl, rfl⟩ (ko_X5_requireHue hr1) rfl m9_91 m9_92 m9_93 m9_2 m9_94 kd_X5_requireHue ⟨Nat.le_of_ble_eq_true rfl, Nat.le_of_ble_eq_true rfl⟩ (Nat.le_of_ble_eq_true rfl) rfl dX5_meeting_2
  | ok v2 =>
    try dsimp only at hf
    refine G.callXo C TT (st := []) (st2 := []) (cx_X5_requireHue hr1) rfl (ko_X5_requireHue hr1) rfl m9_91 m9_92 m9_93 m9_2 m9_94 kd_X5_requireHue ⟨Nat.le_of_ble_eq_true rfl, Nat.le_of_ble_eq_true rfl⟩ (Nat.le_of_ble_eq_true rfl) rfl rfl dX5_meeting_2 ?_
    refine G.aload_n C 0 dX5_meeting_5 rfl rfl ?_
    refine G.iload_n C 3 dX5_meeting_6 rfl rfl ?_
    obtain ⟨r5, hr5, hf⟩ := bind_some hf
    cases r5 with
    | error E8 =>
      try dsimp only at hf
      cases hf
      exact G.callXe C TT tab (st := []) (cx_X5_requireHue hr5) rfl rfl ⟨rfl, rfl⟩ (ko_X5_requireHue hr5) rfl m9_91 m9_92 m9_93 m9_2 m9_94 kd_X5_requireHue ⟨Nat.le_of_ble_eq_true rfl, Nat.le_of_ble_eq_true rfl⟩ (Nat.le_of_ble_eq_true rfl) rfl dX5_meeting_7
    | ok v6 =>
      try dsimp only at hf
      refine G.callXo C TT (st := []) (st2 := []) (cx_X5_requireHue hr5) rfl (ko_X5_requireHue hr5) rfl m9_91 m9_92 m9_93 m9_2 m9_94 kd_X5_requireHue ⟨Nat.le_of_ble_eq_true rfl, Nat.le_of_ble_eq_true rfl⟩ (Nat.le_of_ble_eq_true rfl) rfl rfl dX5_meeting_7 ?_
      refine G.aload_n C 0 dX5_meeting_10 rfl rfl ?_
      refine G.iload_n C 1 dX5_meeting_11 rfl rfl ?_
      refine G.iload_n C 2 dX5_meeting_12 rfl rfl ?_
      obtain ⟨r9, hr9, hf⟩ := bind_some hf
      cases r9 with
      | error E12 =>
        try dsimp only at hf
        cases hf
        exact G.callXe C TT tab (st := []) (cx_X5_requirePhase hr9) rfl rfl ⟨rfl, rfl⟩ (ko_X5_requirePhase hr9) rfl m9_257 m9_258 m9_259 m9_2 m9_260 kd_X5_requirePhase ⟨Nat.le_of_ble_eq_true rfl, Nat.le_of_ble_eq_true rfl⟩ (Nat.le_of_ble_eq_true rfl) rfl dX5_meeting_13
      | ok v10 =>
        try dsimp only at hf
        refine G.callXo C TT (st := []) (st2 := []) (cx_X5_requirePhase hr9) rfl (ko_X5_requirePhase hr9) rfl m9_257 m9_258 m9_259 m9_2 m9_260 kd_X5_requirePhase ⟨Nat.le_of_ble_eq_true rfl, Nat.le_of_ble_eq_true rfl⟩ (Nat.le_of_ble_eq_true rfl) rfl rfl dX5_meeting_13 ?_
        refine G.aload_n C 0 dX5_meeting_16 rfl rfl ?_
        refine G.iload_n C 3 dX5_meeting_17 rfl rfl ?_
        refine G.iload C 4 dX5_meeting_18 rfl ?_
        obtain ⟨r13, hr13, hf⟩ := bind_some hf
        cases r13 with
        | error E16 =>
          try dsimp only at hf
          cases hf
          exact G.callXe C TT tab (st := []) (cx_X5_requirePhase hr13) rfl rfl ⟨rfl, rfl⟩ (ko_X5_requirePhase hr13) rfl m9_257 m9_258 m9_259 m9_2 m9_260 kd_X5_requirePhase ⟨Nat.le_of_ble_eq_true rfl, Nat.le_of_ble_eq_true rfl⟩ (Nat.le_of_ble_eq_true rfl) rfl dX5_meeting_20
        | ok v14 =>
          try dsimp only at hf
          refine G.callXo C TT (st := []) (st2 := []) (cx_X5_requirePhase hr13) rfl (ko_X5_requirePhase hr13) rfl m9_257 m9_258 m9_259 m9_2 m9_260 kd_X5_requirePhase ⟨Nat.le_of_ble_eq_true rfl, Nat.le_of_ble_eq_true rfl⟩ (Nat.le_of_ble_eq_true rfl) rfl rfl dX5_meeting_20 ?_
          refine G.aload_n C 0 dX5_meeting_23 rfl rfl ?_
          refine G.getR (ci := 4) (k := 0) C rfl inlX5 (by decide) m9_16 rfl hf dX5_meeting_24 (fun v17 hv17 hf => ?_)
          try dsimp only at hf
          refine G.iload_n C 1 dX5_meeting_27 rfl rfl ?_
          obtain ⟨v18, hv18, hf⟩ := bind_some hf
          try dsimp only at hf
          refine G.callV C (st := []) (st2 := [.int (v18)]) (ct_X3_gapAt hv18) (ko_X3_gapAt hv18) rfl m9_129 m9_130 m9_131 m9_15 m9_132 kd_X3_gapAt ⟨Nat.le_of_ble_eq_true rfl, Nat.le_of_ble_eq_true rfl⟩ ⟨Nat.zero_le _, Nat.zero_le _⟩ (Nat.le_of_ble_eq_true rfl) rfl rfl dX5_meeting_28 ?_
          refine G.iload_n C 2 dX5_meeting_31 rfl rfl ?_
          refine G.aload_n C 0 dX5_meeting_32 rfl rfl ?_
          refine G.getR (ci := 4) (k := 0) C rfl inlX5 (by decide) m9_16 rfl hf dX5_meeting_33 (fun v19 hv19 hf => ?_)
          try dsimp only at hf
          refine G.iload_n C 3 dX5_meeting_36 rfl rfl ?_
          obtain ⟨v20, hv20, hf⟩ := bind_some hf
          try dsimp only at hf
          refine G.callV C (st := [.int (a2), .int (v18)]) (st2 := [.int (v20), .int (a2), .int (v18)]) (ct_X3_gapAt hv20) (ko_X3_gapAt hv20) rfl m9_129 m9_130 m9_131 m9_15 m9_132 kd_X3_gapAt ⟨Nat.le_of_ble_eq_true rfl, Nat.le_of_ble_eq_true rfl⟩ ⟨Nat.zero_le _, Nat.zero_le _⟩ (Nat.le_of_ble_eq_true rfl) rfl rfl dX5_meeting_37 ?_
          refine G.iload C 4 dX5_meeting_40 rfl ?_
          obtain ⟨v21, hv21, hf⟩ := bind_some hf
          try dsimp only at hf
          refine G.callS C (st := []) (st2 := [.int (v21)]) (ct_X1_meetByRemainders hv21) m9_853 m9_854 m9_376 m9_855 kd_X1_meetByRemainders ⟨Nat.le_of_ble_eq_true rfl, Nat.le_of_ble_eq_true rfl⟩ ⟨Nat.zero_le _, Nat.zero_le _⟩ (Nat.le_of_ble_eq_true rfl) rfl rfl dX5_meeting_42 ?_
          cases hf
          refine G.retX rfl ?_
          exact G.iret C rfl dX5_meeting_45
theorem ko_X5_walked {h : PH} {a0 : Nat} {a1 : Int32} {a2 : Int32} {a3 : Int32} {a4 : Int32} {r : (Except String Int32)} (hf : f_X5_walked h a0 a1 a2 a3 a4 = some r) : kO h a0 4 := by
  unfold f_X5_walked at hf
  exact okO_k (gd_ok hf).1
theorem kd_X5_walked : yX5_walked.cls = RX5 ∧ yX5_walked.cls ≠ "java/lang/invoke/MethodHandle" ∧ yX5_walked.cls ≠ "java/lang/invoke/VarHandle" ∧ (parseMethodDescriptor yX5_walked.desc).map (fun d => d.parameters.length) = some 4 := by decide +kernel
set_option maxRecDepth 20000 in
set_option maxHeartbeats 4000000 in
theorem cx_X5_walked {l : Launch} {h : PH} {a0 : Nat} {a1 : Int32} {a2 : Int32} {a3 : Int32} {a4 : Int32} {r : (Except String Int32)} (hf : f_X5_walked h a0 a1 a2 a3 a4 = some r) : CX l yX5_walked cX5_walked 5 (some .int) 7 112 [.ref (a0), .int (a1), .int (a2), .int (a3), .int (a4)] h (xI h r) := by
  refine CX.of (own := RX5) rfl (by decide) (Nat.le_of_ble_eq_true rfl) ?_
  intro p e R s m args below meth c g X hR C TT tab
  subst hR
  unfold f_X5_walked at hf
  obtain ⟨hok, hf⟩ := gd_ok hf
  refine G.sub C [0, 1, 2, 3, 4] (lv' := [(0, .ref (a0)), (1, .int (a1)), (2, .int (a2)), (3, .int (a3)), (4, .int (a4))]) rfl ?_
  refine G.aload_n C 0 dX5_walked_0 rfl rfl ?_
  refine G.iload_n C 1 dX5_walked_1 rfl rfl ?_
  obtain ⟨r1, hr1, hf⟩ := bind_some hf
  cases r1 with
  | error E4 =>
    try dsimp only at hf
    cases hf
    exact G.callXe C TT tab (st := []) (cx_X5_requireHue hr1) rfl rfl ⟨rfl, rfl⟩ (ko_X5_requireHue hr1) rfl m9_91 m9_92 m9_93 m9_2 m9_94 kd_X5_requireHue ⟨Nat.le_of_ble_eq_true rfl, Nat.le_of_ble_eq_true rfl⟩ (Nat.le_of_ble_eq_true rfl) rfl dX5_walked_2
  | ok v2 =>
    try dsimp only at hf
    refine G.callXo C TT (st := []) (st2 := []) (cx_X5_requireHue hr1) rfl (ko_X5_requireHue hr1) rfl m9_91 m9_92 m9_93 m9_2 m9_94 kd_X5_requireHue ⟨Nat.le_of_ble_eq_true rfl, Nat.le_of_ble_eq_true rfl⟩ (Nat.le_of_ble_eq_true rfl) rfl rfl dX5_walked_2 ?_
    refine G.aload_n C 0 dX5_walked_5 rfl rfl ?_
    refine G.iload_n C 3 dX5_walked_6 rfl rfl ?_
    obtain ⟨r5, hr5, hf⟩ := bind_some hf
    cases r5 with
    | error E8 =>
      try dsimp only at hf
      cases hf
      exact G.callXe C TT tab (st := []) (cx_X5_requireHue hr5) rfl rfl ⟨rfl, rfl⟩ (ko_X5_requireHue hr5) rfl m9_91 m9_92 m9_93 m9_2 m9_94 kd_X5_requireHue ⟨Nat.le_of_ble_eq_true rfl, Nat.le_of_ble_eq_true rfl⟩ (Nat.le_of_ble_eq_true rfl) rfl dX5_walked_7
    | ok v6 =>
      try dsimp only at hf
      refine G.callXo C TT (st := []) (st2 := []) (cx_X5_requireHue hr5) rfl (ko_X5_requireHue hr5) rfl m9_91 m9_92 m9_93 m9_2 m9_94 kd_X5_requireHue ⟨Nat.le_of_ble_eq_true rfl, Nat.le_of_ble_eq_true rfl⟩ (Nat.le_of_ble_eq_true rfl) rfl rfl dX5_walked_7 ?_
      refine G.aload_n C 0 dX5_walked_10 rfl rfl ?_
      refine G.iload_n C 1 dX5_walked_11 rfl rfl ?_
      refine G.iload_n C 2 dX5_walked_12 rfl rfl ?_
      obtain ⟨r9, hr9, hf⟩ := bind_some hf
      cases r9 with
      | error E12 =>
        try dsimp only at hf
        cases hf
        exact G.callXe C TT tab (st := []) (cx_X5_requirePhase hr9) rfl rfl ⟨rfl, rfl⟩ (ko_X5_requirePhase hr9) rfl m9_257 m9_258 m9_259 m9_2 m9_260 kd_X5_requirePhase ⟨Nat.le_of_ble_eq_true rfl, Nat.le_of_ble_eq_true rfl⟩ (Nat.le_of_ble_eq_true rfl) rfl dX5_walked_13
      | ok v10 =>
        try dsimp only at hf
        refine G.callXo C TT (st := []) (st2 := []) (cx_X5_requirePhase hr9) rfl (ko_X5_requirePhase hr9) rfl m9_257 m9_258 m9_259 m9_2 m9_260 kd_X5_requirePhase ⟨Nat.le_of_ble_eq_true rfl, Nat.le_of_ble_eq_true rfl⟩ (Nat.le_of_ble_eq_true rfl) rfl rfl dX5_walked_13 ?_
        refine G.aload_n C 0 dX5_walked_16 rfl rfl ?_
        refine G.iload_n C 3 dX5_walked_17 rfl rfl ?_
        refine G.iload C 4 dX5_walked_18 rfl ?_
        obtain ⟨r13, hr13, hf⟩ := bind_some hf
        cases r13 with
        | error E16 =>
          try dsimp only at hf
          cases hf
          exact G.callXe C TT tab (st := []) (cx_X5_requirePhase hr13) rfl rfl ⟨rfl, rfl⟩ (ko_X5_requirePhase hr13) rfl m9_257 m9_258 m9_259 m9_2 m9_260 kd_X5_requirePhase ⟨Nat.le_of_ble_eq_true rfl, Nat.le_of_ble_eq_true rfl⟩ (Nat.le_of_ble_eq_true rfl) rfl dX5_walked_20
        | ok v14 =>
          try dsimp only at hf
          refine G.callXo C TT (st := []) (st2 := []) (cx_X5_requirePhase hr13) rfl (ko_X5_requirePhase hr13) rfl m9_257 m9_258 m9_259 m9_2 m9_260 kd_X5_requirePhase ⟨Nat.le_of_ble_eq_true rfl, Nat.le_of_ble_eq_true rfl⟩ (Nat.le_of_ble_eq_true rfl) rfl rfl dX5_walked_20 ?_
          refine G.aload_n C 0 dX5_walked_23 rfl rfl ?_
          refine G.getR (ci := 4) (k := 0) C rfl inlX5 (by decide) m9_16 rfl hf dX5_walked_24 (fun v17 hv17 hf => ?_)
          try dsimp only at hf
          refine G.iload_n C 1 dX5_walked_27 rfl rfl ?_
          obtain ⟨v18, hv18, hf⟩ := bind_some hf
          try dsimp only at hf
          refine G.callV C (st := []) (st2 := [.int (v18)]) (ct_X3_gapAt hv18) (ko_X3_gapAt hv18) rfl m9_129 m9_130 m9_131 m9_15 m9_132 kd_X3_gapAt ⟨Nat.le_of_ble_eq_true rfl, Nat.le_of_ble_eq_true rfl⟩ ⟨Nat.zero_le _, Nat.zero_le _⟩ (Nat.le_of_ble_eq_true rfl) rfl rfl dX5_walked_28 ?_
          refine G.iload_n C 2 dX5_walked_31 rfl rfl ?_
          refine G.aload_n C 0 dX5_walked_32 rfl rfl ?_
          refine G.getR (ci := 4) (k := 0) C rfl inlX5 (by decide) m9_16 rfl hf dX5_walked_33 (fun v19 hv19 hf => ?_)
          try dsimp only at hf
          refine G.iload_n C 3 dX5_walked_36 rfl rfl ?_
          obtain ⟨v20, hv20, hf⟩ := bind_some hf
          try dsimp only at hf
          refine G.callV C (st := [.int (a2), .int (v18)]) (st2 := [.int (v20), .int (a2), .int (v18)]) (ct_X3_gapAt hv20) (ko_X3_gapAt hv20) rfl m9_129 m9_130 m9_131 m9_15 m9_132 kd_X3_gapAt ⟨Nat.le_of_ble_eq_true rfl, Nat.le_of_ble_eq_true rfl⟩ ⟨Nat.zero_le _, Nat.zero_le _⟩ (Nat.le_of_ble_eq_true rfl) rfl rfl dX5_walked_37 ?_
          refine G.iload C 4 dX5_walked_40 rfl ?_
          obtain ⟨v21, hv21, hf⟩ := bind_some hf
          try dsimp only at hf
          refine G.callS C (st := []) (st2 := [.int (v21)]) (ct_X1_meetByWalking hv21) m9_876 m9_877 m9_376 m9_878 kd_X1_meetByWalking ⟨Nat.le_of_ble_eq_true rfl, Nat.le_of_ble_eq_true rfl⟩ ⟨Nat.zero_le _, Nat.zero_le _⟩ (Nat.le_of_ble_eq_true rfl) rfl rfl dX5_walked_42 ?_
          cases hf
          refine G.retX rfl ?_
          exact G.iret C rfl dX5_walked_45
theorem ko_X5_phases {h : PH} {a0 : Nat} {a1 : Int32} {a2 : Int32} {a3 : Int32} {r : (Except String Int32)} (hf : f_X5_phases h a0 a1 a2 a3 = some r) : kO h a0 4 := by
  unfold f_X5_phases at hf
  exact okO_k (gd_ok hf).1
theorem kd_X5_phases : yX5_phases.cls = RX5 ∧ yX5_phases.cls ≠ "java/lang/invoke/MethodHandle" ∧ yX5_phases.cls ≠ "java/lang/invoke/VarHandle" ∧ (parseMethodDescriptor yX5_phases.desc).map (fun d => d.parameters.length) = some 3 := by decide +kernel
set_option maxRecDepth 20000 in
set_option maxHeartbeats 4000000 in
theorem cx_X5_phases {l : Launch} {h : PH} {a0 : Nat} {a1 : Int32} {a2 : Int32} {a3 : Int32} {r : (Except String Int32)} (hf : f_X5_phases h a0 a1 a2 a3 = some r) : CX l yX5_phases cX5_phases 5 (some .int) 7 112 [.ref (a0), .int (a1), .int (a2), .int (a3)] h (xI h r) := by
  refine CX.of (own := RX5) rfl (by decide) (Nat.le_of_ble_eq_true rfl) ?_
  intro p e R s m args below meth c g X hR C TT tab
  subst hR
  unfold f_X5_phases at hf
  obtain ⟨hok, hf⟩ := gd_ok hf
  refine G.sub C [0, 1, 2, 3] (lv' := [(0, .ref (a0)), (1, .int (a1)), (2, .int (a2)), (3, .int (a3))]) rfl ?_
  refine G.aload_n C 0 dX5_phases_0 rfl rfl ?_
  refine G.iload_n C 1 dX5_phases_1 rfl rfl ?_
  obtain ⟨r1, hr1, hf⟩ := bind_some hf
  cases r1 with
  | error E4 =>
    try dsimp only at hf
    cases hf
    exact G.callXe C TT tab (st := []) (cx_X5_existing hr1) rfl rfl ⟨rfl, rfl⟩ (ko_X5_existing hr1) rfl m9_229 m9_230 m9_231 m9_2 m9_232 kd_X5_existing ⟨Nat.le_of_ble_eq_true rfl, Nat.le_of_ble_eq_true rfl⟩ (Nat.le_of_ble_eq_true rfl) rfl dX5_phases_2
  | ok v2 =>
    try dsimp only at hf
    refine G.callXo C TT (st := []) (st2 := [.ref (v2)]) (cx_X5_existing hr1) rfl (ko_X5_existing hr1) rfl m9_229 m9_230 m9_231 m9_2 m9_232 kd_X5_existing ⟨Nat.le_of_ble_eq_true rfl, Nat.le_of_ble_eq_true rfl⟩ (Nat.le_of_ble_eq_true rfl) rfl rfl dX5_phases_2 ?_
    refine G.astore (lv' := [(4, .ref (v2)), (0, .ref (a0)), (1, .int (a1)), (2, .int (a2)), (3, .int (a3))]) C dX5_phases_5 (by decide) rfl ?_
    refine G.aload_n C 1 dX5_phases_7 rfl rfl ?_
    refine G.iload_n C 3 dX5_phases_8 rfl rfl ?_
    obtain ⟨r5, hr5, hf⟩ := bind_some hf
    cases r5 with
    | error E8 =>
      try dsimp only at hf
      cases hf
      exact G.callXe C TT tab (st := []) (cx_X5_requireHue hr5) rfl rfl ⟨rfl, rfl⟩ (ko_X5_requireHue hr5) rfl m9_91 m9_92 m9_93 m9_2 m9_94 kd_X5_requireHue ⟨Nat.le_of_ble_eq_true rfl, Nat.le_of_ble_eq_true rfl⟩ (Nat.le_of_ble_eq_true rfl) rfl dX5_phases_9
    | ok v6 =>
      try dsimp only at hf
      refine G.callXo C TT (st := []) (st2 := []) (cx_X5_requireHue hr5) rfl (ko_X5_requireHue hr5) rfl m9_91 m9_92 m9_93 m9_2 m9_94 kd_X5_requireHue ⟨Nat.le_of_ble_eq_true rfl, Nat.le_of_ble_eq_true rfl⟩ (Nat.le_of_ble_eq_true rfl) rfl rfl dX5_phases_9 ?_
      refine G.aload_n C 1 dX5_phases_12 rfl rfl ?_
      refine G.iload_n C 4 dX5_phases_13 rfl rfl ?_
      refine G.iconst (v := 3) C dX5_phases_14 (by decide) ?_
      obtain ⟨r9, hr9, hf⟩ := bind_some hf
      cases r9 with
      | error E12 =>
        try dsimp only at hf
        cases hf
        exact G.callXe C TT tab (st := []) (cx_X5_requireWhat hr9) rfl rfl ⟨rfl, rfl⟩ (ko_X5_requireWhat hr9) rfl m9_695 m9_696 m9_697 m9_2 m9_698 kd_X5_requireWhat ⟨Nat.le_of_ble_eq_true rfl, Nat.le_of_ble_eq_true rfl⟩ (Nat.le_of_ble_eq_true rfl) rfl dX5_phases_15
      | ok v10 =>
        try dsimp only at hf
        refine G.callXo C TT (st := []) (st2 := []) (cx_X5_requireWhat hr9) rfl (ko_X5_requireWhat hr9) rfl m9_695 m9_696 m9_697 m9_2 m9_698 kd_X5_requireWhat ⟨Nat.le_of_ble_eq_true rfl, Nat.le_of_ble_eq_true rfl⟩ (Nat.le_of_ble_eq_true rfl) rfl rfl dX5_phases_15 ?_
        refine G.aload C 0 dX5_phases_18 rfl ?_
        refine G.iload_n C 3 dX5_phases_20 rfl rfl ?_
        refine G.aload_n C 1 dX5_phases_21 rfl rfl ?_
        refine G.getR (ci := 4) (k := 0) C rfl inlX5 (by decide) m9_16 rfl hf dX5_phases_22 (fun v13 hv13 hf => ?_)
        try dsimp only at hf
        refine G.iload_n C 3 dX5_phases_25 rfl rfl ?_
        obtain ⟨v14, hv14, hf⟩ := bind_some hf
        try dsimp only at hf
        refine G.callV C (st := [.int (a2), .ref (v2)]) (st2 := [.int (v14), .int (a2), .ref (v2)]) (ct_X3_gapAt hv14) (ko_X3_gapAt hv14) rfl m9_129 m9_130 m9_131 m9_15 m9_132 kd_X3_gapAt ⟨Nat.le_of_ble_eq_true rfl, Nat.le_of_ble_eq_true rfl⟩ ⟨Nat.zero_le _, Nat.zero_le _⟩ (Nat.le_of_ble_eq_true rfl) rfl rfl dX5_phases_26 ?_
        refine G.iload_n C 4 dX5_phases_29 rfl rfl ?_
        obtain ⟨v15, hv15, hf⟩ := bind_some hf
        try dsimp only at hf
        refine G.callV C (st := []) (st2 := [.int (v15)]) (ct_X2_phaseNumber hv15) (ko_X2_phaseNumber hv15) rfl m9_890 m9_891 m9_892 m9_28 m9_893 kd_X2_phaseNumber ⟨Nat.le_of_ble_eq_true rfl, Nat.le_of_ble_eq_true rfl⟩ ⟨Nat.zero_le _, Nat.zero_le _⟩ (Nat.le_of_ble_eq_true rfl) rfl rfl dX5_phases_30 ?_
        cases hf
        refine G.retX rfl ?_
        exact G.iret C rfl dX5_phases_33
theorem ko_X5_fillingHue {h : PH} {a0 : Nat} {a1 : Nat} {r : Int32} (hf : f_X5_fillingHue h a0 a1 = some r) : kO h a0 4 := by
  unfold f_X5_fillingHue at hf
  exact okO_k (gd_ok hf).1
theorem kd_X5_fillingHue : yX5_fillingHue.cls = RX5 ∧ yX5_fillingHue.cls ≠ "java/lang/invoke/MethodHandle" ∧ yX5_fillingHue.cls ≠ "java/lang/invoke/VarHandle" ∧ (parseMethodDescriptor yX5_fillingHue.desc).map (fun d => d.parameters.length) = some 1 := by decide +kernel
set_option maxRecDepth 20000 in
set_option maxHeartbeats 4000000 in
theorem ct_X5_fillingHue {l : Launch} {h : PH} {a0 : Nat} {a1 : Nat} {r : Int32} (hf : f_X5_fillingHue h a0 a1 = some r) : CT l yX5_fillingHue cX5_fillingHue 8 (some .int) 3 73 [.ref (a0), .ref (a1)] h (some (.int r)) h := by
  refine CT.of (own := RX5) rfl (by decide) (Nat.le_of_ble_eq_true rfl) ?_
  intro p e R s m args below meth c g X hR C
  subst hR
  unfold f_X5_fillingHue at hf
  obtain ⟨hok, hf⟩ := gd_ok hf
  have hj73 : ∀ (x2 : Int32), f_X5_fillingHue_J73 h (x2) = some r → G p l e ({ frames := 3, cells := 0, slots := 0, locals := 73 } : Room) s m args below meth c 8 g X h 0 0 (MQ below (QW g X h s.heap.size (some (.int r)) h) args s 0 0 (AF X h s.heap.size)) 73 [(2, .int (x2))] [] h := by
    intro x2 hf
    unfold f_X5_fillingHue_J73 at hf
    refine G.iload_n C 0 dX5_fillingHue_73 rfl rfl ?_
    cases hf
    exact G.iret C rfl dX5_fillingHue_74
  refine G.sub C [0, 1] (lv' := [(0, .ref (a0)), (1, .ref (a1))]) rfl ?_
  refine G.iconst (v := (-1)) C dX5_fillingHue_0 (by decide) ?_
  refine G.istore_n (lv' := [(2, .int (((-1) : Int32))), (0, .ref (a0)), (1, .ref (a1))]) C dX5_fillingHue_1 rfl (by decide) rfl ?_
  refine G.iconst (v := 0) C dX5_fillingHue_2 (by decide) ?_
  refine G.istore_n (lv' := [(3, .int ((0 : Int32))), (2, .int (((-1) : Int32))), (0, .ref (a0)), (1, .ref (a1))]) C dX5_fillingHue_3 rfl (by decide) rfl ?_
  refine G.iconst (v := 0) C dX5_fillingHue_4 (by decide) ?_
  refine G.istore (lv' := [(4, .int ((0 : Int32))), (3, .int ((0 : Int32))), (2, .int (((-1) : Int32))), (0, .ref (a0)), (1, .ref (a1))]) C dX5_fillingHue_5 (by decide) rfl ?_
  obtain ⟨z1, hlp1, hfo1⟩ := bind_some hf
  clear hf
  have hloop1 : ∀ (k : Nat), ∀ (x2 : Int32) (x3 : Int32) (x4 : Int32), (lpn (f_X5_fillingHue_L7 (h) (a0) (a1)) k (x2, x3, x4)) = some z1 → G p l e ({ frames := 3, cells := 0, slots := 0, locals := 73 } : Room) s m args below meth c 8 g X h 0 0 (MQ below (QW g X h s.heap.size (some (.int r)) h) args s 0 0 (AF X h s.heap.size)) 7 [(0, .ref (a0)), (1, .ref (a1)), (2, .int (x2)), (3, .int (x3)), (4, .int (x4))] [] h := by
    intro k
    induction k with
    | zero => intro x2 x3 x4 hlp1; exact (lpn_0 hlp1).elim
    | succ k ih1 =>
      intro x2 x3 x4 hlp1
      obtain ⟨y1, hf, hlp1⟩ := lpn_s hlp1
      unfold f_X5_fillingHue_L7 at hf
      try dsimp only at hf
      have hj67 : ∀ (x2 : Int32) (x3 : Int32) (x4 : Int32), f_X5_fillingHue_J67 h (a0) (a1) (x2) (x3) (x4) = some y1 → G p l e ({ frames := 3, cells := 0, slots := 0, locals := 73 } : Room) s m args below meth c 8 g X h 0 0 (MQ below (QW g X h s.heap.size (some (.int r)) h) args s 0 0 (AF X h s.heap.size)) 67 [(0, .ref (a0)), (1, .ref (a1)), (2, .int (x2)), (3, .int (x3)), (4, .int (x4))] [] h := by
        intro x2 x3 x4 hf
        unfold f_X5_fillingHue_J67 at hf
        refine G.iinc (k := 4) (v := (x4 + 1)) (lv' := [(4, .int ((x4 + 1))), (0, .ref (a0)), (1, .ref (a1)), (2, .int (x2)), (3, .int (x3))]) C dX5_fillingHue_67 rfl rfl (by decide) rfl ?_
        refine G.goto (tgt := 7) C dX5_fillingHue_70 (by decide) ?_
        cases hf
        refine G.sub C [1, 2, 3, 4, 0] (lv' := [(0, .ref (a0)), (1, .ref (a1)), (2, .int (x2)), (3, .int (x3)), (4, .int ((x4 + 1)))]) rfl ?_
        exact ih1 _ _ _ hlp1
      have hj53 : ∀ (x2 : Int32) (x3 : Int32) (x4 : Int32) (k0 : Int32), f_X5_fillingHue_J53 h (a0) (a1) (x2) (x3) (x4) k0 = some y1 → G p l e ({ frames := 3, cells := 0, slots := 0, locals := 73 } : Room) s m args below meth c 8 g X h 0 0 (MQ below (QW g X h s.heap.size (some (.int r)) h) args s 0 0 (AF X h s.heap.size)) 53 [(0, .ref (a0)), (1, .ref (a1)), (2, .int (x2)), (3, .int (x3)), (4, .int (x4))] [.int (k0)] h := by
        intro x2 x3 x4 k0 hf
        unfold f_X5_fillingHue_J53 at hf
        refine G.istore (lv' := [(7, .int (k0)), (0, .ref (a0)), (1, .ref (a1)), (2, .int (x2)), (3, .int (x3)), (4, .int (x4))]) C dX5_fillingHue_53 (by decide) rfl ?_
        refine G.iload C 0 dX5_fillingHue_55 rfl ?_
        refine G.iload_n C 4 dX5_fillingHue_57 rfl rfl ?_
        refine G.icmp_le (tgt := 67) C dX5_fillingHue_58 (by decide) hf (fun c2 hf => ?_) (fun c2 hf => ?_)
        · refine G.sub C [1, 2, 3, 4, 5] (lv' := [(0, .ref (a0)), (1, .ref (a1)), (2, .int (x2)), (3, .int (x3)), (4, .int (x4))]) rfl ?_
          exact hj67 _ _ _ hf
        · refine G.iload C 0 dX5_fillingHue_61 rfl ?_
          refine G.istore_n (lv' := [(3, .int (k0)), (7, .int (k0)), (0, .ref (a0)), (1, .ref (a1)), (2, .int (x2)), (4, .int (x4))]) C dX5_fillingHue_63 rfl (by decide) rfl ?_
          refine G.iload C 5 dX5_fillingHue_64 rfl ?_
          refine G.istore_n (lv' := [(2, .int (x4)), (3, .int (k0)), (7, .int (k0)), (0, .ref (a0)), (1, .ref (a1)), (4, .int (x4))]) C dX5_fillingHue_66 rfl (by decide) rfl ?_
          refine G.sub C [3, 4, 0, 1, 5] (lv' := [(0, .ref (a0)), (1, .ref (a1)), (2, .int (x4)), (3, .int (k0)), (4, .int (x4))]) rfl ?_
          exact hj67 _ _ _ hf
      refine G.iload C 4 dX5_fillingHue_7 rfl ?_
      refine G.bipush (v := 8) C dX5_fillingHue_9 (by decide) ?_
      refine G.icmp_ge (tgt := 73) C dX5_fillingHue_11 (by decide) hf (fun c8 hf => ?_) (fun c8 hf => ?_)
      · cases hf
        change some _ = some _ at hlp1
        have hf := hfo1
        try rw [← Option.some.inj hlp1] at hf
        try dsimp only at hf
        refine G.sub C [2] (lv' := [(2, .int (x2))]) rfl ?_
        exact hj73 _ hf
      · refine G.aload_n C 0 dX5_fillingHue_14 rfl rfl ?_
        refine G.getR (ci := 4) (k := 0) C rfl inlX5 (by decide) m9_16 rfl hf dX5_fillingHue_15 (fun v3 hv3 hf => ?_)
        try dsimp only at hf
        refine G.iload C 4 dX5_fillingHue_18 rfl ?_
        obtain ⟨v4, hv4, hf⟩ := bind_some hf
        try dsimp only at hf
        refine G.callV C (st := []) (st2 := [.int (v4)]) (ct_X3_gapAt hv4) (ko_X3_gapAt hv4) rfl m9_129 m9_130 m9_131 m9_15 m9_132 kd_X3_gapAt ⟨Nat.le_of_ble_eq_true rfl, Nat.le_of_ble_eq_true rfl⟩ ⟨Nat.zero_le _, Nat.zero_le _⟩ (Nat.le_of_ble_eq_true rfl) rfl rfl dX5_fillingHue_20 ?_
        refine G.istore (lv' := [(5, .int (v4)), (0, .ref (a0)), (1, .ref (a1)), (2, .int (x2)), (3, .int (x3)), (4, .int (x4))]) C dX5_fillingHue_23 (by decide) rfl ?_
        refine G.aload_n C 2 dX5_fillingHue_25 rfl rfl ?_
        refine G.iload C 5 dX5_fillingHue_26 rfl ?_
        refine G.iload C 0 dX5_fillingHue_28 rfl ?_
        obtain ⟨v5, hv5, hf⟩ := bind_some hf
        try dsimp only at hf
        refine G.callV C (st := []) (st2 := [.int (v5)]) (ct_X2_fillingPhase hv5) (ko_X2_fillingPhase hv5) rfl m9_934 m9_904 m9_905 m9_28 m9_906 kd_X2_fillingPhase ⟨Nat.le_of_ble_eq_true rfl, Nat.le_of_ble_eq_true rfl⟩ ⟨Nat.zero_le _, Nat.zero_le _⟩ (Nat.le_of_ble_eq_true rfl) rfl rfl dX5_fillingHue_30 ?_
        refine G.istore (lv' := [(6, .int (v5)), (5, .int (v4)), (0, .ref (a0)), (1, .ref (a1)), (2, .int (x2)), (3, .int (x3)), (4, .int (x4))]) C dX5_fillingHue_33 (by decide) rfl ?_
        refine G.iload C 0 dX5_fillingHue_35 rfl ?_
        refine G.iconst (v := (-1)) C dX5_fillingHue_37 (by decide) ?_
        refine G.icmp_ne (tgt := 45) C dX5_fillingHue_38 (by decide) hf (fun c7 hf => ?_) (fun c7 hf => ?_)
        · refine G.aload_n C 3 dX5_fillingHue_45 rfl rfl ?_
          refine G.iload C 0 dX5_fillingHue_46 rfl ?_
          refine G.iload C 1 dX5_fillingHue_48 rfl ?_
          obtain ⟨v6, hv6, hf⟩ := bind_some hf
          try dsimp only at hf
          refine G.callV C (st := []) (st2 := [.int (v6)]) (ct_X2_placesFrom hv6) (ko_X2_placesFrom hv6) rfl m9_935 m9_908 m9_909 m9_28 m9_910 kd_X2_placesFrom ⟨Nat.le_of_ble_eq_true rfl, Nat.le_of_ble_eq_true rfl⟩ ⟨Nat.zero_le _, Nat.zero_le _⟩ (Nat.le_of_ble_eq_true rfl) rfl rfl dX5_fillingHue_50 ?_
          refine G.sub C [2, 3, 4, 5, 6] (lv' := [(0, .ref (a0)), (1, .ref (a1)), (2, .int (x2)), (3, .int (x3)), (4, .int (x4))]) rfl ?_
          exact hj53 _ _ _ _ hf
        · refine G.iconst (v := 0) C dX5_fillingHue_41 (by decide) ?_
          refine G.goto (tgt := 53) C dX5_fillingHue_42 (by decide) ?_
          refine G.sub C [2, 3, 4, 5, 6] (lv' := [(0, .ref (a0)), (1, .ref (a1)), (2, .int (x2)), (3, .int (x3)), (4, .int (x4))]) rfl ?_
          exact hj53 _ _ _ _ hf
  refine G.sub C [3, 4, 2, 1, 0] (lv' := [(0, .ref (a0)), (1, .ref (a1)), (2, .int (((-1) : Int32))), (3, .int ((0 : Int32))), (4, .int ((0 : Int32)))]) rfl ?_
  exact hloop1 LF _ _ _ hlp1
theorem ko_X5_bestHue {h : PH} {a0 : Nat} {a1 : Int32} {r : (Except String Int32)} (hf : f_X5_bestHue h a0 a1 = some r) : kO h a0 4 := by
  unfold f_X5_bestHue at hf
  exact okO_k (gd_ok hf).1
theorem kd_X5_bestHue : yX5_bestHue.cls = RX5 ∧ yX5_bestHue.cls ≠ "java/lang/invoke/MethodHandle" ∧ yX5_bestHue.cls ≠ "java/lang/invoke/VarHandle" ∧ (parseMethodDescriptor yX5_bestHue.desc).map (fun d => d.parameters.length) = some 1 := by decide +kernel
set_option maxRecDepth 20000 in
set_option maxHeartbeats 4000000 in
theorem cx_X5_bestHue {l : Launch} {h : PH} {a0 : Nat} {a1 : Int32} {r : (Except String Int32)} (hf : f_X5_bestHue h a0 a1 = some r) : CX l yX5_bestHue cX5_bestHue 2 (some .int) 7 112 [.ref (a0), .int (a1)] h (xI h r) := by
  refine CX.of (own := RX5) rfl (by decide) (Nat.le_of_ble_eq_true rfl) ?_
  intro p e R s m args below meth c g X hR C TT tab
  subst hR
  unfold f_X5_bestHue at hf
  obtain ⟨hok, hf⟩ := gd_ok hf
  refine G.sub C [0, 1] (lv' := [(0, .ref (a0)), (1, .int (a1))]) rfl ?_
  refine G.aload_n C 0 dX5_bestHue_0 rfl rfl ?_
  refine G.aload_n C 0 dX5_bestHue_1 rfl rfl ?_
  refine G.iload_n C 1 dX5_bestHue_2 rfl rfl ?_
  obtain ⟨r1, hr1, hf⟩ := bind_some hf
  cases r1 with
  | error E4 =>
    try dsimp only at hf
    cases hf
    exact G.callXe C TT tab (st := [.ref (a0)]) (cx_X5_existing hr1) rfl rfl ⟨rfl, rfl⟩ (ko_X5_existing hr1) rfl m9_229 m9_230 m9_231 m9_2 m9_232 kd_X5_existing ⟨Nat.le_of_ble_eq_true rfl, Nat.le_of_ble_eq_true rfl⟩ (Nat.le_of_ble_eq_true rfl) rfl dX5_bestHue_3
  | ok v2 =>
    try dsimp only at hf
    refine G.callXo C TT (st := [.ref (a0)]) (st2 := [.ref (v2), .ref (a0)]) (cx_X5_existing hr1) rfl (ko_X5_existing hr1) rfl m9_229 m9_230 m9_231 m9_2 m9_232 kd_X5_existing ⟨Nat.le_of_ble_eq_true rfl, Nat.le_of_ble_eq_true rfl⟩ (Nat.le_of_ble_eq_true rfl) rfl rfl dX5_bestHue_3 ?_
    obtain ⟨v5, hv5, hf⟩ := bind_some hf
    try dsimp only at hf
    refine G.callV C (st := []) (st2 := [.int (v5)]) (ct_X5_fillingHue hv5) (ko_X5_fillingHue hv5) rfl m9_930 m9_931 m9_932 m9_2 m9_933 kd_X5_fillingHue ⟨Nat.le_of_ble_eq_true rfl, Nat.le_of_ble_eq_true rfl⟩ ⟨Nat.zero_le _, Nat.zero_le _⟩ (Nat.le_of_ble_eq_true rfl) rfl rfl dX5_bestHue_6 ?_
    cases hf
    refine G.retX rfl ?_
    exact G.iret C rfl dX5_bestHue_9
theorem ko_X5_joining {h : PH} {a0 : Nat} {a1 : Int32} {a2 : Int32} {r : (Except (String × PH) (Int32 × PH))} (hf : f_X5_joining h a0 a1 a2 = some r) : kO h a0 4 := by
  unfold f_X5_joining at hf
  exact okO_k (gd_ok hf).1
theorem kd_X5_joining : yX5_joining.cls = RX5 ∧ yX5_joining.cls ≠ "java/lang/invoke/MethodHandle" ∧ yX5_joining.cls ≠ "java/lang/invoke/VarHandle" ∧ (parseMethodDescriptor yX5_joining.desc).map (fun d => d.parameters.length) = some 2 := by decide +kernel
set_option maxRecDepth 20000 in
set_option maxHeartbeats 4000000 in
theorem cx_X5_joining {l : Launch} {h : PH} {a0 : Nat} {a1 : Int32} {a2 : Int32} {r : (Except (String × PH) (Int32 × PH))} (hf : f_X5_joining h a0 a1 a2 = some r) : CX l yX5_joining cX5_joining 5 (some .int) 7 122 [.ref (a0), .int (a1), .int (a2)] h (xIW r) := by
  refine CX.of (own := RX5) rfl (by decide) (Nat.le_of_ble_eq_true rfl) ?_
  intro p e R s m args below meth c g X hR C TT tab
  subst hR
  unfold f_X5_joining at hf
  obtain ⟨hok, hf⟩ := gd_ok hf
  have hj29 : ∀ (hh : PH) (k0 : Int32), f_X5_joining_J29 hh k0 = some r → G p l e ({ frames := 7, cells := cN (xIW r), slots := cS (xIW r), locals := 122 } : Room) s m args below meth c 5 g X h 0 0 (vx_MQ below (QX g X h s.heap.size (xIW r)) (XX g X h s.heap.size (xIW r)) args s (cN (xIW r)) (cS (xIW r)) (AF X h s.heap.size)) 29 [] [.int (k0)] hh := by
    intro hh k0 hf
    unfold f_X5_joining_J29 at hf
    cases hf
    refine G.retX rfl ?_
    exact G.iret C rfl dX5_joining_29
  refine G.sub C [0, 1, 2] (lv' := [(0, .ref (a0)), (1, .int (a1)), (2, .int (a2))]) rfl ?_
  refine G.aload_n C 0 dX5_joining_0 rfl rfl ?_
  refine G.iload_n C 1 dX5_joining_1 rfl rfl ?_
  obtain ⟨r1, hr1, hf⟩ := bind_some hf
  cases r1 with
  | error E4 =>
    try dsimp only at hf
    cases hf
    exact G.callXe C TT tab (st := []) (cx_X5_existing hr1) rfl rfl ⟨rfl, rfl⟩ (ko_X5_existing hr1) rfl m9_229 m9_230 m9_231 m9_2 m9_232 kd_X5_existing ⟨Nat.le_of_ble_eq_true rfl, Nat.le_of_ble_eq_true rfl⟩ (Nat.le_of_ble_eq_true rfl) rfl dX5_joining_2
  | ok v2 =>
    try dsimp only at hf
    refine G.callXo C TT (st := []) (st2 := [.ref (v2)]) (cx_X5_existing hr1) rfl (ko_X5_existing hr1) rfl m9_229 m9_230 m9_231 m9_2 m9_232 kd_X5_existing ⟨Nat.le_of_ble_eq_true rfl, Nat.le_of_ble_eq_true rfl⟩ (Nat.le_of_ble_eq_true rfl) rfl rfl dX5_joining_2 ?_
    refine G.astore_n (lv' := [(3, .ref (v2)), (0, .ref (a0)), (1, .int (a1)), (2, .int (a2))]) C dX5_joining_5 rfl (by decide) rfl ?_
    refine G.aload_n C 1 dX5_joining_6 rfl rfl ?_
    refine G.iload_n C 3 dX5_joining_7 rfl rfl ?_
    obtain ⟨r5, hr5, hf⟩ := bind_some hf
    cases r5 with
    | error E8 =>
      try dsimp only at hf
      cases hf
      exact G.callXe C TT tab (st := []) (cx_X5_existing hr5) rfl rfl ⟨rfl, rfl⟩ (ko_X5_existing hr5) rfl m9_229 m9_230 m9_231 m9_2 m9_232 kd_X5_existing ⟨Nat.le_of_ble_eq_true rfl, Nat.le_of_ble_eq_true rfl⟩ (Nat.le_of_ble_eq_true rfl) rfl dX5_joining_8
    | ok v6 =>
      try dsimp only at hf
      refine G.callXo C TT (st := []) (st2 := [.ref (v6)]) (cx_X5_existing hr5) rfl (ko_X5_existing hr5) rfl m9_229 m9_230 m9_231 m9_2 m9_232 kd_X5_existing ⟨Nat.le_of_ble_eq_true rfl, Nat.le_of_ble_eq_true rfl⟩ (Nat.le_of_ble_eq_true rfl) rfl rfl dX5_joining_8 ?_
      refine G.astore (lv' := [(4, .ref (v6)), (3, .ref (v2)), (0, .ref (a0)), (1, .int (a1)), (2, .int (a2))]) C dX5_joining_11 (by decide) rfl ?_
      refine G.iload_n C 3 dX5_joining_13 rfl rfl ?_
      refine G.iload_n C 4 dX5_joining_14 rfl rfl ?_
      refine G.icmp_ne (tgt := 22) C dX5_joining_15 (by decide) hf (fun c12 hf => ?_) (fun c12 hf => ?_)
      · refine G.aload_n C 2 dX5_joining_22 rfl rfl ?_
        refine G.aload_n C 1 dX5_joining_23 rfl rfl ?_
        refine G.aload C 0 dX5_joining_24 rfl ?_
        obtain ⟨⟨v9, h10⟩, hv9, hf⟩ := bind_some hf
        try dsimp only at hf
        refine G.callV C (st := []) (st2 := [.int (v9)]) (ct_X5_reasonAgainstJoining hv9) (ko_X5_reasonAgainstJoining hv9) rfl m9_462 m9_463 m9_464 m9_2 m9_465 kd_X5_reasonAgainstJoining ⟨Nat.le_of_ble_eq_true rfl, Nat.le_of_ble_eq_true rfl⟩ ⟨Nat.zero_le _, Nat.zero_le _⟩ (Nat.le_of_ble_eq_true rfl) rfl rfl dX5_joining_26 ?_
        refine G.sub C [] (lv' := []) rfl ?_
        exact hj29 _ _ hf
      · refine G.iconst (v := 1) C dX5_joining_18 (by decide) ?_
        refine G.goto (tgt := 29) C dX5_joining_19 (by decide) ?_
        refine G.sub C [] (lv' := []) rfl ?_
        exact hj29 _ _ hf
theorem ko_X5_greatest {h : PH} {a0 : Nat} {a1 : Int32} {r : (Except String Int32)} (hf : f_X5_greatest h a0 a1 = some r) : kO h a0 4 := by
  unfold f_X5_greatest at hf
  exact okO_k (gd_ok hf).1
theorem kd_X5_greatest : yX5_greatest.cls = RX5 ∧ yX5_greatest.cls ≠ "java/lang/invoke/MethodHandle" ∧ yX5_greatest.cls ≠ "java/lang/invoke/VarHandle" ∧ (parseMethodDescriptor yX5_greatest.desc).map (fun d => d.parameters.length) = some 1 := by decide +kernel
set_option maxRecDepth 20000 in
set_option maxHeartbeats 4000000 in
theorem cx_X5_greatest {l : Launch} {h : PH} {a0 : Nat} {a1 : Int32} {r : (Except String Int32)} (hf : f_X5_greatest h a0 a1 = some r) : CX l yX5_greatest cX5_greatest 2 (some .int) 7 112 [.ref (a0), .int (a1)] h (xI h r) := by
  refine CX.of (own := RX5) rfl (by decide) (Nat.le_of_ble_eq_true rfl) ?_
  intro p e R s m args below meth c g X hR C TT tab
  subst hR
  unfold f_X5_greatest at hf
  obtain ⟨hok, hf⟩ := gd_ok hf
  refine G.sub C [0, 1] (lv' := [(0, .ref (a0)), (1, .int (a1))]) rfl ?_
  refine G.aload_n C 0 dX5_greatest_0 rfl rfl ?_
  refine G.aload_n C 0 dX5_greatest_1 rfl rfl ?_
  refine G.iload_n C 1 dX5_greatest_2 rfl rfl ?_
  obtain ⟨r1, hr1, hf⟩ := bind_some hf
  cases r1 with
  | error E4 =>
    try dsimp only at hf
    cases hf
    exact G.callXe C TT tab (st := [.ref (a0)]) (cx_X5_existing hr1) rfl rfl ⟨rfl, rfl⟩ (ko_X5_existing hr1) rfl m9_229 m9_230 m9_231 m9_2 m9_232 kd_X5_existing ⟨Nat.le_of_ble_eq_true rfl, Nat.le_of_ble_eq_true rfl⟩ (Nat.le_of_ble_eq_true rfl) rfl dX5_greatest_3
  | ok v2 =>
    try dsimp only at hf
    refine G.callXo C TT (st := [.ref (a0)]) (st2 := [.ref (v2), .ref (a0)]) (cx_X5_existing hr1) rfl (ko_X5_existing hr1) rfl m9_229 m9_230 m9_231 m9_2 m9_232 kd_X5_existing ⟨Nat.le_of_ble_eq_true rfl, Nat.le_of_ble_eq_true rfl⟩ (Nat.le_of_ble_eq_true rfl) rfl rfl dX5_greatest_3 ?_
    obtain ⟨v5, hv5, hf⟩ := bind_some hf
    try dsimp only at hf
    refine G.callV C (st := []) (st2 := [.int (v5)]) (ct_X5_greatestLength hv5) (ko_X5_greatestLength hv5) rfl m9_350 m9_351 m9_352 m9_2 m9_353 kd_X5_greatestLength ⟨Nat.le_of_ble_eq_true rfl, Nat.le_of_ble_eq_true rfl⟩ ⟨Nat.zero_le _, Nat.zero_le _⟩ (Nat.le_of_ble_eq_true rfl) rfl rfl dX5_greatest_6 ?_
    cases hf
    refine G.retX rfl ?_
    exact G.iret C rfl dX5_greatest_9
theorem ko_X5_fullness {h : PH} {a0 : Nat} {r : UInt64} (hf : f_X5_fullness h a0 = some r) : kO h a0 4 := by
  unfold f_X5_fullness at hf
  exact okO_k (gd_ok hf).1
theorem kd_X5_fullness : yX5_fullness.cls = RX5 ∧ yX5_fullness.cls ≠ "java/lang/invoke/MethodHandle" ∧ yX5_fullness.cls ≠ "java/lang/invoke/VarHandle" ∧ (parseMethodDescriptor yX5_fullness.desc).map (fun d => d.parameters.length) = some 0 := by decide +kernel
set_option maxRecDepth 20000 in
set_option maxHeartbeats 4000000 in
theorem ct_X5_fullness {l : Launch} {h : PH} {a0 : Nat} {r : UInt64} (hf : f_X5_fullness h a0 = some r) : CT l yX5_fullness cX5_fullness 3 (some .double) 3 67 [.ref (a0)] h (some (.double r)) h := by
  refine CT.of (own := RX5) rfl (by decide) (Nat.le_of_ble_eq_true rfl) ?_
  intro p e R s m args below meth c g X hR C
  subst hR
  unfold f_X5_fullness at hf
  obtain ⟨hok, hf⟩ := gd_ok hf
  have hj31 : ∀ (k0 : UInt64), f_X5_fullness_J31 h k0 = some r → G p l e ({ frames := 3, cells := 0, slots := 0, locals := 67 } : Room) s m args below meth c 3 g X h 0 0 (MQ below (QW g X h s.heap.size (some (.double r)) h) args s 0 0 (AF X h s.heap.size)) 31 [] [.double (k0)] h := by
    intro k0 hf
    unfold f_X5_fullness_J31 at hf
    cases hf
    exact G.dret C rfl dX5_fullness_31
  refine G.sub C [0] (lv' := [(0, .ref (a0))]) rfl ?_
  refine G.aload_n C 0 dX5_fullness_0 rfl rfl ?_
  refine G.getR (ci := 4) (k := 0) C rfl inlX5 (by decide) m9_16 rfl hf dX5_fullness_1 (fun v1 hv1 hf => ?_)
  try dsimp only at hf
  obtain ⟨v2, hv2, hf⟩ := bind_some hf
  try dsimp only at hf
  refine G.callV C (st := []) (st2 := [.int (v2)]) (ct_X3_places hv2) (ko_X3_places hv2) rfl m9_792 m9_793 m9_794 m9_15 m9_795 kd_X3_places ⟨Nat.le_of_ble_eq_true rfl, Nat.le_of_ble_eq_true rfl⟩ ⟨Nat.zero_le _, Nat.zero_le _⟩ (Nat.le_of_ble_eq_true rfl) rfl rfl dX5_fullness_4 ?_
  refine G.istore_n (lv' := [(1, .int (v2)), (0, .ref (a0))]) C dX5_fullness_7 rfl (by decide) rfl ?_
  refine G.iload_n C 0 dX5_fullness_8 rfl rfl ?_
  refine G.aload_n C 1 dX5_fullness_9 rfl rfl ?_
  refine G.getR (ci := 4) (k := 0) C rfl inlX5 (by decide) m9_16 rfl hf dX5_fullness_10 (fun v3 hv3 hf => ?_)
  try dsimp only at hf
  obtain ⟨v4, hv4, hf⟩ := bind_some hf
  try dsimp only at hf
  refine G.callV C (st := [.int (v2)]) (st2 := [.int (v4), .int (v2)]) (ct_X3_holes hv4) (ko_X3_holes hv4) rfl m9_797 m9_798 m9_799 m9_15 m9_800 kd_X3_holes ⟨Nat.le_of_ble_eq_true rfl, Nat.le_of_ble_eq_true rfl⟩ ⟨Nat.zero_le _, Nat.zero_le _⟩ (Nat.le_of_ble_eq_true rfl) rfl rfl dX5_fullness_13 ?_
  refine G.isub C dX5_fullness_16 ?_
  refine G.istore_n (lv' := [(2, .int ((v2 - v4))), (1, .int (v2)), (0, .ref (a0))]) C dX5_fullness_17 rfl (by decide) rfl ?_
  refine G.iload_n C 1 dX5_fullness_18 rfl rfl ?_
  refine G.if_le (tgt := 30) C dX5_fullness_19 (by decide) hf (fun c6 hf => ?_) (fun c6 hf => ?_)
  · refine G.dconst1 C dX5_fullness_30 ?_
    refine G.sub C [] (lv' := []) rfl ?_
    exact hj31 _ hf
  · refine G.iload_n C 0 dX5_fullness_22 rfl rfl ?_
    refine G.i2d C dX5_fullness_23 ?_
    refine G.iload_n C 1 dX5_fullness_24 rfl rfl ?_
    refine G.i2d C dX5_fullness_25 ?_
    obtain ⟨c5, hf⟩ := gd_ok hf
    refine G.ddiv C dX5_fullness_26 (nn64_ok c5) ?_
    refine G.goto (tgt := 31) C dX5_fullness_27 (by decide) ?_
    refine G.sub C [] (lv' := []) rfl ?_
    exact hj31 _ hf
theorem kd_X5_mixed : yX5_mixed.cls ≠ "java/lang/invoke/MethodHandle" ∧ yX5_mixed.cls ≠ "java/lang/invoke/VarHandle" ∧ (parseMethodDescriptor yX5_mixed.desc).map (fun d => d.parameters.length) = some 2 := by decide +kernel
set_option maxRecDepth 20000 in
set_option maxHeartbeats 4000000 in
theorem ct_X5_mixed {l : Launch} {h : PH} {a0 : Int64} {a2 : Int64} {r : Int64} (hf : f_X5_mixed h a0 a2 = some r) : CT l yX5_mixed cX5_mixed 4 (some .long) 0 0 [.long (a0), .long (a2)] h (some (.long r)) h := by
  refine CT.of (own := RX5) rfl (by decide) (Nat.le_of_ble_eq_true rfl) ?_
  intro p e R s m args below meth c g X hR C
  subst hR
  unfold f_X5_mixed at hf
  refine G.sub C [0, 1] (lv' := [(0, .long (a0)), (2, .long (a2))]) rfl ?_
  refine G.ldc2 (v := 31) C m9_986 dX5_mixed_0 ?_
  refine G.lload_n C 0 dX5_mixed_3 rfl rfl ?_
  refine G.lmul C dX5_mixed_4 ?_
  refine G.lload_n C 1 dX5_mixed_5 rfl rfl ?_
  refine G.ladd C dX5_mixed_6 ?_
  cases hf
  exact G.lret C rfl dX5_mixed_7
theorem ko_X5_hueMixed {h : PH} {a0 : Nat} {a1 : Int64} {a3 : Nat} {a4 : Int32} {r : Int64} (hf : f_X5_hueMixed h a0 a1 a3 a4 = some r) : kO h a0 4 := by
  unfold f_X5_hueMixed at hf
  exact okO_k (gd_ok hf).1
theorem kd_X5_hueMixed : yX5_hueMixed.cls = RX5 ∧ yX5_hueMixed.cls ≠ "java/lang/invoke/MethodHandle" ∧ yX5_hueMixed.cls ≠ "java/lang/invoke/VarHandle" ∧ (parseMethodDescriptor yX5_hueMixed.desc).map (fun d => d.parameters.length) = some 3 := by decide +kernel
set_option maxRecDepth 20000 in
set_option maxHeartbeats 4000000 in
theorem ct_X5_hueMixed {l : Launch} {h : PH} {a0 : Nat} {a1 : Int64} {a3 : Nat} {a4 : Int32} {r : Int64} (hf : f_X5_hueMixed h a0 a1 a3 a4 = some r) : CT l yX5_hueMixed cX5_hueMixed 8 (some .long) 4 96 [.ref (a0), .long (a1), .ref (a3), .int (a4)] h (some (.long r)) h := by
  refine CT.of (own := RX5) rfl (by decide) (Nat.le_of_ble_eq_true rfl) ?_
  intro p e R s m args below meth c g X hR C
  subst hR
  unfold f_X5_hueMixed at hf
  obtain ⟨hok, hf⟩ := gd_ok hf
  have hj74 : ∀ (x5 : Int64), f_X5_hueMixed_J74 h (x5) = some r → G p l e ({ frames := 4, cells := 0, slots := 0, locals := 96 } : Room) s m args below meth c 8 g X h 0 0 (MQ below (QW g X h s.heap.size (some (.long r)) h) args s 0 0 (AF X h s.heap.size)) 74 [(5, .long (x5))] [] h := by
    intro x5 hf
    unfold f_X5_hueMixed_J74 at hf
    refine G.lload C 0 dX5_hueMixed_74 rfl ?_
    cases hf
    exact G.lret C rfl dX5_hueMixed_76
  have hj34 : ∀ (x0 : Nat) (x3 : Nat) (x4 : Int32) (x5 : Int64), f_X5_hueMixed_J34 h (x0) (x3) (x4) (x5) = some r → G p l e ({ frames := 4, cells := 0, slots := 0, locals := 96 } : Room) s m args below meth c 8 g X h 0 0 (MQ below (QW g X h s.heap.size (some (.long r)) h) args s 0 0 (AF X h s.heap.size)) 34 [(0, .ref (x0)), (3, .ref (x3)), (4, .int (x4)), (5, .long (x5))] [] h := by
    intro x0 x3 x4 x5 hf
    unfold f_X5_hueMixed_J34 at hf
    refine G.iconst (v := 0) C dX5_hueMixed_34 (by decide) ?_
    refine G.istore (lv' := [(7, .int ((0 : Int32))), (0, .ref (x0)), (3, .ref (x3)), (4, .int (x4)), (5, .long (x5))]) C dX5_hueMixed_35 (by decide) rfl ?_
    obtain ⟨z9, hlp9, hfo9⟩ := bind_some hf
    clear hf
    have hloop9 : ∀ (k : Nat), ∀ (x5 : Int64) (x7 : Int32), (lpn (f_X5_hueMixed_L37 (h) (x0) (x3) (x4)) k (x5, x7)) = some z9 → G p l e ({ frames := 4, cells := 0, slots := 0, locals := 96 } : Room) s m args below meth c 8 g X h 0 0 (MQ below (QW g X h s.heap.size (some (.long r)) h) args s 0 0 (AF X h s.heap.size)) 37 [(0, .ref (x0)), (3, .ref (x3)), (4, .int (x4)), (5, .long (x5)), (7, .int (x7))] [] h := by
      intro k
      induction k with
      | zero => intro x5 x7 hlp9; exact (lpn_0 hlp9).elim
      | succ k ih9 =>
        intro x5 x7 hlp9
        obtain ⟨y9, hf, hlp9⟩ := lpn_s hlp9
        unfold f_X5_hueMixed_L37 at hf
        try dsimp only at hf
        refine G.iload C 4 dX5_hueMixed_37 rfl ?_
        refine G.iconst (v := 3) C dX5_hueMixed_39 (by decide) ?_
        refine G.icmp_ge (tgt := 74) C dX5_hueMixed_40 (by decide) hf (fun c14 hf => ?_) (fun c14 hf => ?_)
        · cases hf
          change some _ = some _ at hlp9
          have hf := hfo9
          try rw [← Option.some.inj hlp9] at hf
          try dsimp only at hf
          refine G.sub C [3] (lv' := [(5, .long (x5))]) rfl ?_
          exact hj74 _ hf
        · refine G.lload C 3 dX5_hueMixed_43 rfl ?_
          refine G.aload_n C 1 dX5_hueMixed_45 rfl rfl ?_
          refine G.iload C 2 dX5_hueMixed_46 rfl ?_
          refine G.aload_n C 0 dX5_hueMixed_48 rfl rfl ?_
          refine G.getR (ci := 4) (k := 0) C rfl inlX5 (by decide) m9_16 rfl hf dX5_hueMixed_49 (fun v10 hv10 hf => ?_)
          try dsimp only at hf
          refine G.iload C 2 dX5_hueMixed_52 rfl ?_
          obtain ⟨v11, hv11, hf⟩ := bind_some hf
          try dsimp only at hf
          refine G.callV C (st := [.int (x4), .ref (x3), .long (x5)]) (st2 := [.int (v11), .int (x4), .ref (x3), .long (x5)]) (ct_X3_gapAt hv11) (ko_X3_gapAt hv11) rfl m9_129 m9_130 m9_131 m9_15 m9_132 kd_X3_gapAt ⟨Nat.le_of_ble_eq_true rfl, Nat.le_of_ble_eq_true rfl⟩ ⟨Nat.zero_le _, Nat.zero_le _⟩ (Nat.le_of_ble_eq_true rfl) rfl rfl dX5_hueMixed_54 ?_
          refine G.iload C 4 dX5_hueMixed_57 rfl ?_
          obtain ⟨v12, hv12, hf⟩ := bind_some hf
          try dsimp only at hf
          refine G.callV C (st := [.long (x5)]) (st2 := [.int (v12), .long (x5)]) (ct_X2_phaseNumber hv12) (ko_X2_phaseNumber hv12) rfl m9_890 m9_891 m9_892 m9_28 m9_893 kd_X2_phaseNumber ⟨Nat.le_of_ble_eq_true rfl, Nat.le_of_ble_eq_true rfl⟩ ⟨Nat.zero_le _, Nat.zero_le _⟩ (Nat.le_of_ble_eq_true rfl) rfl rfl dX5_hueMixed_59 ?_
          refine G.i2l C dX5_hueMixed_62 ?_
          obtain ⟨v13, hv13, hf⟩ := bind_some hf
          try dsimp only at hf
          refine G.callS C (st := []) (st2 := [.long (v13)]) (ct_X5_mixed hv13) m9_983 m9_984 m9_2 m9_985 kd_X5_mixed ⟨Nat.le_of_ble_eq_true rfl, Nat.le_of_ble_eq_true rfl⟩ ⟨Nat.zero_le _, Nat.zero_le _⟩ (Nat.le_of_ble_eq_true rfl) rfl rfl dX5_hueMixed_63 ?_
          refine G.lstore (lv' := [(5, .long (v13)), (0, .ref (x0)), (3, .ref (x3)), (4, .int (x4)), (7, .int (x7))]) C dX5_hueMixed_66 (by decide) rfl ?_
          refine G.iinc (k := 4) (v := (x7 + 1)) (lv' := [(7, .int ((x7 + 1))), (5, .long (v13)), (0, .ref (x0)), (3, .ref (x3)), (4, .int (x4))]) C dX5_hueMixed_68 rfl rfl (by decide) rfl ?_
          refine G.goto (tgt := 37) C dX5_hueMixed_71 (by decide) ?_
          cases hf
          refine G.sub C [2, 3, 4, 1, 0] (lv' := [(0, .ref (x0)), (3, .ref (x3)), (4, .int (x4)), (5, .long (v13)), (7, .int ((x7 + 1)))]) rfl ?_
          exact ih9 _ _ hlp9
    refine G.sub C [1, 2, 3, 4, 0] (lv' := [(0, .ref (x0)), (3, .ref (x3)), (4, .int (x4)), (5, .long (x5)), (7, .int ((0 : Int32)))]) rfl ?_
    exact hloop9 LF _ _ hlp9
  refine G.sub C [0, 1, 2, 3] (lv' := [(0, .ref (a0)), (1, .long (a1)), (3, .ref (a3)), (4, .int (a4))]) rfl ?_
  refine G.lload_n C 1 dX5_hueMixed_0 rfl rfl ?_
  refine G.lstore (lv' := [(5, .long (a1)), (0, .ref (a0)), (1, .long (a1)), (3, .ref (a3)), (4, .int (a4))]) C dX5_hueMixed_1 (by decide) rfl ?_
  refine G.iconst (v := 0) C dX5_hueMixed_3 (by decide) ?_
  refine G.istore (lv' := [(7, .int ((0 : Int32))), (5, .long (a1)), (0, .ref (a0)), (1, .long (a1)), (3, .ref (a3)), (4, .int (a4))]) C dX5_hueMixed_4 (by decide) rfl ?_
  obtain ⟨z1, hlp1, hfo1⟩ := bind_some hf
  clear hf
  have hloop1 : ∀ (k : Nat), ∀ (x5 : Int64) (x7 : Int32), (lpn (f_X5_hueMixed_L6 (h) (a0) (a3) (a4)) k (x5, x7)) = some z1 → G p l e ({ frames := 4, cells := 0, slots := 0, locals := 96 } : Room) s m args below meth c 8 g X h 0 0 (MQ below (QW g X h s.heap.size (some (.long r)) h) args s 0 0 (AF X h s.heap.size)) 6 [(0, .ref (a0)), (3, .ref (a3)), (4, .int (a4)), (5, .long (x5)), (7, .int (x7))] [] h := by
    intro k
    induction k with
    | zero => intro x5 x7 hlp1; exact (lpn_0 hlp1).elim
    | succ k ih1 =>
      intro x5 x7 hlp1
      obtain ⟨y1, hf, hlp1⟩ := lpn_s hlp1
      unfold f_X5_hueMixed_L6 at hf
      try dsimp only at hf
      refine G.iload C 4 dX5_hueMixed_6 rfl ?_
      refine G.iconst (v := 4) C dX5_hueMixed_8 (by decide) ?_
      refine G.icmp_ge (tgt := 34) C dX5_hueMixed_9 (by decide) hf (fun c4 hf => ?_) (fun c4 hf => ?_)
      · cases hf
        change some _ = some _ at hlp1
        have hf := hfo1
        try rw [← Option.some.inj hlp1] at hf
        try dsimp only at hf
        refine G.sub C [0, 1, 2, 3] (lv' := [(0, .ref (a0)), (3, .ref (a3)), (4, .int (a4)), (5, .long (x5))]) rfl ?_
        exact hj34 _ _ _ _ hf
      · refine G.lload C 3 dX5_hueMixed_12 rfl ?_
        refine G.aload_n C 1 dX5_hueMixed_14 rfl rfl ?_
        refine G.iload C 2 dX5_hueMixed_15 rfl ?_
        refine G.iload C 4 dX5_hueMixed_17 rfl ?_
        obtain ⟨v2, hv2, hf⟩ := bind_some hf
        try dsimp only at hf
        refine G.callV C (st := [.long (x5)]) (st2 := [.int (v2), .long (x5)]) (ct_X2_hueNumber hv2) (ko_X2_hueNumber hv2) rfl m9_752 m9_753 m9_754 m9_28 m9_755 kd_X2_hueNumber ⟨Nat.le_of_ble_eq_true rfl, Nat.le_of_ble_eq_true rfl⟩ ⟨Nat.zero_le _, Nat.zero_le _⟩ (Nat.le_of_ble_eq_true rfl) rfl rfl dX5_hueMixed_19 ?_
        refine G.i2l C dX5_hueMixed_22 ?_
        obtain ⟨v3, hv3, hf⟩ := bind_some hf
        try dsimp only at hf
        refine G.callS C (st := []) (st2 := [.long (v3)]) (ct_X5_mixed hv3) m9_983 m9_984 m9_2 m9_985 kd_X5_mixed ⟨Nat.le_of_ble_eq_true rfl, Nat.le_of_ble_eq_true rfl⟩ ⟨Nat.zero_le _, Nat.zero_le _⟩ (Nat.le_of_ble_eq_true rfl) rfl rfl dX5_hueMixed_23 ?_
        refine G.lstore (lv' := [(5, .long (v3)), (0, .ref (a0)), (3, .ref (a3)), (4, .int (a4)), (7, .int (x7))]) C dX5_hueMixed_26 (by decide) rfl ?_
        refine G.iinc (k := 4) (v := (x7 + 1)) (lv' := [(7, .int ((x7 + 1))), (5, .long (v3)), (0, .ref (a0)), (3, .ref (a3)), (4, .int (a4))]) C dX5_hueMixed_28 rfl rfl (by decide) rfl ?_
        refine G.goto (tgt := 6) C dX5_hueMixed_31 (by decide) ?_
        cases hf
        refine G.sub C [2, 3, 4, 1, 0] (lv' := [(0, .ref (a0)), (3, .ref (a3)), (4, .int (a4)), (5, .long (v3)), (7, .int ((x7 + 1)))]) rfl ?_
        exact ih1 _ _ hlp1
  refine G.sub C [2, 4, 5, 1, 0] (lv' := [(0, .ref (a0)), (3, .ref (a3)), (4, .int (a4)), (5, .long (a1)), (7, .int ((0 : Int32)))]) rfl ?_
  exact hloop1 LF _ _ hlp1
theorem ko_X5_ropeMixed {h : PH} {a0 : Nat} {a1 : Int64} {a3 : Int32} {r : (Int64 × PH)} (hf : f_X5_ropeMixed h a0 a1 a3 = some r) : kO h a0 4 := by
  unfold f_X5_ropeMixed at hf
  exact okO_k (gd_ok hf).1
theorem kd_X5_ropeMixed : yX5_ropeMixed.cls = RX5 ∧ yX5_ropeMixed.cls ≠ "java/lang/invoke/MethodHandle" ∧ yX5_ropeMixed.cls ≠ "java/lang/invoke/VarHandle" ∧ (parseMethodDescriptor yX5_ropeMixed.desc).map (fun d => d.parameters.length) = some 2 := by decide +kernel
set_option maxRecDepth 20000 in
set_option maxHeartbeats 4000000 in
theorem ct_X5_ropeMixed {l : Launch} {h : PH} {a0 : Nat} {a1 : Int64} {a3 : Int32} {r : (Int64 × PH)} (hf : f_X5_ropeMixed h a0 a1 a3 = some r) : CT l yX5_ropeMixed cX5_ropeMixed 9 (some .long) 5 123 [.ref (a0), .long (a1), .int (a3)] h (some (.long r.1)) r.2 := by
  refine CT.of (own := RX5) rfl (by decide) (Nat.le_of_ble_eq_true rfl) ?_
  intro p e R s m args below meth c g X hR C
  subst hR
  unfold f_X5_ropeMixed at hf
  obtain ⟨hok, hf⟩ := gd_ok hf
  have hj30 : ∀ (x1 : Int64), f_X5_ropeMixed_J30 h (x1) = some r → G p l e ({ frames := 5, cells := 0, slots := 0, locals := 123 } : Room) s m args below meth c 9 g X h 0 0 (MQ below (QW g X h s.heap.size (some (.long r.1)) r.2) args s 0 0 (AF X h s.heap.size)) 30 [(1, .long (x1))] [] h := by
    intro x1 hf
    unfold f_X5_ropeMixed_J30 at hf
    refine G.lload_n C 0 dX5_ropeMixed_30 rfl rfl ?_
    cases hf
    exact G.lret C rfl dX5_ropeMixed_31
  have hj176 : ∀ (hh : PH) (k0 : Int64) (k1 : Int64), f_X5_ropeMixed_J176 hh k0 k1 = some r → G p l e ({ frames := 5, cells := 0, slots := 0, locals := 123 } : Room) s m args below meth c 9 g X h 0 0 (MQ below (QW g X h s.heap.size (some (.long r.1)) r.2) args s 0 0 (AF X h s.heap.size)) 176 [] [.long (k1), .long (k0)] hh := by
    intro hh k0 k1 hf
    unfold f_X5_ropeMixed_J176 at hf
    obtain ⟨v24, hv24, hf⟩ := bind_some hf
    try dsimp only at hf
    refine G.callS C (st := []) (st2 := [.long (v24)]) (ct_X5_mixed hv24) m9_983 m9_984 m9_2 m9_985 kd_X5_mixed ⟨Nat.le_of_ble_eq_true rfl, Nat.le_of_ble_eq_true rfl⟩ ⟨Nat.zero_le _, Nat.zero_le _⟩ (Nat.le_of_ble_eq_true rfl) rfl rfl dX5_ropeMixed_176 ?_
    cases hf
    exact G.lret C rfl dX5_ropeMixed_179
  have hj129 : ∀ (x0 : Nat) (x3 : Int32) (x4 : Nat) (x5 : Nat) (x6 : Int64), f_X5_ropeMixed_J129 h (x0) (x3) (x4) (x5) (x6) = some r → G p l e ({ frames := 5, cells := 0, slots := 0, locals := 123 } : Room) s m args below meth c 9 g X h 0 0 (MQ below (QW g X h s.heap.size (some (.long r.1)) r.2) args s 0 0 (AF X h s.heap.size)) 129 [(0, .ref (x0)), (3, .int (x3)), (4, .ref (x4)), (5, .ref (x5)), (6, .long (x6))] [] h := by
    intro x0 x3 x4 x5 x6 hf
    unfold f_X5_ropeMixed_J129 at hf
    refine G.lload C 4 dX5_ropeMixed_129 rfl ?_
    refine G.aload_n C 0 dX5_ropeMixed_131 rfl rfl ?_
    refine G.aload C 2 dX5_ropeMixed_132 rfl ?_
    obtain ⟨v25, hv25, hf⟩ := bind_some hf
    try dsimp only at hf
    refine G.callV C (st := [.long (x6)]) (st2 := [.int (v25), .long (x6)]) (ct_X5_fillingHue hv25) (ko_X5_fillingHue hv25) rfl m9_930 m9_931 m9_932 m9_2 m9_933 kd_X5_fillingHue ⟨Nat.le_of_ble_eq_true rfl, Nat.le_of_ble_eq_true rfl⟩ ⟨Nat.zero_le _, Nat.zero_le _⟩ (Nat.le_of_ble_eq_true rfl) rfl rfl dX5_ropeMixed_134 ?_
    refine G.i2l C dX5_ropeMixed_137 ?_
    obtain ⟨v26, hv26, hf⟩ := bind_some hf
    try dsimp only at hf
    refine G.callS C (st := []) (st2 := [.long (v26)]) (ct_X5_mixed hv26) m9_983 m9_984 m9_2 m9_985 kd_X5_mixed ⟨Nat.le_of_ble_eq_true rfl, Nat.le_of_ble_eq_true rfl⟩ ⟨Nat.zero_le _, Nat.zero_le _⟩ (Nat.le_of_ble_eq_true rfl) rfl rfl dX5_ropeMixed_138 ?_
    refine G.lstore (lv' := [(6, .long (v26)), (0, .ref (x0)), (3, .int (x3)), (4, .ref (x4)), (5, .ref (x5))]) C dX5_ropeMixed_141 (by decide) rfl ?_
    refine G.lload C 0 dX5_ropeMixed_143 rfl ?_
    refine G.aload_n C 1 dX5_ropeMixed_145 rfl rfl ?_
    refine G.aload C 3 dX5_ropeMixed_146 rfl ?_
    obtain ⟨v27, hv27, hf⟩ := bind_some hf
    try dsimp only at hf
    refine G.callV C (st := [.long (v26)]) (st2 := [.int (v27), .long (v26)]) (ct_X5_greatestLength hv27) (ko_X5_greatestLength hv27) rfl m9_350 m9_351 m9_352 m9_2 m9_353 kd_X5_greatestLength ⟨Nat.le_of_ble_eq_true rfl, Nat.le_of_ble_eq_true rfl⟩ ⟨Nat.zero_le _, Nat.zero_le _⟩ (Nat.le_of_ble_eq_true rfl) rfl rfl dX5_ropeMixed_148 ?_
    refine G.i2l C dX5_ropeMixed_151 ?_
    obtain ⟨v28, hv28, hf⟩ := bind_some hf
    try dsimp only at hf
    refine G.callS C (st := []) (st2 := [.long (v28)]) (ct_X5_mixed hv28) m9_983 m9_984 m9_2 m9_985 kd_X5_mixed ⟨Nat.le_of_ble_eq_true rfl, Nat.le_of_ble_eq_true rfl⟩ ⟨Nat.zero_le _, Nat.zero_le _⟩ (Nat.le_of_ble_eq_true rfl) rfl rfl dX5_ropeMixed_152 ?_
    refine G.lstore (lv' := [(6, .long (v28)), (0, .ref (x0)), (3, .int (x3)), (4, .ref (x4)), (5, .ref (x5))]) C dX5_ropeMixed_155 (by decide) rfl ?_
    refine G.lload C 0 dX5_ropeMixed_157 rfl ?_
    refine G.iload_n C 2 dX5_ropeMixed_159 rfl rfl ?_
    refine G.if_ne (tgt := 167) C dX5_ropeMixed_160 (by decide) hf (fun c32 hf => ?_) (fun c32 hf => ?_)
    · refine G.aload_n C 1 dX5_ropeMixed_167 rfl rfl ?_
      refine G.aload C 3 dX5_ropeMixed_168 rfl ?_
      refine G.aload C 4 dX5_ropeMixed_170 rfl ?_
      obtain ⟨⟨v29, h30⟩, hv29, hf⟩ := bind_some hf
      try dsimp only at hf
      refine G.callV C (st := [.long (v28)]) (st2 := [.int (v29), .long (v28)]) (ct_X5_reasonAgainstJoining hv29) (ko_X5_reasonAgainstJoining hv29) rfl m9_462 m9_463 m9_464 m9_2 m9_465 kd_X5_reasonAgainstJoining ⟨Nat.le_of_ble_eq_true rfl, Nat.le_of_ble_eq_true rfl⟩ ⟨Nat.zero_le _, Nat.zero_le _⟩ (Nat.le_of_ble_eq_true rfl) rfl rfl dX5_ropeMixed_172 ?_
      refine G.i2l C dX5_ropeMixed_175 ?_
      refine G.sub C [] (lv' := []) rfl ?_
      exact hj176 _ _ _ hf
    · refine G.lconst (v := 1) C dX5_ropeMixed_163 (by decide) ?_
      refine G.goto (tgt := 176) C dX5_ropeMixed_164 (by decide) ?_
      refine G.sub C [] (lv' := []) rfl ?_
      exact hj176 _ _ _ hf
  have hj101 : ∀ (x0 : Nat) (x3 : Int32) (x4 : Nat) (x5 : Nat) (x6 : Int64), f_X5_ropeMixed_J101 h (x0) (x3) (x4) (x5) (x6) = some r → G p l e ({ frames := 5, cells := 0, slots := 0, locals := 123 } : Room) s m args below meth c 9 g X h 0 0 (MQ below (QW g X h s.heap.size (some (.long r.1)) r.2) args s 0 0 (AF X h s.heap.size)) 101 [(0, .ref (x0)), (3, .int (x3)), (4, .ref (x4)), (5, .ref (x5)), (6, .long (x6))] [] h := by
    intro x0 x3 x4 x5 x6 hf
    unfold f_X5_ropeMixed_J101 at hf
    refine G.iconst (v := 0) C dX5_ropeMixed_101 (by decide) ?_
    refine G.istore (lv' := [(8, .int ((0 : Int32))), (0, .ref (x0)), (3, .int (x3)), (4, .ref (x4)), (5, .ref (x5)), (6, .long (x6))]) C dX5_ropeMixed_102 (by decide) rfl ?_
    obtain ⟨z33, hlp33, hfo33⟩ := bind_some hf
    clear hf
    have hloop33 : ∀ (k : Nat), ∀ (x6 : Int64) (x8 : Int32), (lpn (f_X5_ropeMixed_L104 (h) (x0) (x3) (x4) (x5)) k (x6, x8)) = some z33 → G p l e ({ frames := 5, cells := 0, slots := 0, locals := 123 } : Room) s m args below meth c 9 g X h 0 0 (MQ below (QW g X h s.heap.size (some (.long r.1)) r.2) args s 0 0 (AF X h s.heap.size)) 104 [(0, .ref (x0)), (3, .int (x3)), (4, .ref (x4)), (5, .ref (x5)), (6, .long (x6)), (8, .int (x8))] [] h := by
      intro k
      induction k with
      | zero => intro x6 x8 hlp33; exact (lpn_0 hlp33).elim
      | succ k ih33 =>
        intro x6 x8 hlp33
        obtain ⟨y33, hf, hlp33⟩ := lpn_s hlp33
        unfold f_X5_ropeMixed_L104 at hf
        try dsimp only at hf
        refine G.iload C 5 dX5_ropeMixed_104 rfl ?_
        refine G.bipush (v := 8) C dX5_ropeMixed_106 (by decide) ?_
        refine G.icmp_ge (tgt := 129) C dX5_ropeMixed_108 (by decide) hf (fun c35 hf => ?_) (fun c35 hf => ?_)
        · cases hf
          change some _ = some _ at hlp33
          have hf := hfo33
          try rw [← Option.some.inj hlp33] at hf
          try dsimp only at hf
          refine G.sub C [0, 1, 2, 3, 4] (lv' := [(0, .ref (x0)), (3, .int (x3)), (4, .ref (x4)), (5, .ref (x5)), (6, .long (x6))]) rfl ?_
          exact hj129 _ _ _ _ _ hf
        · refine G.aload_n C 0 dX5_ropeMixed_111 rfl rfl ?_
          refine G.lload C 4 dX5_ropeMixed_112 rfl ?_
          refine G.aload C 2 dX5_ropeMixed_114 rfl ?_
          refine G.iload C 5 dX5_ropeMixed_116 rfl ?_
          obtain ⟨v34, hv34, hf⟩ := bind_some hf
          try dsimp only at hf
          refine G.callV C (st := []) (st2 := [.long (v34)]) (ct_X5_hueMixed hv34) (ko_X5_hueMixed hv34) rfl m9_991 m9_992 m9_993 m9_2 m9_994 kd_X5_hueMixed ⟨Nat.le_of_ble_eq_true rfl, Nat.le_of_ble_eq_true rfl⟩ ⟨Nat.zero_le _, Nat.zero_le _⟩ (Nat.le_of_ble_eq_true rfl) rfl rfl dX5_ropeMixed_118 ?_
          refine G.lstore (lv' := [(6, .long (v34)), (0, .ref (x0)), (3, .int (x3)), (4, .ref (x4)), (5, .ref (x5)), (8, .int (x8))]) C dX5_ropeMixed_121 (by decide) rfl ?_
          refine G.iinc (k := 5) (v := (x8 + 1)) (lv' := [(8, .int ((x8 + 1))), (6, .long (v34)), (0, .ref (x0)), (3, .int (x3)), (4, .ref (x4)), (5, .ref (x5))]) C dX5_ropeMixed_123 rfl rfl (by decide) rfl ?_
          refine G.goto (tgt := 104) C dX5_ropeMixed_126 (by decide) ?_
          cases hf
          refine G.sub C [2, 3, 4, 5, 1, 0] (lv' := [(0, .ref (x0)), (3, .int (x3)), (4, .ref (x4)), (5, .ref (x5)), (6, .long (v34)), (8, .int ((x8 + 1)))]) rfl ?_
          exact ih33 _ _ hlp33
    refine G.sub C [1, 2, 3, 4, 5, 0] (lv' := [(0, .ref (x0)), (3, .int (x3)), (4, .ref (x4)), (5, .ref (x5)), (6, .long (x6)), (8, .int ((0 : Int32)))]) rfl ?_
    exact hloop33 LF _ _ hlp33
  have hj67 : ∀ (x0 : Nat) (x3 : Int32) (x4 : Nat) (x5 : Nat) (x6 : Int64), f_X5_ropeMixed_J67 h (x0) (x3) (x4) (x5) (x6) = some r → G p l e ({ frames := 5, cells := 0, slots := 0, locals := 123 } : Room) s m args below meth c 9 g X h 0 0 (MQ below (QW g X h s.heap.size (some (.long r.1)) r.2) args s 0 0 (AF X h s.heap.size)) 67 [(0, .ref (x0)), (3, .int (x3)), (4, .ref (x4)), (5, .ref (x5)), (6, .long (x6))] [] h := by
    intro x0 x3 x4 x5 x6 hf
    unfold f_X5_ropeMixed_J67 at hf
    refine G.iconst (v := 0) C dX5_ropeMixed_67 (by decide) ?_
    refine G.istore (lv' := [(8, .int ((0 : Int32))), (0, .ref (x0)), (3, .int (x3)), (4, .ref (x4)), (5, .ref (x5)), (6, .long (x6))]) C dX5_ropeMixed_68 (by decide) rfl ?_
    obtain ⟨z36, hlp36, hfo36⟩ := bind_some hf
    clear hf
    have hloop36 : ∀ (k : Nat), ∀ (x6 : Int64) (x8 : Int32), (lpn (f_X5_ropeMixed_L70 (h) (x0) (x3) (x4) (x5)) k (x6, x8)) = some z36 → G p l e ({ frames := 5, cells := 0, slots := 0, locals := 123 } : Room) s m args below meth c 9 g X h 0 0 (MQ below (QW g X h s.heap.size (some (.long r.1)) r.2) args s 0 0 (AF X h s.heap.size)) 70 [(0, .ref (x0)), (3, .int (x3)), (4, .ref (x4)), (5, .ref (x5)), (6, .long (x6)), (8, .int (x8))] [] h := by
      intro k
      induction k with
      | zero => intro x6 x8 hlp36; exact (lpn_0 hlp36).elim
      | succ k ih36 =>
        intro x6 x8 hlp36
        obtain ⟨y36, hf, hlp36⟩ := lpn_s hlp36
        unfold f_X5_ropeMixed_L70 at hf
        try dsimp only at hf
        refine G.iload C 5 dX5_ropeMixed_70 rfl ?_
        refine G.aload C 2 dX5_ropeMixed_72 rfl ?_
        obtain ⟨v37, hv37, hf⟩ := bind_some hf
        try dsimp only at hf
        refine G.callV C (st := [.int (x8)]) (st2 := [.int (v37), .int (x8)]) (ct_X2_length hv37) (ko_X2_length hv37) rfl m9_354 m9_355 m9_356 m9_28 m9_357 kd_X2_length ⟨Nat.le_of_ble_eq_true rfl, Nat.le_of_ble_eq_true rfl⟩ ⟨Nat.zero_le _, Nat.zero_le _⟩ (Nat.le_of_ble_eq_true rfl) rfl rfl dX5_ropeMixed_74 ?_
        refine G.icmp_ge (tgt := 101) C dX5_ropeMixed_77 (by decide) hf (fun c40 hf => ?_) (fun c40 hf => ?_)
        · cases hf
          change some _ = some _ at hlp36
          have hf := hfo36
          try rw [← Option.some.inj hlp36] at hf
          try dsimp only at hf
          refine G.sub C [0, 1, 2, 3, 4] (lv' := [(0, .ref (x0)), (3, .int (x3)), (4, .ref (x4)), (5, .ref (x5)), (6, .long (x6))]) rfl ?_
          exact hj101 _ _ _ _ _ hf
        · refine G.lload C 4 dX5_ropeMixed_80 rfl ?_
          refine G.aload C 2 dX5_ropeMixed_82 rfl ?_
          refine G.iload C 5 dX5_ropeMixed_84 rfl ?_
          obtain ⟨v38, hv38, hf⟩ := bind_some hf
          try dsimp only at hf
          refine G.callV C (st := [.long (x6)]) (st2 := [.int (v38), .long (x6)]) (ct_X2_colourAt hv38) (ko_X2_colourAt hv38) rfl m9_683 m9_267 m9_268 m9_28 m9_269 kd_X2_colourAt ⟨Nat.le_of_ble_eq_true rfl, Nat.le_of_ble_eq_true rfl⟩ ⟨Nat.zero_le _, Nat.zero_le _⟩ (Nat.le_of_ble_eq_true rfl) rfl rfl dX5_ropeMixed_86 ?_
          refine G.i2l C dX5_ropeMixed_89 ?_
          obtain ⟨v39, hv39, hf⟩ := bind_some hf
          try dsimp only at hf
          refine G.callS C (st := []) (st2 := [.long (v39)]) (ct_X5_mixed hv39) m9_983 m9_984 m9_2 m9_985 kd_X5_mixed ⟨Nat.le_of_ble_eq_true rfl, Nat.le_of_ble_eq_true rfl⟩ ⟨Nat.zero_le _, Nat.zero_le _⟩ (Nat.le_of_ble_eq_true rfl) rfl rfl dX5_ropeMixed_90 ?_
          refine G.lstore (lv' := [(6, .long (v39)), (0, .ref (x0)), (3, .int (x3)), (4, .ref (x4)), (5, .ref (x5)), (8, .int (x8))]) C dX5_ropeMixed_93 (by decide) rfl ?_
          refine G.iinc (k := 5) (v := (x8 + 1)) (lv' := [(8, .int ((x8 + 1))), (6, .long (v39)), (0, .ref (x0)), (3, .int (x3)), (4, .ref (x4)), (5, .ref (x5))]) C dX5_ropeMixed_95 rfl rfl (by decide) rfl ?_
          refine G.goto (tgt := 70) C dX5_ropeMixed_98 (by decide) ?_
          cases hf
          refine G.sub C [2, 3, 4, 5, 1, 0] (lv' := [(0, .ref (x0)), (3, .int (x3)), (4, .ref (x4)), (5, .ref (x5)), (6, .long (v39)), (8, .int ((x8 + 1)))]) rfl ?_
          exact ih36 _ _ hlp36
    refine G.sub C [1, 2, 3, 4, 5, 0] (lv' := [(0, .ref (x0)), (3, .int (x3)), (4, .ref (x4)), (5, .ref (x5)), (6, .long (x6)), (8, .int ((0 : Int32)))]) rfl ?_
    exact hloop36 LF _ _ hlp36
  refine G.sub C [0, 1, 2] (lv' := [(0, .ref (a0)), (1, .long (a1)), (3, .int (a3))]) rfl ?_
  refine G.aload_n C 0 dX5_ropeMixed_0 rfl rfl ?_
  refine G.getR (ci := 4) (k := 0) C rfl inlX5 (by decide) m9_16 rfl hf dX5_ropeMixed_1 (fun v1 hv1 hf => ?_)
  try dsimp only at hf
  refine G.iload_n C 2 dX5_ropeMixed_4 rfl rfl ?_
  obtain ⟨v2, hv2, hf⟩ := bind_some hf
  try dsimp only at hf
  refine G.callV C (st := []) (st2 := [va_rf (v2)]) (ct_X3_ropeAt hv2) (ko_X3_ropeAt hv2) rfl m9_233 m9_102 m9_103 m9_15 m9_104 kd_X3_ropeAt ⟨Nat.le_of_ble_eq_true rfl, Nat.le_of_ble_eq_true rfl⟩ ⟨Nat.zero_le _, Nat.zero_le _⟩ (Nat.le_of_ble_eq_true rfl) rfl rfl dX5_ropeMixed_5 ?_
  refine G.qstore (lv' := [(4, va_rf (v2)), (0, .ref (a0)), (1, .long (a1)), (3, .int (a3))]) C dX5_ropeMixed_8 (by decide) rfl ?_
  refine G.aload_n C 1 dX5_ropeMixed_10 rfl rfl ?_
  refine G.getR (ci := 4) (k := 0) C rfl inlX5 (by decide) m9_16 rfl hf dX5_ropeMixed_11 (fun v3 hv3 hf => ?_)
  try dsimp only at hf
  refine G.iconst (v := 0) C dX5_ropeMixed_14 (by decide) ?_
  obtain ⟨v4, hv4, hf⟩ := bind_some hf
  try dsimp only at hf
  refine G.callV C (st := []) (st2 := [va_rf (v4)]) (ct_X3_ropeAt hv4) (ko_X3_ropeAt hv4) rfl m9_233 m9_102 m9_103 m9_15 m9_104 kd_X3_ropeAt ⟨Nat.le_of_ble_eq_true rfl, Nat.le_of_ble_eq_true rfl⟩ ⟨Nat.zero_le _, Nat.zero_le _⟩ (Nat.le_of_ble_eq_true rfl) rfl rfl dX5_ropeMixed_15 ?_
  refine G.qstore (lv' := [(5, va_rf (v4)), (4, va_rf (v2)), (0, .ref (a0)), (1, .long (a1)), (3, .int (a3))]) C dX5_ropeMixed_18 (by decide) (by cases v2 <;> rfl) ?_
  refine G.qload C 1 dX5_ropeMixed_20 rfl ?_
  refine G.ifnull (tgt := 30) C dX5_ropeMixed_22 (by decide) (fun e12 => ?_) (fun a5 e12 => ?_)
  · subst e12
    try dsimp only at hf
    refine G.sub C [3] (lv' := [(1, .long (a1))]) rfl ?_
    exact hj30 _ hf
  · subst e12
    try dsimp only at hf
    refine G.qload C 0 dX5_ropeMixed_25 rfl ?_
    refine G.ifnonnull (tgt := 32) C dX5_ropeMixed_27 (by decide) (fun a6 e11 => ?_) (fun e11 => ?_)
    · subst e11
      try dsimp only at hf
      refine G.lload_n C 3 dX5_ropeMixed_32 rfl rfl ?_
      refine G.lstore (lv' := [(6, .long (a1)), (5, .ref (a6)), (4, .ref (a5)), (0, .ref (a0)), (1, .long (a1)), (3, .int (a3))]) C dX5_ropeMixed_33 (by decide) rfl ?_
      refine G.iconst (v := 0) C dX5_ropeMixed_35 (by decide) ?_
      refine G.istore (lv' := [(8, .int ((0 : Int32))), (6, .long (a1)), (5, .ref (a6)), (4, .ref (a5)), (0, .ref (a0)), (1, .long (a1)), (3, .int (a3))]) C dX5_ropeMixed_36 (by decide) rfl ?_
      obtain ⟨z7, hlp7, hfo7⟩ := bind_some hf
      clear hf
      have hloop7 : ∀ (k : Nat), ∀ (x6 : Int64) (x8 : Int32), (lpn (f_X5_ropeMixed_L38 (h) (a0) (a3) (a5) (a6)) k (x6, x8)) = some z7 → G p l e ({ frames := 5, cells := 0, slots := 0, locals := 123 } : Room) s m args below meth c 9 g X h 0 0 (MQ below (QW g X h s.heap.size (some (.long r.1)) r.2) args s 0 0 (AF X h s.heap.size)) 38 [(0, .ref (a0)), (3, .int (a3)), (4, .ref (a5)), (5, .ref (a6)), (6, .long (x6)), (8, .int (x8))] [] h := by
        intro k
        induction k with
        | zero => intro x6 x8 hlp7; exact (lpn_0 hlp7).elim
        | succ k ih7 =>
          intro x6 x8 hlp7
          obtain ⟨y7, hf, hlp7⟩ := lpn_s hlp7
          unfold f_X5_ropeMixed_L38 at hf
          try dsimp only at hf
          refine G.iload C 5 dX5_ropeMixed_38 rfl ?_
          refine G.bipush (v := 6) C dX5_ropeMixed_40 (by decide) ?_
          refine G.icmp_ge (tgt := 67) C dX5_ropeMixed_42 (by decide) hf (fun c10 hf => ?_) (fun c10 hf => ?_)
          · cases hf
            change some _ = some _ at hlp7
            have hf := hfo7
            try rw [← Option.some.inj hlp7] at hf
            try dsimp only at hf
            refine G.sub C [0, 1, 2, 3, 4] (lv' := [(0, .ref (a0)), (3, .int (a3)), (4, .ref (a5)), (5, .ref (a6)), (6, .long (x6))]) rfl ?_
            exact hj67 _ _ _ _ _ hf
          · refine G.lload C 4 dX5_ropeMixed_45 rfl ?_
            refine G.aload_n C 0 dX5_ropeMixed_47 rfl rfl ?_
            refine G.aload C 2 dX5_ropeMixed_48 rfl ?_
            refine G.iload C 5 dX5_ropeMixed_50 rfl ?_
            obtain ⟨v8, hv8, hf⟩ := bind_some hf
            try dsimp only at hf
            refine G.callV C (st := [.long (x6)]) (st2 := [.int (v8), .long (x6)]) (ct_X5_ropeNumber hv8) (ko_X5_ropeNumber hv8) rfl m9_699 m9_700 m9_701 m9_2 m9_702 kd_X5_ropeNumber ⟨Nat.le_of_ble_eq_true rfl, Nat.le_of_ble_eq_true rfl⟩ ⟨Nat.zero_le _, Nat.zero_le _⟩ (Nat.le_of_ble_eq_true rfl) rfl rfl dX5_ropeMixed_52 ?_
            refine G.i2l C dX5_ropeMixed_55 ?_
            obtain ⟨v9, hv9, hf⟩ := bind_some hf
            try dsimp only at hf
            refine G.callS C (st := []) (st2 := [.long (v9)]) (ct_X5_mixed hv9) m9_983 m9_984 m9_2 m9_985 kd_X5_mixed ⟨Nat.le_of_ble_eq_true rfl, Nat.le_of_ble_eq_true rfl⟩ ⟨Nat.zero_le _, Nat.zero_le _⟩ (Nat.le_of_ble_eq_true rfl) rfl rfl dX5_ropeMixed_56 ?_
            refine G.lstore (lv' := [(6, .long (v9)), (0, .ref (a0)), (3, .int (a3)), (4, .ref (a5)), (5, .ref (a6)), (8, .int (x8))]) C dX5_ropeMixed_59 (by decide) rfl ?_
            refine G.iinc (k := 5) (v := (x8 + 1)) (lv' := [(8, .int ((x8 + 1))), (6, .long (v9)), (0, .ref (a0)), (3, .int (a3)), (4, .ref (a5)), (5, .ref (a6))]) C dX5_ropeMixed_61 rfl rfl (by decide) rfl ?_
            refine G.goto (tgt := 38) C dX5_ropeMixed_64 (by decide) ?_
            cases hf
            refine G.sub C [2, 3, 4, 5, 1, 0] (lv' := [(0, .ref (a0)), (3, .int (a3)), (4, .ref (a5)), (5, .ref (a6)), (6, .long (v9)), (8, .int ((x8 + 1)))]) rfl ?_
            exact ih7 _ _ hlp7
      refine G.sub C [4, 6, 3, 2, 1, 0] (lv' := [(0, .ref (a0)), (3, .int (a3)), (4, .ref (a5)), (5, .ref (a6)), (6, .long (a1)), (8, .int ((0 : Int32)))]) rfl ?_
      exact hloop7 LF _ _ hlp7
    · subst e11
      try dsimp only at hf
      refine G.sub C [3] (lv' := [(1, .long (a1))]) rfl ?_
      exact hj30 _ hf
theorem ko_X5_digest {h : PH} {a0 : Nat} {r : (Int64 × PH)} (hf : f_X5_digest h a0 = some r) : kO h a0 4 := by
  unfold f_X5_digest at hf
  exact okO_k (gd_ok hf).1
theorem kd_X5_digest : yX5_digest.cls = RX5 ∧ yX5_digest.cls ≠ "java/lang/invoke/MethodHandle" ∧ yX5_digest.cls ≠ "java/lang/invoke/VarHandle" ∧ (parseMethodDescriptor yX5_digest.desc).map (fun d => d.parameters.length) = some 0 := by decide +kernel
set_option maxRecDepth 20000 in
set_option maxHeartbeats 4000000 in
theorem ct_X5_digest {l : Launch} {h : PH} {a0 : Nat} {r : (Int64 × PH)} (hf : f_X5_digest h a0 = some r) : CT l yX5_digest cX5_digest 4 (some .long) 6 151 [.ref (a0)] h (some (.long r.1)) r.2 := by
  refine CT.of (own := RX5) rfl (by decide) (Nat.le_of_ble_eq_true rfl) ?_
  intro p e R s m args below meth c g X hR C
  subst hR
  unfold f_X5_digest at hf
  obtain ⟨hok, hf⟩ := gd_ok hf
  have hj182 : ∀ (hh : PH) (x1 : Int64), f_X5_digest_J182 hh (x1) = some r → G p l e ({ frames := 6, cells := 0, slots := 0, locals := 151 } : Room) s m args below meth c 4 g X h 0 0 (MQ below (QW g X h s.heap.size (some (.long r.1)) r.2) args s 0 0 (AF X h s.heap.size)) 182 [(1, .long (x1))] [] hh := by
    intro hh x1 hf
    unfold f_X5_digest_J182 at hf
    refine G.lload_n C 0 dX5_digest_182 rfl rfl ?_
    cases hf
    exact G.lret C rfl dX5_digest_183
  have hj124 : ∀ (hh : PH) (x0 : Nat) (x1 : Int64), f_X5_digest_J124 hh (x0) (x1) = some r → G p l e ({ frames := 6, cells := 0, slots := 0, locals := 151 } : Room) s m args below meth c 4 g X h 0 0 (MQ below (QW g X h s.heap.size (some (.long r.1)) r.2) args s 0 0 (AF X h s.heap.size)) 124 [(0, .ref (x0)), (1, .long (x1))] [] hh := by
    intro hh x0 x1 hf
    unfold f_X5_digest_J124 at hf
    refine G.lload_n C 1 dX5_digest_124 rfl rfl ?_
    refine G.aload_n C 0 dX5_digest_125 rfl rfl ?_
    obtain ⟨v33, hv33, hf⟩ := bind_some hf
    try dsimp only at hf
    refine G.callV C (st := [.long (x1)]) (st2 := [.double (v33), .long (x1)]) (ct_X5_fullness hv33) (ko_X5_fullness hv33) rfl m9_995 m9_967 m9_968 m9_2 m9_969 kd_X5_fullness ⟨Nat.le_of_ble_eq_true rfl, Nat.le_of_ble_eq_true rfl⟩ ⟨Nat.zero_le _, Nat.zero_le _⟩ (Nat.le_of_ble_eq_true rfl) rfl rfl dX5_digest_126 ?_
    obtain ⟨v34, hv34, hf⟩ := bind_some hf
    try dsimp only at hf
    refine G.callS C (st := [.long (x1)]) (st2 := [.long (v34), .long (x1)]) (ct_X1_bitsOfShare hv34) m9_996 m9_997 m9_376 m9_998 kd_X1_bitsOfShare ⟨Nat.le_of_ble_eq_true rfl, Nat.le_of_ble_eq_true rfl⟩ ⟨Nat.zero_le _, Nat.zero_le _⟩ (Nat.le_of_ble_eq_true rfl) rfl rfl dX5_digest_129 ?_
    obtain ⟨v35, hv35, hf⟩ := bind_some hf
    try dsimp only at hf
    refine G.callS C (st := []) (st2 := [.long (v35)]) (ct_X5_mixed hv35) m9_983 m9_984 m9_2 m9_985 kd_X5_mixed ⟨Nat.le_of_ble_eq_true rfl, Nat.le_of_ble_eq_true rfl⟩ ⟨Nat.zero_le _, Nat.zero_le _⟩ (Nat.le_of_ble_eq_true rfl) rfl rfl dX5_digest_132 ?_
    refine G.lstore_n (lv' := [(1, .long (v35)), (0, .ref (x0))]) C dX5_digest_135 rfl (by decide) rfl ?_
    refine G.lload_n C 0 dX5_digest_136 rfl rfl ?_
    refine G.aload_n C 1 dX5_digest_137 rfl rfl ?_
    refine G.getR (ci := 4) (k := 3) C rfl inlX5 (by decide) m9_25 rfl hf dX5_digest_138 (fun v36 hv36 hf => ?_)
    try dsimp only at hf
    obtain ⟨v37, hv37, hf⟩ := bind_some hf
    try dsimp only at hf
    refine G.callV C (st := [.long (v35)]) (st2 := [.int (v37), .long (v35)]) (ct_X4_length hv37) (ko_X4_length hv37) rfl m9_517 m9_518 m9_519 m9_24 m9_520 kd_X4_length ⟨Nat.le_of_ble_eq_true rfl, Nat.le_of_ble_eq_true rfl⟩ ⟨Nat.zero_le _, Nat.zero_le _⟩ (Nat.le_of_ble_eq_true rfl) rfl rfl dX5_digest_141 ?_
    refine G.i2l C dX5_digest_144 ?_
    obtain ⟨v38, hv38, hf⟩ := bind_some hf
    try dsimp only at hf
    refine G.callS C (st := []) (st2 := [.long (v38)]) (ct_X5_mixed hv38) m9_983 m9_984 m9_2 m9_985 kd_X5_mixed ⟨Nat.le_of_ble_eq_true rfl, Nat.le_of_ble_eq_true rfl⟩ ⟨Nat.zero_le _, Nat.zero_le _⟩ (Nat.le_of_ble_eq_true rfl) rfl rfl dX5_digest_145 ?_
    refine G.lstore_n (lv' := [(1, .long (v38)), (0, .ref (x0))]) C dX5_digest_148 rfl (by decide) rfl ?_
    refine G.iconst (v := 0) C dX5_digest_149 (by decide) ?_
    refine G.istore_n (lv' := [(3, .int ((0 : Int32))), (1, .long (v38)), (0, .ref (x0))]) C dX5_digest_150 rfl (by decide) rfl ?_
    obtain ⟨z39, hlp39, hfo39⟩ := bind_some hf
    clear hf
    have hloop39 : ∀ (k : Nat), ∀ (x1 : Int64) (x3 : Int32), (lpn (f_X5_digest_L151 (hh) (x0)) k (x1, x3)) = some z39 → G p l e ({ frames := 6, cells := 0, slots := 0, locals := 151 } : Room) s m args below meth c 4 g X h 0 0 (MQ below (QW g X h s.heap.size (some (.long r.1)) r.2) args s 0 0 (AF X h s.heap.size)) 151 [(0, .ref (x0)), (1, .long (x1)), (3, .int (x3))] [] hh := by
      intro k
      induction k with
      | zero => intro x1 x3 hlp39; exact (lpn_0 hlp39).elim
      | succ k ih39 =>
        intro x1 x3 hlp39
        obtain ⟨y39, hf, hlp39⟩ := lpn_s hlp39
        unfold f_X5_digest_L151 at hf
        try dsimp only at hf
        refine G.iload_n C 2 dX5_digest_151 rfl rfl ?_
        refine G.aload_n C 0 dX5_digest_152 rfl rfl ?_
        refine G.getR (ci := 4) (k := 3) C rfl inlX5 (by decide) m9_25 rfl hf dX5_digest_153 (fun v40 hv40 hf => ?_)
        try dsimp only at hf
        obtain ⟨v41, hv41, hf⟩ := bind_some hf
        try dsimp only at hf
        refine G.callV C (st := [.int (x3)]) (st2 := [.int (v41), .int (x3)]) (ct_X4_length hv41) (ko_X4_length hv41) rfl m9_517 m9_518 m9_519 m9_24 m9_520 kd_X4_length ⟨Nat.le_of_ble_eq_true rfl, Nat.le_of_ble_eq_true rfl⟩ ⟨Nat.zero_le _, Nat.zero_le _⟩ (Nat.le_of_ble_eq_true rfl) rfl rfl dX5_digest_156 ?_
        refine G.icmp_ge (tgt := 182) C dX5_digest_159 (by decide) hf (fun c45 hf => ?_) (fun c45 hf => ?_)
        · cases hf
          change some _ = some _ at hlp39
          have hf := hfo39
          try rw [← Option.some.inj hlp39] at hf
          try dsimp only at hf
          refine G.sub C [1] (lv' := [(1, .long (x1))]) rfl ?_
          exact hj182 _ _ hf
        · refine G.lload_n C 1 dX5_digest_162 rfl rfl ?_
          refine G.aload_n C 0 dX5_digest_163 rfl rfl ?_
          refine G.getR (ci := 4) (k := 3) C rfl inlX5 (by decide) m9_25 rfl hf dX5_digest_164 (fun v42 hv42 hf => ?_)
          try dsimp only at hf
          refine G.iload_n C 2 dX5_digest_167 rfl rfl ?_
          obtain ⟨v43, hv43, hf⟩ := bind_some hf
          try dsimp only at hf
          refine G.callV C (st := [.long (x1)]) (st2 := [.int (v43), .long (x1)]) (ct_X4_codeAt hv43) (ko_X4_codeAt hv43) rfl m9_623 m9_547 m9_548 m9_24 m9_549 kd_X4_codeAt ⟨Nat.le_of_ble_eq_true rfl, Nat.le_of_ble_eq_true rfl⟩ ⟨Nat.zero_le _, Nat.zero_le _⟩ (Nat.le_of_ble_eq_true rfl) rfl rfl dX5_digest_168 ?_
          refine G.i2l C dX5_digest_171 ?_
          obtain ⟨v44, hv44, hf⟩ := bind_some hf
          try dsimp only at hf
          refine G.callS C (st := []) (st2 := [.long (v44)]) (ct_X5_mixed hv44) m9_983 m9_984 m9_2 m9_985 kd_X5_mixed ⟨Nat.le_of_ble_eq_true rfl, Nat.le_of_ble_eq_true rfl⟩ ⟨Nat.zero_le _, Nat.zero_le _⟩ (Nat.le_of_ble_eq_true rfl) rfl rfl dX5_digest_172 ?_
          refine G.lstore_n (lv' := [(1, .long (v44)), (0, .ref (x0)), (3, .int (x3))]) C dX5_digest_175 rfl (by decide) rfl ?_
          refine G.iinc (k := 2) (v := (x3 + 1)) (lv' := [(3, .int ((x3 + 1))), (1, .long (v44)), (0, .ref (x0))]) C dX5_digest_176 rfl rfl (by decide) rfl ?_
          refine G.goto (tgt := 151) C dX5_digest_179 (by decide) ?_
          cases hf
          refine G.sub C [2, 1, 0] (lv' := [(0, .ref (x0)), (1, .long (v44)), (3, .int ((x3 + 1)))]) rfl ?_
          exact ih39 _ _ hlp39
    refine G.sub C [2, 1, 0] (lv' := [(0, .ref (x0)), (1, .long (v38)), (3, .int ((0 : Int32)))]) rfl ?_
    exact hloop39 LF _ _ hlp39
  have hj83 : ∀ (hh : PH) (x0 : Nat) (x1 : Int64), f_X5_digest_J83 hh (x0) (x1) = some r → G p l e ({ frames := 6, cells := 0, slots := 0, locals := 151 } : Room) s m args below meth c 4 g X h 0 0 (MQ below (QW g X h s.heap.size (some (.long r.1)) r.2) args s 0 0 (AF X h s.heap.size)) 83 [(0, .ref (x0)), (1, .long (x1))] [] hh := by
    intro hh x0 x1 hf
    unfold f_X5_digest_J83 at hf
    refine G.iconst (v := 0) C dX5_digest_83 (by decide) ?_
    refine G.istore_n (lv' := [(3, .int ((0 : Int32))), (0, .ref (x0)), (1, .long (x1))]) C dX5_digest_84 rfl (by decide) rfl ?_
    obtain ⟨z46, hlp46, hfo46⟩ := bind_some hf
    clear hf
    have hloop46 : ∀ (k : Nat), ∀ (x1 : Int64) (x3 : Int32), (lpn (f_X5_digest_L85 (hh) (x0)) k (x1, x3)) = some z46 → G p l e ({ frames := 6, cells := 0, slots := 0, locals := 151 } : Room) s m args below meth c 4 g X h 0 0 (MQ below (QW g X h s.heap.size (some (.long r.1)) r.2) args s 0 0 (AF X h s.heap.size)) 85 [(0, .ref (x0)), (1, .long (x1)), (3, .int (x3))] [] hh := by
      intro k
      induction k with
      | zero => intro x1 x3 hlp46; exact (lpn_0 hlp46).elim
      | succ k ih46 =>
        intro x1 x3 hlp46
        obtain ⟨y46, hf, hlp46⟩ := lpn_s hlp46
        unfold f_X5_digest_L85 at hf
        try dsimp only at hf
        refine G.iload_n C 2 dX5_digest_85 rfl rfl ?_
        refine G.bipush (v := 8) C dX5_digest_86 (by decide) ?_
        refine G.icmp_ge (tgt := 124) C dX5_digest_88 (by decide) hf (fun c53 hf => ?_) (fun c53 hf => ?_)
        · cases hf
          change some _ = some _ at hlp46
          have hf := hfo46
          try rw [← Option.some.inj hlp46] at hf
          try dsimp only at hf
          refine G.sub C [0, 1] (lv' := [(0, .ref (x0)), (1, .long (x1))]) rfl ?_
          exact hj124 _ _ _ hf
        · refine G.lload_n C 1 dX5_digest_91 rfl rfl ?_
          refine G.aload_n C 0 dX5_digest_92 rfl rfl ?_
          refine G.getR (ci := 4) (k := 0) C rfl inlX5 (by decide) m9_16 rfl hf dX5_digest_93 (fun v47 hv47 hf => ?_)
          try dsimp only at hf
          refine G.iconst (v := 0) C dX5_digest_96 (by decide) ?_
          obtain ⟨v48, hv48, hf⟩ := bind_some hf
          try dsimp only at hf
          refine G.callV C (st := [.long (x1)]) (st2 := [.int (v48), .long (x1)]) (ct_X3_gapAt hv48) (ko_X3_gapAt hv48) rfl m9_129 m9_130 m9_131 m9_15 m9_132 kd_X3_gapAt ⟨Nat.le_of_ble_eq_true rfl, Nat.le_of_ble_eq_true rfl⟩ ⟨Nat.zero_le _, Nat.zero_le _⟩ (Nat.le_of_ble_eq_true rfl) rfl rfl dX5_digest_97 ?_
          refine G.iconst (v := 1) C dX5_digest_100 (by decide) ?_
          refine G.aload_n C 0 dX5_digest_101 rfl rfl ?_
          refine G.getR (ci := 4) (k := 0) C rfl inlX5 (by decide) m9_16 rfl hf dX5_digest_102 (fun v49 hv49 hf => ?_)
          try dsimp only at hf
          refine G.iload_n C 2 dX5_digest_105 rfl rfl ?_
          obtain ⟨v50, hv50, hf⟩ := bind_some hf
          try dsimp only at hf
          refine G.callV C (st := [.int ((1 : Int32)), .int (v48), .long (x1)]) (st2 := [.int (v50), .int ((1 : Int32)), .int (v48), .long (x1)]) (ct_X3_gapAt hv50) (ko_X3_gapAt hv50) rfl m9_129 m9_130 m9_131 m9_15 m9_132 kd_X3_gapAt ⟨Nat.le_of_ble_eq_true rfl, Nat.le_of_ble_eq_true rfl⟩ ⟨Nat.zero_le _, Nat.zero_le _⟩ (Nat.le_of_ble_eq_true rfl) rfl rfl dX5_digest_106 ?_
          refine G.iconst (v := 0) C dX5_digest_109 (by decide) ?_
          obtain ⟨v51, hv51, hf⟩ := bind_some hf
          try dsimp only at hf
          refine G.callS C (st := [.long (x1)]) (st2 := [.int (v51), .long (x1)]) (ct_X1_meetByRemainders hv51) m9_853 m9_854 m9_376 m9_855 kd_X1_meetByRemainders ⟨Nat.le_of_ble_eq_true rfl, Nat.le_of_ble_eq_true rfl⟩ ⟨Nat.zero_le _, Nat.zero_le _⟩ (Nat.le_of_ble_eq_true rfl) rfl rfl dX5_digest_110 ?_
          refine G.i2l C dX5_digest_113 ?_
          obtain ⟨v52, hv52, hf⟩ := bind_some hf
          try dsimp only at hf
          refine G.callS C (st := []) (st2 := [.long (v52)]) (ct_X5_mixed hv52) m9_983 m9_984 m9_2 m9_985 kd_X5_mixed ⟨Nat.le_of_ble_eq_true rfl, Nat.le_of_ble_eq_true rfl⟩ ⟨Nat.zero_le _, Nat.zero_le _⟩ (Nat.le_of_ble_eq_true rfl) rfl rfl dX5_digest_114 ?_
          refine G.lstore_n (lv' := [(1, .long (v52)), (0, .ref (x0)), (3, .int (x3))]) C dX5_digest_117 rfl (by decide) rfl ?_
          refine G.iinc (k := 2) (v := (x3 + 1)) (lv' := [(3, .int ((x3 + 1))), (1, .long (v52)), (0, .ref (x0))]) C dX5_digest_118 rfl rfl (by decide) rfl ?_
          refine G.goto (tgt := 85) C dX5_digest_121 (by decide) ?_
          cases hf
          refine G.sub C [2, 1, 0] (lv' := [(0, .ref (x0)), (1, .long (v52)), (3, .int ((x3 + 1)))]) rfl ?_
          exact ih46 _ _ hlp46
    refine G.sub C [1, 2, 0] (lv' := [(0, .ref (x0)), (1, .long (x1)), (3, .int ((0 : Int32)))]) rfl ?_
    exact hloop46 LF _ _ hlp46
  have hj57 : ∀ (x0 : Nat) (x1 : Int64), f_X5_digest_J57 h (x0) (x1) = some r → G p l e ({ frames := 6, cells := 0, slots := 0, locals := 151 } : Room) s m args below meth c 4 g X h 0 0 (MQ below (QW g X h s.heap.size (some (.long r.1)) r.2) args s 0 0 (AF X h s.heap.size)) 57 [(0, .ref (x0)), (1, .long (x1))] [] h := by
    intro x0 x1 hf
    unfold f_X5_digest_J57 at hf
    refine G.iconst (v := 0) C dX5_digest_57 (by decide) ?_
    refine G.istore_n (lv' := [(3, .int ((0 : Int32))), (0, .ref (x0)), (1, .long (x1))]) C dX5_digest_58 rfl (by decide) rfl ?_
    obtain ⟨z54, hlp54, hfo54⟩ := bind_some hf
    clear hf
    have hloop54 : ∀ (k : Nat), ∀ (x1 : Int64) (x3 : Int32) (hh : PH), (lpn (f_X5_digest_L59 (x0)) k (x1, x3, hh)) = some z54 → G p l e ({ frames := 6, cells := 0, slots := 0, locals := 151 } : Room) s m args below meth c 4 g X h 0 0 (MQ below (QW g X h s.heap.size (some (.long r.1)) r.2) args s 0 0 (AF X h s.heap.size)) 59 [(0, .ref (x0)), (1, .long (x1)), (3, .int (x3))] [] hh := by
      intro k
      induction k with
      | zero => intro x1 x3 hh hlp54; exact (lpn_0 hlp54).elim
      | succ k ih54 =>
        intro x1 x3 hh hlp54
        obtain ⟨y54, hf, hlp54⟩ := lpn_s hlp54
        unfold f_X5_digest_L59 at hf
        try dsimp only at hf
        refine G.iload_n C 2 dX5_digest_59 rfl rfl ?_
        refine G.aload_n C 0 dX5_digest_60 rfl rfl ?_
        refine G.getR (ci := 4) (k := 0) C rfl inlX5 (by decide) m9_16 rfl hf dX5_digest_61 (fun v55 hv55 hf => ?_)
        try dsimp only at hf
        obtain ⟨v56, hv56, hf⟩ := bind_some hf
        try dsimp only at hf
        refine G.callV C (st := [.int (x3)]) (st2 := [.int (v56), .int (x3)]) (ct_X3_ropeCount hv56) (ko_X3_ropeCount hv56) rfl m9_191 m9_192 m9_193 m9_15 m9_194 kd_X3_ropeCount ⟨Nat.le_of_ble_eq_true rfl, Nat.le_of_ble_eq_true rfl⟩ ⟨Nat.zero_le _, Nat.zero_le _⟩ (Nat.le_of_ble_eq_true rfl) rfl rfl dX5_digest_64 ?_
        refine G.icmp_ge (tgt := 83) C dX5_digest_67 (by decide) hf (fun c60 hf => ?_) (fun c60 hf => ?_)
        · cases hf
          change some _ = some _ at hlp54
          have hf := hfo54
          try rw [← Option.some.inj hlp54] at hf
          try dsimp only at hf
          refine G.sub C [0, 1] (lv' := [(0, .ref (x0)), (1, .long (x1))]) rfl ?_
          exact hj83 _ _ _ hf
        · refine G.aload_n C 0 dX5_digest_70 rfl rfl ?_
          refine G.lload_n C 1 dX5_digest_71 rfl rfl ?_
          refine G.iload_n C 2 dX5_digest_72 rfl rfl ?_
          obtain ⟨⟨v57, h58⟩, hv57, hf⟩ := bind_some hf
          try dsimp only at hf
          refine G.callV C (st := []) (st2 := [.long (v57)]) (ct_X5_ropeMixed hv57) (ko_X5_ropeMixed hv57) rfl m9_987 m9_988 m9_989 m9_2 m9_990 kd_X5_ropeMixed ⟨Nat.le_of_ble_eq_true rfl, Nat.le_of_ble_eq_true rfl⟩ ⟨Nat.zero_le _, Nat.zero_le _⟩ (Nat.le_of_ble_eq_true rfl) rfl rfl dX5_digest_73 ?_
          refine G.lstore_n (lv' := [(1, .long (v57)), (0, .ref (x0)), (3, .int (x3))]) C dX5_digest_76 rfl (by decide) rfl ?_
          refine G.iinc (k := 2) (v := (x3 + 1)) (lv' := [(3, .int ((x3 + 1))), (1, .long (v57)), (0, .ref (x0))]) C dX5_digest_77 rfl rfl (by decide) rfl ?_
          refine G.goto (tgt := 59) C dX5_digest_80 (by decide) ?_
          cases hf
          refine G.sub C [2, 1, 0] (lv' := [(0, .ref (x0)), (1, .long (v57)), (3, .int ((x3 + 1)))]) rfl ?_
          exact ih54 _ _ _ hlp54
    refine G.sub C [1, 2, 0] (lv' := [(0, .ref (x0)), (1, .long (x1)), (3, .int ((0 : Int32)))]) rfl ?_
    exact hloop54 LF _ _ _ hlp54
  have hj29 : ∀ (x0 : Nat) (x1 : Int64), f_X5_digest_J29 h (x0) (x1) = some r → G p l e ({ frames := 6, cells := 0, slots := 0, locals := 151 } : Room) s m args below meth c 4 g X h 0 0 (MQ below (QW g X h s.heap.size (some (.long r.1)) r.2) args s 0 0 (AF X h s.heap.size)) 29 [(0, .ref (x0)), (1, .long (x1))] [] h := by
    intro x0 x1 hf
    unfold f_X5_digest_J29 at hf
    refine G.iconst (v := 0) C dX5_digest_29 (by decide) ?_
    refine G.istore_n (lv' := [(3, .int ((0 : Int32))), (0, .ref (x0)), (1, .long (x1))]) C dX5_digest_30 rfl (by decide) rfl ?_
    obtain ⟨z61, hlp61, hfo61⟩ := bind_some hf
    clear hf
    have hloop61 : ∀ (k : Nat), ∀ (x1 : Int64) (x3 : Int32), (lpn (f_X5_digest_L31 (h) (x0)) k (x1, x3)) = some z61 → G p l e ({ frames := 6, cells := 0, slots := 0, locals := 151 } : Room) s m args below meth c 4 g X h 0 0 (MQ below (QW g X h s.heap.size (some (.long r.1)) r.2) args s 0 0 (AF X h s.heap.size)) 31 [(0, .ref (x0)), (1, .long (x1)), (3, .int (x3))] [] h := by
      intro k
      induction k with
      | zero => intro x1 x3 hlp61; exact (lpn_0 hlp61).elim
      | succ k ih61 =>
        intro x1 x3 hlp61
        obtain ⟨y61, hf, hlp61⟩ := lpn_s hlp61
        unfold f_X5_digest_L31 at hf
        try dsimp only at hf
        refine G.iload_n C 2 dX5_digest_31 rfl rfl ?_
        refine G.bipush (v := 8) C dX5_digest_32 (by decide) ?_
        refine G.icmp_ge (tgt := 57) C dX5_digest_34 (by decide) hf (fun c65 hf => ?_) (fun c65 hf => ?_)
        · cases hf
          change some _ = some _ at hlp61
          have hf := hfo61
          try rw [← Option.some.inj hlp61] at hf
          try dsimp only at hf
          refine G.sub C [0, 1] (lv' := [(0, .ref (x0)), (1, .long (x1))]) rfl ?_
          exact hj57 _ _ hf
        · refine G.lload_n C 1 dX5_digest_37 rfl rfl ?_
          refine G.aload_n C 0 dX5_digest_38 rfl rfl ?_
          refine G.getR (ci := 4) (k := 0) C rfl inlX5 (by decide) m9_16 rfl hf dX5_digest_39 (fun v62 hv62 hf => ?_)
          try dsimp only at hf
          refine G.iload_n C 2 dX5_digest_42 rfl rfl ?_
          obtain ⟨v63, hv63, hf⟩ := bind_some hf
          try dsimp only at hf
          refine G.callV C (st := [.long (x1)]) (st2 := [.int (v63), .long (x1)]) (ct_X3_gapAt hv63) (ko_X3_gapAt hv63) rfl m9_129 m9_130 m9_131 m9_15 m9_132 kd_X3_gapAt ⟨Nat.le_of_ble_eq_true rfl, Nat.le_of_ble_eq_true rfl⟩ ⟨Nat.zero_le _, Nat.zero_le _⟩ (Nat.le_of_ble_eq_true rfl) rfl rfl dX5_digest_43 ?_
          refine G.i2l C dX5_digest_46 ?_
          obtain ⟨v64, hv64, hf⟩ := bind_some hf
          try dsimp only at hf
          refine G.callS C (st := []) (st2 := [.long (v64)]) (ct_X5_mixed hv64) m9_983 m9_984 m9_2 m9_985 kd_X5_mixed ⟨Nat.le_of_ble_eq_true rfl, Nat.le_of_ble_eq_true rfl⟩ ⟨Nat.zero_le _, Nat.zero_le _⟩ (Nat.le_of_ble_eq_true rfl) rfl rfl dX5_digest_47 ?_
          refine G.lstore_n (lv' := [(1, .long (v64)), (0, .ref (x0)), (3, .int (x3))]) C dX5_digest_50 rfl (by decide) rfl ?_
          refine G.iinc (k := 2) (v := (x3 + 1)) (lv' := [(3, .int ((x3 + 1))), (1, .long (v64)), (0, .ref (x0))]) C dX5_digest_51 rfl rfl (by decide) rfl ?_
          refine G.goto (tgt := 31) C dX5_digest_54 (by decide) ?_
          cases hf
          refine G.sub C [2, 1, 0] (lv' := [(0, .ref (x0)), (1, .long (v64)), (3, .int ((x3 + 1)))]) rfl ?_
          exact ih61 _ _ hlp61
    refine G.sub C [1, 2, 0] (lv' := [(0, .ref (x0)), (1, .long (x1)), (3, .int ((0 : Int32)))]) rfl ?_
    exact hloop61 LF _ _ hlp61
  refine G.sub C [0] (lv' := [(0, .ref (a0))]) rfl ?_
  refine G.ldc2 (v := 3643) C m9_982 dX5_digest_0 ?_
  refine G.lstore_n (lv' := [(1, .long ((3643 : Int64))), (0, .ref (a0))]) C dX5_digest_3 rfl (by decide) rfl ?_
  refine G.iconst (v := 0) C dX5_digest_4 (by decide) ?_
  refine G.istore_n (lv' := [(3, .int ((0 : Int32))), (1, .long ((3643 : Int64))), (0, .ref (a0))]) C dX5_digest_5 rfl (by decide) rfl ?_
  obtain ⟨z1, hlp1, hfo1⟩ := bind_some hf
  clear hf
  have hloop1 : ∀ (k : Nat), ∀ (x1 : Int64) (x3 : Int32), (lpn (f_X5_digest_L6 (h) (a0)) k (x1, x3)) = some z1 → G p l e ({ frames := 6, cells := 0, slots := 0, locals := 151 } : Room) s m args below meth c 4 g X h 0 0 (MQ below (QW g X h s.heap.size (some (.long r.1)) r.2) args s 0 0 (AF X h s.heap.size)) 6 [(0, .ref (a0)), (1, .long (x1)), (3, .int (x3))] [] h := by
    intro k
    induction k with
    | zero => intro x1 x3 hlp1; exact (lpn_0 hlp1).elim
    | succ k ih1 =>
      intro x1 x3 hlp1
      obtain ⟨y1, hf, hlp1⟩ := lpn_s hlp1
      unfold f_X5_digest_L6 at hf
      try dsimp only at hf
      refine G.iload_n C 2 dX5_digest_6 rfl rfl ?_
      refine G.bipush (v := 8) C dX5_digest_7 (by decide) ?_
      refine G.icmp_ge (tgt := 29) C dX5_digest_9 (by decide) hf (fun c4 hf => ?_) (fun c4 hf => ?_)
      · cases hf
        change some _ = some _ at hlp1
        have hf := hfo1
        try rw [← Option.some.inj hlp1] at hf
        try dsimp only at hf
        refine G.sub C [0, 1] (lv' := [(0, .ref (a0)), (1, .long (x1))]) rfl ?_
        exact hj29 _ _ hf
      · refine G.lload_n C 1 dX5_digest_12 rfl rfl ?_
        refine G.aload_n C 0 dX5_digest_13 rfl rfl ?_
        refine G.iload_n C 2 dX5_digest_14 rfl rfl ?_
        obtain ⟨v2, hv2, hf⟩ := bind_some hf
        try dsimp only at hf
        refine G.callV C (st := [.long (x1)]) (st2 := [.int (v2), .long (x1)]) (ct_X5_counted hv2) (ko_X5_counted hv2) rfl m9_788 m9_789 m9_790 m9_2 m9_791 kd_X5_counted ⟨Nat.le_of_ble_eq_true rfl, Nat.le_of_ble_eq_true rfl⟩ ⟨Nat.zero_le _, Nat.zero_le _⟩ (Nat.le_of_ble_eq_true rfl) rfl rfl dX5_digest_15 ?_
        refine G.i2l C dX5_digest_18 ?_
        obtain ⟨v3, hv3, hf⟩ := bind_some hf
        try dsimp only at hf
        refine G.callS C (st := []) (st2 := [.long (v3)]) (ct_X5_mixed hv3) m9_983 m9_984 m9_2 m9_985 kd_X5_mixed ⟨Nat.le_of_ble_eq_true rfl, Nat.le_of_ble_eq_true rfl⟩ ⟨Nat.zero_le _, Nat.zero_le _⟩ (Nat.le_of_ble_eq_true rfl) rfl rfl dX5_digest_19 ?_
        refine G.lstore_n (lv' := [(1, .long (v3)), (0, .ref (a0)), (3, .int (x3))]) C dX5_digest_22 rfl (by decide) rfl ?_
        refine G.iinc (k := 2) (v := (x3 + 1)) (lv' := [(3, .int ((x3 + 1))), (1, .long (v3)), (0, .ref (a0))]) C dX5_digest_23 rfl rfl (by decide) rfl ?_
        refine G.goto (tgt := 6) C dX5_digest_26 (by decide) ?_
        cases hf
        refine G.sub C [2, 1, 0] (lv' := [(0, .ref (a0)), (1, .long (v3)), (3, .int ((x3 + 1)))]) rfl ?_
        exact ih1 _ _ hlp1
  refine G.sub C [2, 1, 0] (lv' := [(0, .ref (a0)), (1, .long ((3643 : Int64))), (3, .int ((0 : Int32)))]) rfl ?_
  exact hloop1 LF _ _ hlp1
