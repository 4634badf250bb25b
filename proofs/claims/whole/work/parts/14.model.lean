theorem ko_X6_thrown {h : PH} {a0 : Nat} {r : Int32} (hf : f_X6_thrown h a0 = some r) : kO h a0 5 := by
  unfold f_X6_thrown at hf
  exact okO_k (gd_ok hf).1
theorem kd_X6_thrown : yX6_thrown.cls = RX6 ∧ yX6_thrown.cls ≠ "java/lang/invoke/MethodHandle" ∧ yX6_thrown.cls ≠ "java/lang/invoke/VarHandle" ∧ (parseMethodDescriptor yX6_thrown.desc).map (fun d => d.parameters.length) = some 0 := by decide +kernel
set_option maxRecDepth 20000 in
set_option maxHeartbeats 4000000 in
theorem ct_X6_thrown {l : Launch} {h : PH} {a0 : Nat} {r : Int32} (hf : f_X6_thrown h a0 = some r) : CT l yX6_thrown cX6_thrown 1 (some .int) 0 0 [.ref (a0)] h (some (.int r)) h := by
  refine CT.of (own := RX6) rfl (by decide) (Nat.le_of_ble_eq_true rfl) ?_
  intro p e R s m args below meth c g X hR C
  subst hR
  unfold f_X6_thrown at hf
  obtain ⟨hok, hf⟩ := gd_ok hf
  refine G.sub C [0] (lv' := [(0, .ref (a0))]) rfl ?_
  refine G.aload_n C 0 dX6_thrown_0 rfl rfl ?_
  refine G.getI (ci := 5) (k := 0) C rfl inlX6 (by decide) m9_166 rfl hf dX6_thrown_1 (fun v1 hv1 hf => ?_)
  try dsimp only at hf
  cases hf
  exact G.iret C rfl dX6_thrown_4
theorem kd_X6_in : yX6_in.cls ≠ "java/lang/invoke/MethodHandle" ∧ yX6_in.cls ≠ "java/lang/invoke/VarHandle" ∧ (parseMethodDescriptor yX6_in.desc).map (fun d => d.parameters.length) = some 3 := by decide +kernel
set_option maxRecDepth 20000 in
set_option maxHeartbeats 4000000 in
theorem ct_X6_in {l : Launch} {h : PH} {a0 : Int32} {a1 : Int32} {a2 : Int32} {r : Int32} (hf : f_X6_in h a0 a1 a2 = some r) : CT l yX6_in cX6_in 3 (some .boolean) 0 0 [.int (a0), .int (a1), .int (a2)] h (some (.int r)) h := by
  refine CT.of (own := RX6) rfl (by decide) (Nat.le_of_ble_eq_true rfl) ?_
  intro p e R s m args below meth c g X hR C
  subst hR
  unfold f_X6_in at hf
  have hj15 : ∀ (k0 : Int32), f_X6_in_J15 h k0 = some r → G p l e ({ frames := 0, cells := 0, slots := 0, locals := 0 } : Room) s m args below meth c 3 g X h 0 0 (MQ below (QW g X h s.heap.size (some (.int r)) h) args s 0 0 (AF X h s.heap.size)) 15 [] [.int (k0)] h := by
    intro k0 hf
    unfold f_X6_in_J15 at hf
    obtain ⟨c2, hf⟩ := gd_ok hf
    cases hf
    exact G.zret C rfl (z01_n c2) dX6_in_15
  have hj14 : f_X6_in_J14 h = some r → G p l e ({ frames := 0, cells := 0, slots := 0, locals := 0 } : Room) s m args below meth c 3 g X h 0 0 (MQ below (QW g X h s.heap.size (some (.int r)) h) args s 0 0 (AF X h s.heap.size)) 14 [] [] h := by
    intro hf
    unfold f_X6_in_J14 at hf
    refine G.iconst (v := 0) C dX6_in_14 (by decide) ?_
    refine G.sub C [] (lv' := []) rfl ?_
    exact hj15 _ hf
  refine G.sub C [0, 1, 2] (lv' := [(0, .int (a0)), (1, .int (a1)), (2, .int (a2))]) rfl ?_
  refine G.iload_n C 0 dX6_in_0 rfl rfl ?_
  refine G.iload_n C 1 dX6_in_1 rfl rfl ?_
  refine G.icmp_lt (tgt := 14) C dX6_in_2 (by decide) hf (fun c2 hf => ?_) (fun c2 hf => ?_)
  · refine G.sub C [] (lv' := []) rfl ?_
    exact hj14  hf
  · refine G.iload_n C 0 dX6_in_5 rfl rfl ?_
    refine G.iload_n C 2 dX6_in_6 rfl rfl ?_
    refine G.icmp_gt (tgt := 14) C dX6_in_7 (by decide) hf (fun c1 hf => ?_) (fun c1 hf => ?_)
    · refine G.sub C [] (lv' := []) rfl ?_
      exact hj14  hf
    · refine G.iconst (v := 1) C dX6_in_10 (by decide) ?_
      refine G.goto (tgt := 15) C dX6_in_11 (by decide) ?_
      refine G.sub C [] (lv' := []) rfl ?_
      exact hj15 _ hf
theorem ko_X6_holds {h : PH} {a0 : Nat} {a1 : Int32} {r : (Int32 × PH)} (hf : f_X6_holds h a0 a1 = some r) : kO h a0 5 := by
  unfold f_X6_holds at hf
  exact okO_k (gd_ok hf).1
theorem kd_X6_holds : yX6_holds.cls = RX6 ∧ yX6_holds.cls ≠ "java/lang/invoke/MethodHandle" ∧ yX6_holds.cls ≠ "java/lang/invoke/VarHandle" ∧ (parseMethodDescriptor yX6_holds.desc).map (fun d => d.parameters.length) = some 1 := by decide +kernel
set_option maxRecDepth 20000 in
set_option maxHeartbeats 4000000 in
theorem ct_X6_holds {l : Launch} {h : PH} {a0 : Nat} {a1 : Int32} {r : (Int32 × PH)} (hf : f_X6_holds h a0 a1 = some r) : CT l yX6_holds cX6_holds 2 (some .boolean) 0 0 [.ref (a0), .int (a1)] h (some (.int r.1)) r.2 := by
  refine CT.of (own := RX6) rfl (by decide) (Nat.le_of_ble_eq_true rfl) ?_
  intro p e R s m args below meth c g X hR C
  subst hR
  unfold f_X6_holds at hf
  obtain ⟨hok, hf⟩ := gd_ok hf
  have hj14 : ∀ (hh : PH) (k0 : Int32), f_X6_holds_J14 hh k0 = some r → G p l e ({ frames := 0, cells := 0, slots := 0, locals := 0 } : Room) s m args below meth c 2 g X h 0 0 (MQ below (QW g X h s.heap.size (some (.int r.1)) r.2) args s 0 0 (AF X h s.heap.size)) 14 [] [.int (k0)] hh := by
    intro hh k0 hf
    unfold f_X6_holds_J14 at hf
    obtain ⟨c3, hf⟩ := gd_ok hf
    cases hf
    exact G.zret C rfl (z01_n c3) dX6_holds_14
  refine G.sub C [0, 1] (lv' := [(0, .ref (a0)), (1, .int (a1))]) rfl ?_
  refine G.aload_n C 0 dX6_holds_0 rfl rfl ?_
  refine G.iload_n C 1 dX6_holds_1 rfl rfl ?_
  refine G.put (ci := 5) (k := 0) C rfl inlX6 (by decide) m9_166 rfl tyX6 tyX6_ok nmX6 rfl rfl rfl hf dX6_holds_2 (fun h1 hh1 hf => ?_)
  try dsimp only at hf
  refine G.iload_n C 1 dX6_holds_5 rfl rfl ?_
  refine G.if_ne (tgt := 13) C dX6_holds_6 (by decide) hf (fun c2 hf => ?_) (fun c2 hf => ?_)
  · refine G.iconst (v := 0) C dX6_holds_13 (by decide) ?_
    refine G.sub C [] (lv' := []) rfl ?_
    exact hj14 _ _ hf
  · refine G.iconst (v := 1) C dX6_holds_9 (by decide) ?_
    refine G.goto (tgt := 14) C dX6_holds_10 (by decide) ?_
    refine G.sub C [] (lv' := []) rfl ?_
    exact hj14 _ _ hf
theorem kd_X6_isHue : yX6_isHue.cls ≠ "java/lang/invoke/MethodHandle" ∧ yX6_isHue.cls ≠ "java/lang/invoke/VarHandle" ∧ (parseMethodDescriptor yX6_isHue.desc).map (fun d => d.parameters.length) = some 1 := by decide +kernel
set_option maxRecDepth 20000 in
set_option maxHeartbeats 4000000 in
theorem ct_X6_isHue {l : Launch} {h : PH} {a0 : Int32} {r : Int32} (hf : f_X6_isHue h a0 = some r) : CT l yX6_isHue cX6_isHue 1 (some .boolean) 1 22 [.int (a0)] h (some (.int r)) h := by
  refine CT.of (own := RX6) rfl (by decide) (Nat.le_of_ble_eq_true rfl) ?_
  intro p e R s m args below meth c g X hR C
  subst hR
  unfold f_X6_isHue at hf
  refine G.sub C [0] (lv' := [(0, .int (a0))]) rfl ?_
  refine G.iload_n C 0 dX6_isHue_0 rfl rfl ?_
  refine G.iconst (v := 0) C dX6_isHue_1 (by decide) ?_
  refine G.bipush (v := 7) C dX6_isHue_2 (by decide) ?_
  obtain ⟨v1, hv1, hf⟩ := bind_some hf
  try dsimp only at hf
  refine G.callS C (st := []) (st2 := [.int (v1)]) (ct_X6_in hv1) m9_144 m9_145 m9_5 m9_146 kd_X6_in ⟨Nat.le_of_ble_eq_true rfl, Nat.le_of_ble_eq_true rfl⟩ ⟨Nat.zero_le _, Nat.zero_le _⟩ (Nat.le_of_ble_eq_true rfl) rfl rfl dX6_isHue_4 ?_
  obtain ⟨c2, hf⟩ := gd_ok hf
  cases hf
  exact G.zret C rfl (z01_n c2) dX6_isHue_7
theorem ko_X6_isRope {h : PH} {a0 : Nat} {a1 : Int32} {r : Int32} (hf : f_X6_isRope h a0 a1 = some r) : kO h a0 5 := by
  unfold f_X6_isRope at hf
  exact okO_k (gd_ok hf).1
theorem kd_X6_isRope : yX6_isRope.cls = RX6 ∧ yX6_isRope.cls ≠ "java/lang/invoke/MethodHandle" ∧ yX6_isRope.cls ≠ "java/lang/invoke/VarHandle" ∧ (parseMethodDescriptor yX6_isRope.desc).map (fun d => d.parameters.length) = some 1 := by decide +kernel
set_option maxRecDepth 20000 in
set_option maxHeartbeats 4000000 in
theorem ct_X6_isRope {l : Launch} {h : PH} {a0 : Nat} {a1 : Int32} {r : Int32} (hf : f_X6_isRope h a0 a1 = some r) : CT l yX6_isRope cX6_isRope 2 (some .boolean) 1 22 [.ref (a0), .int (a1)] h (some (.int r)) h := by
  refine CT.of (own := RX6) rfl (by decide) (Nat.le_of_ble_eq_true rfl) ?_
  intro p e R s m args below meth c g X hR C
  subst hR
  unfold f_X6_isRope at hf
  obtain ⟨hok, hf⟩ := gd_ok hf
  refine G.sub C [0, 1] (lv' := [(0, .ref (a0)), (1, .int (a1))]) rfl ?_
  refine G.iload_n C 1 dX6_isRope_0 rfl rfl ?_
  refine G.iconst (v := 0) C dX6_isRope_1 (by decide) ?_
  refine G.aload_n C 0 dX6_isRope_2 rfl rfl ?_
  refine G.getR (ci := 5) (k := 1) C rfl inlX6 (by decide) m9_70 rfl hf dX6_isRope_3 (fun v1 hv1 hf => ?_)
  try dsimp only at hf
  refine G.bipush (v := 8) C dX6_isRope_6 (by decide) ?_
  refine G.iald C hf dX6_isRope_8 (fun v2 hv2 hf => ?_)
  try dsimp only at hf
  refine G.iconst (v := 1) C dX6_isRope_9 (by decide) ?_
  refine G.isub C dX6_isRope_10 ?_
  obtain ⟨v3, hv3, hf⟩ := bind_some hf
  try dsimp only at hf
  refine G.callS C (st := []) (st2 := [.int (v3)]) (ct_X6_in hv3) m9_144 m9_145 m9_5 m9_146 kd_X6_in ⟨Nat.le_of_ble_eq_true rfl, Nat.le_of_ble_eq_true rfl⟩ ⟨Nat.zero_le _, Nat.zero_le _⟩ (Nat.le_of_ble_eq_true rfl) rfl rfl dX6_isRope_11 ?_
  obtain ⟨c4, hf⟩ := gd_ok hf
  cases hf
  exact G.zret C rfl (z01_n c4) dX6_isRope_14
theorem ko_X6_isPhase {h : PH} {a0 : Nat} {a1 : Int32} {a2 : Int32} {r : Int32} (hf : f_X6_isPhase h a0 a1 a2 = some r) : kO h a0 5 := by
  unfold f_X6_isPhase at hf
  exact okO_k (gd_ok hf).1
theorem kd_X6_isPhase : yX6_isPhase.cls = RX6 ∧ yX6_isPhase.cls ≠ "java/lang/invoke/MethodHandle" ∧ yX6_isPhase.cls ≠ "java/lang/invoke/VarHandle" ∧ (parseMethodDescriptor yX6_isPhase.desc).map (fun d => d.parameters.length) = some 2 := by decide +kernel
set_option maxRecDepth 20000 in
set_option maxHeartbeats 4000000 in
theorem ct_X6_isPhase {l : Launch} {h : PH} {a0 : Nat} {a1 : Int32} {a2 : Int32} {r : Int32} (hf : f_X6_isPhase h a0 a1 a2 = some r) : CT l yX6_isPhase cX6_isPhase 3 (some .boolean) 1 22 [.ref (a0), .int (a1), .int (a2)] h (some (.int r)) h := by
  refine CT.of (own := RX6) rfl (by decide) (Nat.le_of_ble_eq_true rfl) ?_
  intro p e R s m args below meth c g X hR C
  subst hR
  unfold f_X6_isPhase at hf
  obtain ⟨hok, hf⟩ := gd_ok hf
  refine G.sub C [0, 1, 2] (lv' := [(0, .ref (a0)), (1, .int (a1)), (2, .int (a2))]) rfl ?_
  refine G.iload_n C 2 dX6_isPhase_0 rfl rfl ?_
  refine G.iconst (v := 0) C dX6_isPhase_1 (by decide) ?_
  refine G.aload_n C 0 dX6_isPhase_2 rfl rfl ?_
  refine G.getR (ci := 5) (k := 1) C rfl inlX6 (by decide) m9_70 rfl hf dX6_isPhase_3 (fun v1 hv1 hf => ?_)
  try dsimp only at hf
  refine G.iconst (v := 0) C dX6_isPhase_6 (by decide) ?_
  refine G.iload_n C 1 dX6_isPhase_7 rfl rfl ?_
  refine G.iadd C dX6_isPhase_8 ?_
  refine G.iald C hf dX6_isPhase_9 (fun v2 hv2 hf => ?_)
  try dsimp only at hf
  refine G.iconst (v := 1) C dX6_isPhase_10 (by decide) ?_
  refine G.isub C dX6_isPhase_11 ?_
  obtain ⟨v3, hv3, hf⟩ := bind_some hf
  try dsimp only at hf
  refine G.callS C (st := []) (st2 := [.int (v3)]) (ct_X6_in hv3) m9_144 m9_145 m9_5 m9_146 kd_X6_in ⟨Nat.le_of_ble_eq_true rfl, Nat.le_of_ble_eq_true rfl⟩ ⟨Nat.zero_le _, Nat.zero_le _⟩ (Nat.le_of_ble_eq_true rfl) rfl rfl dX6_isPhase_12 ?_
  obtain ⟨c4, hf⟩ := gd_ok hf
  cases hf
  exact G.zret C rfl (z01_n c4) dX6_isPhase_15
theorem kd_X6_of : yX6_of.cls ≠ "java/lang/invoke/MethodHandle" ∧ yX6_of.cls ≠ "java/lang/invoke/VarHandle" ∧ (parseMethodDescriptor yX6_of.desc).map (fun d => d.parameters.length) = some 2 := by decide +kernel
set_option maxRecDepth 20000 in
set_option maxHeartbeats 4000000 in
theorem ct_X6_of {l : Launch} {h : PH} {a0 : Int32} {a1 : Int32} {r : Int32} (hf : f_X6_of h a0 a1 = some r) : CT l yX6_of cX6_of 2 (some .int) 0 0 [.int (a0), .int (a1)] h (some (.int r)) h := by
  refine CT.of (own := RX6) rfl (by decide) (Nat.le_of_ble_eq_true rfl) ?_
  intro p e R s m args below meth c g X hR C
  subst hR
  unfold f_X6_of at hf
  refine G.sub C [0, 1] (lv' := [(0, .int (a0)), (1, .int (a1))]) rfl ?_
  refine G.bipush (v := 12) C dX6_of_0 (by decide) ?_
  refine G.bipush (v := 18) C dX6_of_2 (by decide) ?_
  refine G.iload_n C 0 dX6_of_4 rfl rfl ?_
  refine G.imul C dX6_of_5 ?_
  refine G.iadd C dX6_of_6 ?_
  refine G.iload_n C 1 dX6_of_7 rfl rfl ?_
  refine G.iadd C dX6_of_8 ?_
  cases hf
  exact G.iret C rfl dX6_of_9
theorem ko_X6_phaseOf {h : PH} {a0 : Nat} {a1 : Int32} {a2 : Int32} {r : Int32} (hf : f_X6_phaseOf h a0 a1 a2 = some r) : kO h a0 5 := by
  unfold f_X6_phaseOf at hf
  exact okO_k (gd_ok hf).1
theorem kd_X6_phaseOf : yX6_phaseOf.cls = RX6 ∧ yX6_phaseOf.cls ≠ "java/lang/invoke/MethodHandle" ∧ yX6_phaseOf.cls ≠ "java/lang/invoke/VarHandle" ∧ (parseMethodDescriptor yX6_phaseOf.desc).map (fun d => d.parameters.length) = some 2 := by decide +kernel
set_option maxRecDepth 20000 in
set_option maxHeartbeats 4000000 in
theorem ct_X6_phaseOf {l : Launch} {h : PH} {a0 : Nat} {a1 : Int32} {a2 : Int32} {r : Int32} (hf : f_X6_phaseOf h a0 a1 a2 = some r) : CT l yX6_phaseOf cX6_phaseOf 3 (some .int) 1 21 [.ref (a0), .int (a1), .int (a2)] h (some (.int r)) h := by
  refine CT.of (own := RX6) rfl (by decide) (Nat.le_of_ble_eq_true rfl) ?_
  intro p e R s m args below meth c g X hR C
  subst hR
  unfold f_X6_phaseOf at hf
  obtain ⟨hok, hf⟩ := gd_ok hf
  refine G.sub C [0, 1, 2] (lv' := [(0, .ref (a0)), (1, .int (a1)), (2, .int (a2))]) rfl ?_
  refine G.aload_n C 0 dX6_phaseOf_0 rfl rfl ?_
  refine G.getR (ci := 5) (k := 1) C rfl inlX6 (by decide) m9_70 rfl hf dX6_phaseOf_1 (fun v1 hv1 hf => ?_)
  try dsimp only at hf
  refine G.iload_n C 1 dX6_phaseOf_4 rfl rfl ?_
  refine G.bipush (v := 10) C dX6_phaseOf_5 (by decide) ?_
  refine G.iload_n C 2 dX6_phaseOf_7 rfl rfl ?_
  refine G.iadd C dX6_phaseOf_8 ?_
  obtain ⟨v2, hv2, hf⟩ := bind_some hf
  try dsimp only at hf
  refine G.callS C (st := [.ref (v1)]) (st2 := [.int (v2), .ref (v1)]) (ct_X6_of hv2) m9_159 m9_160 m9_5 m9_161 kd_X6_of ⟨Nat.le_of_ble_eq_true rfl, Nat.le_of_ble_eq_true rfl⟩ ⟨Nat.zero_le _, Nat.zero_le _⟩ (Nat.le_of_ble_eq_true rfl) rfl rfl dX6_phaseOf_9 ?_
  refine G.iald C hf dX6_phaseOf_12 (fun v3 hv3 hf => ?_)
  try dsimp only at hf
  cases hf
  exact G.iret C rfl dX6_phaseOf_13
theorem ko_X6_isLaid {h : PH} {a0 : Nat} {a1 : Int32} {a2 : Int32} {r : Int32} (hf : f_X6_isLaid h a0 a1 a2 = some r) : kO h a0 5 := by
  unfold f_X6_isLaid at hf
  exact okO_k (gd_ok hf).1
theorem kd_X6_isLaid : yX6_isLaid.cls = RX6 ∧ yX6_isLaid.cls ≠ "java/lang/invoke/MethodHandle" ∧ yX6_isLaid.cls ≠ "java/lang/invoke/VarHandle" ∧ (parseMethodDescriptor yX6_isLaid.desc).map (fun d => d.parameters.length) = some 2 := by decide +kernel
set_option maxRecDepth 20000 in
set_option maxHeartbeats 4000000 in
theorem ct_X6_isLaid {l : Launch} {h : PH} {a0 : Nat} {a1 : Int32} {a2 : Int32} {r : Int32} (hf : f_X6_isLaid h a0 a1 a2 = some r) : CT l yX6_isLaid cX6_isLaid 3 (some .boolean) 2 43 [.ref (a0), .int (a1), .int (a2)] h (some (.int r)) h := by
  refine CT.of (own := RX6) rfl (by decide) (Nat.le_of_ble_eq_true rfl) ?_
  intro p e R s m args below meth c g X hR C
  subst hR
  unfold f_X6_isLaid at hf
  obtain ⟨hok, hf⟩ := gd_ok hf
  have hj14 : ∀ (k0 : Int32), f_X6_isLaid_J14 h k0 = some r → G p l e ({ frames := 2, cells := 0, slots := 0, locals := 43 } : Room) s m args below meth c 3 g X h 0 0 (MQ below (QW g X h s.heap.size (some (.int r)) h) args s 0 0 (AF X h s.heap.size)) 14 [] [.int (k0)] h := by
    intro k0 hf
    unfold f_X6_isLaid_J14 at hf
    obtain ⟨c3, hf⟩ := gd_ok hf
    cases hf
    exact G.zret C rfl (z01_n c3) dX6_isLaid_14
  refine G.sub C [0, 1, 2] (lv' := [(0, .ref (a0)), (1, .int (a1)), (2, .int (a2))]) rfl ?_
  refine G.aload_n C 0 dX6_isLaid_0 rfl rfl ?_
  refine G.iload_n C 1 dX6_isLaid_1 rfl rfl ?_
  refine G.iload_n C 2 dX6_isLaid_2 rfl rfl ?_
  obtain ⟨v1, hv1, hf⟩ := bind_some hf
  try dsimp only at hf
  refine G.callV C (st := []) (st2 := [.int (v1)]) (ct_X6_phaseOf hv1) (ko_X6_phaseOf hv1) rfl m9_155 m9_156 m9_157 m9_5 m9_158 kd_X6_phaseOf ⟨Nat.le_of_ble_eq_true rfl, Nat.le_of_ble_eq_true rfl⟩ ⟨Nat.zero_le _, Nat.zero_le _⟩ (Nat.le_of_ble_eq_true rfl) rfl rfl dX6_isLaid_3 ?_
  refine G.if_lt (tgt := 13) C dX6_isLaid_6 (by decide) hf (fun c2 hf => ?_) (fun c2 hf => ?_)
  · refine G.iconst (v := 0) C dX6_isLaid_13 (by decide) ?_
    refine G.sub C [] (lv' := []) rfl ?_
    exact hj14 _ hf
  · refine G.iconst (v := 1) C dX6_isLaid_9 (by decide) ?_
    refine G.goto (tgt := 14) C dX6_isLaid_10 (by decide) ?_
    refine G.sub C [] (lv' := []) rfl ?_
    exact hj14 _ hf
theorem ko_X6_save {h : PH} {a0 : Nat} {r : PH} (hf : f_X6_save h a0 = some r) : kO h a0 5 := by
  unfold f_X6_save at hf
  exact okO_k (gd_ok hf).1
theorem kd_X6_save : yX6_save.cls = RX6 ∧ yX6_save.cls ≠ "java/lang/invoke/MethodHandle" ∧ yX6_save.cls ≠ "java/lang/invoke/VarHandle" ∧ (parseMethodDescriptor yX6_save.desc).map (fun d => d.parameters.length) = some 0 := by decide +kernel
set_option maxRecDepth 20000 in
set_option maxHeartbeats 4000000 in
theorem ct_X6_save {l : Launch} {h : PH} {a0 : Nat} {r : PH} (hf : f_X6_save h a0 = some r) : CT l yX6_save cX6_save 2 none 0 0 [.ref (a0)] h none r := by
  refine CT.of (own := RX6) rfl (by decide) (Nat.le_of_ble_eq_true rfl) ?_
  intro p e R s m args below meth c g X hR C
  subst hR
  unfold f_X6_save at hf
  obtain ⟨hok, hf⟩ := gd_ok hf
  have hj83 : ∀ (hh : PH) (x0 : Nat), f_X6_save_J83 hh (x0) = some r → G p l e ({ frames := 0, cells := 0, slots := 0, locals := 0 } : Room) s m args below meth c 2 g X h 0 0 (MQ below (QW g X h s.heap.size none r) args s 0 0 (AF X h s.heap.size)) 83 [(0, .ref (x0))] [] hh := by
    intro hh x0 hf
    unfold f_X6_save_J83 at hf
    refine G.aload_n C 0 dX6_save_83 rfl rfl ?_
    refine G.dup C dX6_save_84 rfl ?_
    refine G.getI (ci := 5) (k := 6) C rfl inlX6 (by decide) m9_171 rfl hf dX6_save_85 (fun v17 hv17 hf => ?_)
    try dsimp only at hf
    refine G.iconst (v := 1) C dX6_save_88 (by decide) ?_
    refine G.iadd C dX6_save_89 ?_
    refine G.put (ci := 5) (k := 6) C rfl inlX6 (by decide) m9_171 rfl tyX6 tyX6_ok nmX6 rfl rfl rfl hf dX6_save_90 (fun h18 hh18 hf => ?_)
    try dsimp only at hf
    cases hf
    exact G.vret C rfl dX6_save_93
  have hj49 : ∀ (hh : PH) (x0 : Nat), f_X6_save_J49 hh (x0) = some r → G p l e ({ frames := 0, cells := 0, slots := 0, locals := 0 } : Room) s m args below meth c 2 g X h 0 0 (MQ below (QW g X h s.heap.size none r) args s 0 0 (AF X h s.heap.size)) 49 [(0, .ref (x0))] [] hh := by
    intro hh x0 hf
    unfold f_X6_save_J49 at hf
    refine G.iconst (v := 0) C dX6_save_49 (by decide) ?_
    refine G.istore_n (lv' := [(1, .int ((0 : Int32))), (0, .ref (x0))]) C dX6_save_50 rfl (by decide) rfl ?_
    obtain ⟨z19, hlp19, hfo19⟩ := bind_some hf
    clear hf
    have hloop19 : ∀ (k : Nat), ∀ (x1 : Int32) (hh : PH), (lpn (f_X6_save_L51 (x0)) k (x1, hh)) = some z19 → G p l e ({ frames := 0, cells := 0, slots := 0, locals := 0 } : Room) s m args below meth c 2 g X h 0 0 (MQ below (QW g X h s.heap.size none r) args s 0 0 (AF X h s.heap.size)) 51 [(0, .ref (x0)), (1, .int (x1))] [] hh := by
      intro k
      induction k with
      | zero => intro x1 hh hlp19; exact (lpn_0 hlp19).elim
      | succ k ih19 =>
        intro x1 hh hlp19
        obtain ⟨y19, hf, hlp19⟩ := lpn_s hlp19
        unfold f_X6_save_L51 at hf
        try dsimp only at hf
        refine G.iload_n C 1 dX6_save_51 rfl rfl ?_
        refine G.bipush (v := 84) C dX6_save_52 (by decide) ?_
        refine G.icmp_ge (tgt := 83) C dX6_save_54 (by decide) hf (fun c25 hf => ?_) (fun c25 hf => ?_)
        · cases hf
          change some _ = some _ at hlp19
          have hf := hfo19
          try rw [← Option.some.inj hlp19] at hf
          try dsimp only at hf
          refine G.sub C [0] (lv' := [(0, .ref (x0))]) rfl ?_
          exact hj83 _ _ hf
        · refine G.aload_n C 0 dX6_save_57 rfl rfl ?_
          refine G.getR (ci := 5) (k := 5) C rfl inlX6 (by decide) m9_73 rfl hf dX6_save_58 (fun v20 hv20 hf => ?_)
          try dsimp only at hf
          refine G.bipush (v := 84) C dX6_save_61 (by decide) ?_
          refine G.aload_n C 0 dX6_save_63 rfl rfl ?_
          refine G.getI (ci := 5) (k := 6) C rfl inlX6 (by decide) m9_171 rfl hf dX6_save_64 (fun v21 hv21 hf => ?_)
          try dsimp only at hf
          refine G.imul C dX6_save_67 ?_
          refine G.iload_n C 1 dX6_save_68 rfl rfl ?_
          refine G.iadd C dX6_save_69 ?_
          refine G.aload_n C 0 dX6_save_70 rfl rfl ?_
          refine G.getR (ci := 5) (k := 1) C rfl inlX6 (by decide) m9_70 rfl hf dX6_save_71 (fun v22 hv22 hf => ?_)
          try dsimp only at hf
          refine G.iload_n C 1 dX6_save_74 rfl rfl ?_
          refine G.iald C hf dX6_save_75 (fun v23 hv23 hf => ?_)
          try dsimp only at hf
          refine G.iast C hf dX6_save_76 (fun h24 hh24 hf => ?_)
          try dsimp only at hf
          refine G.iinc (k := 1) (v := (x1 + 1)) (lv' := [(1, .int ((x1 + 1))), (0, .ref (x0))]) C dX6_save_77 rfl rfl (by decide) rfl ?_
          refine G.goto (tgt := 51) C dX6_save_80 (by decide) ?_
          cases hf
          refine G.sub C [1, 0] (lv' := [(0, .ref (x0)), (1, .int ((x1 + 1)))]) rfl ?_
          exact ih19 _ _ hlp19
    refine G.sub C [1, 0] (lv' := [(0, .ref (x0)), (1, .int ((0 : Int32)))]) rfl ?_
    exact hloop19 LF _ _ hlp19
  have hj39 : ∀ (hh : PH) (x0 : Nat), f_X6_save_J39 hh (x0) = some r → G p l e ({ frames := 0, cells := 0, slots := 0, locals := 0 } : Room) s m args below meth c 2 g X h 0 0 (MQ below (QW g X h s.heap.size none r) args s 0 0 (AF X h s.heap.size)) 39 [(0, .ref (x0))] [] hh := by
    intro hh x0 hf
    unfold f_X6_save_J39 at hf
    refine G.aload_n C 0 dX6_save_39 rfl rfl ?_
    refine G.dup C dX6_save_40 rfl ?_
    refine G.getI (ci := 5) (k := 6) C rfl inlX6 (by decide) m9_171 rfl hf dX6_save_41 (fun v26 hv26 hf => ?_)
    try dsimp only at hf
    refine G.iconst (v := 1) C dX6_save_44 (by decide) ?_
    refine G.isub C dX6_save_45 ?_
    refine G.put (ci := 5) (k := 6) C rfl inlX6 (by decide) m9_171 rfl tyX6 tyX6_ok nmX6 rfl rfl rfl hf dX6_save_46 (fun h27 hh27 hf => ?_)
    try dsimp only at hf
    refine G.sub C [0] (lv' := [(0, .ref (x0))]) rfl ?_
    exact hj49 _ _ hf
  refine G.sub C [0] (lv' := [(0, .ref (a0))]) rfl ?_
  refine G.aload_n C 0 dX6_save_0 rfl rfl ?_
  refine G.getI (ci := 5) (k := 6) C rfl inlX6 (by decide) m9_171 rfl hf dX6_save_1 (fun v1 hv1 hf => ?_)
  try dsimp only at hf
  refine G.bipush (v := 6) C dX6_save_4 (by decide) ?_
  refine G.icmp_ne (tgt := 49) C dX6_save_6 (by decide) hf (fun c8 hf => ?_) (fun c8 hf => ?_)
  · refine G.sub C [0] (lv' := [(0, .ref (a0))]) rfl ?_
    exact hj49 _ _ hf
  · refine G.iconst (v := 0) C dX6_save_9 (by decide) ?_
    refine G.istore_n (lv' := [(1, .int ((0 : Int32))), (0, .ref (a0))]) C dX6_save_10 rfl (by decide) rfl ?_
    obtain ⟨z2, hlp2, hfo2⟩ := bind_some hf
    clear hf
    have hloop2 : ∀ (k : Nat), ∀ (x1 : Int32) (hh : PH), (lpn (f_X6_save_L11 (a0)) k (x1, hh)) = some z2 → G p l e ({ frames := 0, cells := 0, slots := 0, locals := 0 } : Room) s m args below meth c 2 g X h 0 0 (MQ below (QW g X h s.heap.size none r) args s 0 0 (AF X h s.heap.size)) 11 [(0, .ref (a0)), (1, .int (x1))] [] hh := by
      intro k
      induction k with
      | zero => intro x1 hh hlp2; exact (lpn_0 hlp2).elim
      | succ k ih2 =>
        intro x1 hh hlp2
        obtain ⟨y2, hf, hlp2⟩ := lpn_s hlp2
        unfold f_X6_save_L11 at hf
        try dsimp only at hf
        refine G.iload_n C 1 dX6_save_11 rfl rfl ?_
        refine G.sipush (v := 420) C dX6_save_12 (by decide) ?_
        refine G.icmp_ge (tgt := 39) C dX6_save_15 (by decide) hf (fun c7 hf => ?_) (fun c7 hf => ?_)
        · cases hf
          change some _ = some _ at hlp2
          have hf := hfo2
          try rw [← Option.some.inj hlp2] at hf
          try dsimp only at hf
          refine G.sub C [0] (lv' := [(0, .ref (a0))]) rfl ?_
          exact hj39 _ _ hf
        · refine G.aload_n C 0 dX6_save_18 rfl rfl ?_
          refine G.getR (ci := 5) (k := 5) C rfl inlX6 (by decide) m9_73 rfl hf dX6_save_19 (fun v3 hv3 hf => ?_)
          try dsimp only at hf
          refine G.iload_n C 1 dX6_save_22 rfl rfl ?_
          refine G.aload_n C 0 dX6_save_23 rfl rfl ?_
          refine G.getR (ci := 5) (k := 5) C rfl inlX6 (by decide) m9_73 rfl hf dX6_save_24 (fun v4 hv4 hf => ?_)
          try dsimp only at hf
          refine G.bipush (v := 84) C dX6_save_27 (by decide) ?_
          refine G.iload_n C 1 dX6_save_29 rfl rfl ?_
          refine G.iadd C dX6_save_30 ?_
          refine G.iald C hf dX6_save_31 (fun v5 hv5 hf => ?_)
          try dsimp only at hf
          refine G.iast C hf dX6_save_32 (fun h6 hh6 hf => ?_)
          try dsimp only at hf
          refine G.iinc (k := 1) (v := (x1 + 1)) (lv' := [(1, .int ((x1 + 1))), (0, .ref (a0))]) C dX6_save_33 rfl rfl (by decide) rfl ?_
          refine G.goto (tgt := 11) C dX6_save_36 (by decide) ?_
          cases hf
          refine G.sub C [1, 0] (lv' := [(0, .ref (a0)), (1, .int ((x1 + 1)))]) rfl ?_
          exact ih2 _ _ hlp2
    refine G.sub C [1, 0] (lv' := [(0, .ref (a0)), (1, .int ((0 : Int32)))]) rfl ?_
    exact hloop2 LF _ _ hlp2
theorem ko_X6_putAside {h : PH} {a0 : Nat} {r : PH} (hf : f_X6_putAside h a0 = some r) : kO h a0 5 := by
  unfold f_X6_putAside at hf
  exact okO_k (gd_ok hf).1
theorem kd_X6_putAside : yX6_putAside.cls = RX6 ∧ yX6_putAside.cls ≠ "java/lang/invoke/MethodHandle" ∧ yX6_putAside.cls ≠ "java/lang/invoke/VarHandle" ∧ (parseMethodDescriptor yX6_putAside.desc).map (fun d => d.parameters.length) = some 0 := by decide +kernel
set_option maxRecDepth 20000 in
set_option maxHeartbeats 4000000 in
theorem ct_X6_putAside {l : Launch} {h : PH} {a0 : Nat} {r : PH} (hf : f_X6_putAside h a0 = some r) : CT l yX6_putAside cX6_putAside 2 none 0 0 [.ref (a0)] h none r := by
  refine CT.of (own := RX6) rfl (by decide) (Nat.le_of_ble_eq_true rfl) ?_
  intro p e R s m args below meth c g X hR C
  subst hR
  unfold f_X6_putAside at hf
  obtain ⟨hok, hf⟩ := gd_ok hf
  have hj26 : ∀ (hh : PH), f_X6_putAside_J26 hh = some r → G p l e ({ frames := 0, cells := 0, slots := 0, locals := 0 } : Room) s m args below meth c 2 g X h 0 0 (MQ below (QW g X h s.heap.size none r) args s 0 0 (AF X h s.heap.size)) 26 [] [] hh := by
    intro hh hf
    unfold f_X6_putAside_J26 at hf
    cases hf
    exact G.vret C rfl dX6_putAside_26
  refine G.sub C [0] (lv' := [(0, .ref (a0))]) rfl ?_
  refine G.iconst (v := 0) C dX6_putAside_0 (by decide) ?_
  refine G.istore_n (lv' := [(1, .int ((0 : Int32))), (0, .ref (a0))]) C dX6_putAside_1 rfl (by decide) rfl ?_
  obtain ⟨z1, hlp1, hfo1⟩ := bind_some hf
  clear hf
  have hloop1 : ∀ (k : Nat), ∀ (x1 : Int32) (hh : PH), (lpn (f_X6_putAside_L2 (a0)) k (x1, hh)) = some z1 → G p l e ({ frames := 0, cells := 0, slots := 0, locals := 0 } : Room) s m args below meth c 2 g X h 0 0 (MQ below (QW g X h s.heap.size none r) args s 0 0 (AF X h s.heap.size)) 2 [(0, .ref (a0)), (1, .int (x1))] [] hh := by
    intro k
    induction k with
    | zero => intro x1 hh hlp1; exact (lpn_0 hlp1).elim
    | succ k ih1 =>
      intro x1 hh hlp1
      obtain ⟨y1, hf, hlp1⟩ := lpn_s hlp1
      unfold f_X6_putAside_L2 at hf
      try dsimp only at hf
      refine G.iload_n C 1 dX6_putAside_2 rfl rfl ?_
      refine G.bipush (v := 84) C dX6_putAside_3 (by decide) ?_
      refine G.icmp_ge (tgt := 26) C dX6_putAside_5 (by decide) hf (fun c6 hf => ?_) (fun c6 hf => ?_)
      · cases hf
        change some _ = some _ at hlp1
        have hf := hfo1
        try rw [← Option.some.inj hlp1] at hf
        try dsimp only at hf
        refine G.sub C [] (lv' := []) rfl ?_
        exact hj26 _ hf
      · refine G.aload_n C 0 dX6_putAside_8 rfl rfl ?_
        refine G.getR (ci := 5) (k := 2) C rfl inlX6 (by decide) m9_71 rfl hf dX6_putAside_9 (fun v2 hv2 hf => ?_)
        try dsimp only at hf
        refine G.iload_n C 1 dX6_putAside_12 rfl rfl ?_
        refine G.aload_n C 0 dX6_putAside_13 rfl rfl ?_
        refine G.getR (ci := 5) (k := 1) C rfl inlX6 (by decide) m9_70 rfl hf dX6_putAside_14 (fun v3 hv3 hf => ?_)
        try dsimp only at hf
        refine G.iload_n C 1 dX6_putAside_17 rfl rfl ?_
        refine G.iald C hf dX6_putAside_18 (fun v4 hv4 hf => ?_)
        try dsimp only at hf
        refine G.iast C hf dX6_putAside_19 (fun h5 hh5 hf => ?_)
        try dsimp only at hf
        refine G.iinc (k := 1) (v := (x1 + 1)) (lv' := [(1, .int ((x1 + 1))), (0, .ref (a0))]) C dX6_putAside_20 rfl rfl (by decide) rfl ?_
        refine G.goto (tgt := 2) C dX6_putAside_23 (by decide) ?_
        cases hf
        refine G.sub C [1, 0] (lv' := [(0, .ref (a0)), (1, .int ((x1 + 1)))]) rfl ?_
        exact ih1 _ _ hlp1
  refine G.sub C [1, 0] (lv' := [(0, .ref (a0)), (1, .int ((0 : Int32)))]) rfl ?_
  exact hloop1 LF _ _ hlp1
theorem ko_X6_putBack {h : PH} {a0 : Nat} {r : PH} (hf : f_X6_putBack h a0 = some r) : kO h a0 5 := by
  unfold f_X6_putBack at hf
  exact okO_k (gd_ok hf).1
theorem kd_X6_putBack : yX6_putBack.cls = RX6 ∧ yX6_putBack.cls ≠ "java/lang/invoke/MethodHandle" ∧ yX6_putBack.cls ≠ "java/lang/invoke/VarHandle" ∧ (parseMethodDescriptor yX6_putBack.desc).map (fun d => d.parameters.length) = some 0 := by decide +kernel
set_option maxRecDepth 20000 in
set_option maxHeartbeats 4000000 in
theorem ct_X6_putBack {l : Launch} {h : PH} {a0 : Nat} {r : PH} (hf : f_X6_putBack h a0 = some r) : CT l yX6_putBack cX6_putBack 2 none 0 0 [.ref (a0)] h none r := by
  refine CT.of (own := RX6) rfl (by decide) (Nat.le_of_ble_eq_true rfl) ?_
  intro p e R s m args below meth c g X hR C
  subst hR
  unfold f_X6_putBack at hf
  obtain ⟨hok, hf⟩ := gd_ok hf
  have hj26 : ∀ (hh : PH), f_X6_putBack_J26 hh = some r → G p l e ({ frames := 0, cells := 0, slots := 0, locals := 0 } : Room) s m args below meth c 2 g X h 0 0 (MQ below (QW g X h s.heap.size none r) args s 0 0 (AF X h s.heap.size)) 26 [] [] hh := by
    intro hh hf
    unfold f_X6_putBack_J26 at hf
    cases hf
    exact G.vret C rfl dX6_putBack_26
  refine G.sub C [0] (lv' := [(0, .ref (a0))]) rfl ?_
  refine G.iconst (v := 0) C dX6_putBack_0 (by decide) ?_
  refine G.istore_n (lv' := [(1, .int ((0 : Int32))), (0, .ref (a0))]) C dX6_putBack_1 rfl (by decide) rfl ?_
  obtain ⟨z1, hlp1, hfo1⟩ := bind_some hf
  clear hf
  have hloop1 : ∀ (k : Nat), ∀ (x1 : Int32) (hh : PH), (lpn (f_X6_putBack_L2 (a0)) k (x1, hh)) = some z1 → G p l e ({ frames := 0, cells := 0, slots := 0, locals := 0 } : Room) s m args below meth c 2 g X h 0 0 (MQ below (QW g X h s.heap.size none r) args s 0 0 (AF X h s.heap.size)) 2 [(0, .ref (a0)), (1, .int (x1))] [] hh := by
    intro k
    induction k with
    | zero => intro x1 hh hlp1; exact (lpn_0 hlp1).elim
    | succ k ih1 =>
      intro x1 hh hlp1
      obtain ⟨y1, hf, hlp1⟩ := lpn_s hlp1
      unfold f_X6_putBack_L2 at hf
      try dsimp only at hf
      refine G.iload_n C 1 dX6_putBack_2 rfl rfl ?_
      refine G.bipush (v := 84) C dX6_putBack_3 (by decide) ?_
      refine G.icmp_ge (tgt := 26) C dX6_putBack_5 (by decide) hf (fun c6 hf => ?_) (fun c6 hf => ?_)
      · cases hf
        change some _ = some _ at hlp1
        have hf := hfo1
        try rw [← Option.some.inj hlp1] at hf
        try dsimp only at hf
        refine G.sub C [] (lv' := []) rfl ?_
        exact hj26 _ hf
      · refine G.aload_n C 0 dX6_putBack_8 rfl rfl ?_
        refine G.getR (ci := 5) (k := 1) C rfl inlX6 (by decide) m9_70 rfl hf dX6_putBack_9 (fun v2 hv2 hf => ?_)
        try dsimp only at hf
        refine G.iload_n C 1 dX6_putBack_12 rfl rfl ?_
        refine G.aload_n C 0 dX6_putBack_13 rfl rfl ?_
        refine G.getR (ci := 5) (k := 2) C rfl inlX6 (by decide) m9_71 rfl hf dX6_putBack_14 (fun v3 hv3 hf => ?_)
        try dsimp only at hf
        refine G.iload_n C 1 dX6_putBack_17 rfl rfl ?_
        refine G.iald C hf dX6_putBack_18 (fun v4 hv4 hf => ?_)
        try dsimp only at hf
        refine G.iast C hf dX6_putBack_19 (fun h5 hh5 hf => ?_)
        try dsimp only at hf
        refine G.iinc (k := 1) (v := (x1 + 1)) (lv' := [(1, .int ((x1 + 1))), (0, .ref (a0))]) C dX6_putBack_20 rfl rfl (by decide) rfl ?_
        refine G.goto (tgt := 2) C dX6_putBack_23 (by decide) ?_
        cases hf
        refine G.sub C [1, 0] (lv' := [(0, .ref (a0)), (1, .int ((x1 + 1)))]) rfl ?_
        exact ih1 _ _ hlp1
  refine G.sub C [1, 0] (lv' := [(0, .ref (a0)), (1, .int ((0 : Int32)))]) rfl ?_
  exact hloop1 LF _ _ hlp1
theorem ko_X6_takes {h : PH} {a0 : Nat} {a1 : Int32} {a2 : Int32} {a3 : Int32} {r : Int32} (hf : f_X6_takes h a0 a1 a2 a3 = some r) : kO h a0 5 := by
  unfold f_X6_takes at hf
  exact okO_k (gd_ok hf).1
theorem kd_X6_takes : yX6_takes.cls = RX6 ∧ yX6_takes.cls ≠ "java/lang/invoke/MethodHandle" ∧ yX6_takes.cls ≠ "java/lang/invoke/VarHandle" ∧ (parseMethodDescriptor yX6_takes.desc).map (fun d => d.parameters.length) = some 3 := by decide +kernel
set_option maxRecDepth 20000 in
set_option maxHeartbeats 4000000 in
theorem ct_X6_takes {l : Launch} {h : PH} {a0 : Nat} {a1 : Int32} {a2 : Int32} {a3 : Int32} {r : Int32} (hf : f_X6_takes h a0 a1 a2 a3 = some r) : CT l yX6_takes cX6_takes 5 (some .boolean) 2 43 [.ref (a0), .int (a1), .int (a2), .int (a3)] h (some (.int r)) h := by
  refine CT.of (own := RX6) rfl (by decide) (Nat.le_of_ble_eq_true rfl) ?_
  intro p e R s m args below meth c g X hR C
  subst hR
  unfold f_X6_takes at hf
  obtain ⟨hok, hf⟩ := gd_ok hf
  have hj40 : ∀ (k0 : Int32), f_X6_takes_J40 h k0 = some r → G p l e ({ frames := 2, cells := 0, slots := 0, locals := 43 } : Room) s m args below meth c 5 g X h 0 0 (MQ below (QW g X h s.heap.size (some (.int r)) h) args s 0 0 (AF X h s.heap.size)) 40 [] [.int (k0)] h := by
    intro k0 hf
    unfold f_X6_takes_J40 at hf
    obtain ⟨c6, hf⟩ := gd_ok hf
    cases hf
    exact G.zret C rfl (z01_n c6) dX6_takes_40
  have hj39 : f_X6_takes_J39 h = some r → G p l e ({ frames := 2, cells := 0, slots := 0, locals := 43 } : Room) s m args below meth c 5 g X h 0 0 (MQ below (QW g X h s.heap.size (some (.int r)) h) args s 0 0 (AF X h s.heap.size)) 39 [] [] h := by
    intro hf
    unfold f_X6_takes_J39 at hf
    refine G.iconst (v := 0) C dX6_takes_39 (by decide) ?_
    refine G.sub C [] (lv' := []) rfl ?_
    exact hj40 _ hf
  refine G.sub C [0, 1, 2, 3] (lv' := [(0, .ref (a0)), (1, .int (a1)), (2, .int (a2)), (3, .int (a3))]) rfl ?_
  refine G.aload_n C 0 dX6_takes_0 rfl rfl ?_
  refine G.iload_n C 1 dX6_takes_1 rfl rfl ?_
  refine G.iload_n C 2 dX6_takes_2 rfl rfl ?_
  obtain ⟨v1, hv1, hf⟩ := bind_some hf
  try dsimp only at hf
  refine G.callV C (st := []) (st2 := [.int (v1)]) (ct_X6_phaseOf hv1) (ko_X6_phaseOf hv1) rfl m9_155 m9_156 m9_157 m9_5 m9_158 kd_X6_phaseOf ⟨Nat.le_of_ble_eq_true rfl, Nat.le_of_ble_eq_true rfl⟩ ⟨Nat.zero_le _, Nat.zero_le _⟩ (Nat.le_of_ble_eq_true rfl) rfl rfl dX6_takes_3 ?_
  refine G.istore (lv' := [(4, .int (v1)), (0, .ref (a0)), (1, .int (a1)), (2, .int (a2)), (3, .int (a3))]) C dX6_takes_6 (by decide) rfl ?_
  refine G.iload C 0 dX6_takes_8 rfl ?_
  refine G.if_lt (tgt := 39) C dX6_takes_10 (by decide) hf (fun c7 hf => ?_) (fun c7 hf => ?_)
  · refine G.sub C [] (lv' := []) rfl ?_
    exact hj39  hf
  · refine G.iload_n C 4 dX6_takes_13 rfl rfl ?_
    refine G.iload C 0 dX6_takes_14 rfl ?_
    refine G.icmp_lt (tgt := 39) C dX6_takes_16 (by decide) hf (fun c6 hf => ?_) (fun c6 hf => ?_)
    · refine G.sub C [] (lv' := []) rfl ?_
      exact hj39  hf
    · refine G.iload_n C 4 dX6_takes_19 rfl rfl ?_
      refine G.iload C 0 dX6_takes_20 rfl ?_
      refine G.isub C dX6_takes_22 ?_
      refine G.aload_n C 1 dX6_takes_23 rfl rfl ?_
      refine G.getR (ci := 5) (k := 1) C rfl inlX6 (by decide) m9_70 rfl hf dX6_takes_24 (fun v2 hv2 hf => ?_)
      try dsimp only at hf
      refine G.iconst (v := 0) C dX6_takes_27 (by decide) ?_
      refine G.iload_n C 3 dX6_takes_28 rfl rfl ?_
      refine G.iadd C dX6_takes_29 ?_
      refine G.iald C hf dX6_takes_30 (fun v3 hv3 hf => ?_)
      try dsimp only at hf
      obtain ⟨c4, hf⟩ := gd_ok hf
      refine G.irem C dX6_takes_31 c4 ?_
      refine G.if_ne (tgt := 39) C dX6_takes_32 (by decide) hf (fun c5 hf => ?_) (fun c5 hf => ?_)
      · refine G.sub C [] (lv' := []) rfl ?_
        exact hj39  hf
      · refine G.iconst (v := 1) C dX6_takes_35 (by decide) ?_
        refine G.goto (tgt := 40) C dX6_takes_36 (by decide) ?_
        refine G.sub C [] (lv' := []) rfl ?_
        exact hj40 _ hf
theorem ko_X6_hueAt {h : PH} {a0 : Nat} {a1 : Int32} {a2 : Int32} {r : Int32} (hf : f_X6_hueAt h a0 a1 a2 = some r) : kO h a0 5 := by
  unfold f_X6_hueAt at hf
  exact okO_k (gd_ok hf).1
theorem kd_X6_hueAt : yX6_hueAt.cls = RX6 ∧ yX6_hueAt.cls ≠ "java/lang/invoke/MethodHandle" ∧ yX6_hueAt.cls ≠ "java/lang/invoke/VarHandle" ∧ (parseMethodDescriptor yX6_hueAt.desc).map (fun d => d.parameters.length) = some 2 := by decide +kernel
set_option maxRecDepth 20000 in
set_option maxHeartbeats 4000000 in
theorem ct_X6_hueAt {l : Launch} {h : PH} {a0 : Nat} {a1 : Int32} {a2 : Int32} {r : Int32} (hf : f_X6_hueAt h a0 a1 a2 = some r) : CT l yX6_hueAt cX6_hueAt 5 (some .int) 3 67 [.ref (a0), .int (a1), .int (a2)] h (some (.int r)) h := by
  refine CT.of (own := RX6) rfl (by decide) (Nat.le_of_ble_eq_true rfl) ?_
  intro p e R s m args below meth c g X hR C
  subst hR
  unfold f_X6_hueAt at hf
  obtain ⟨hok, hf⟩ := gd_ok hf
  have hj36 : ∀ (x3 : Int32), f_X6_hueAt_J36 h (x3) = some r → G p l e ({ frames := 3, cells := 0, slots := 0, locals := 67 } : Room) s m args below meth c 5 g X h 0 0 (MQ below (QW g X h s.heap.size (some (.int r)) h) args s 0 0 (AF X h s.heap.size)) 36 [(3, .int (x3))] [] h := by
    intro x3 hf
    unfold f_X6_hueAt_J36 at hf
    refine G.iload_n C 0 dX6_hueAt_36 rfl rfl ?_
    cases hf
    exact G.iret C rfl dX6_hueAt_37
  refine G.sub C [0, 1, 2] (lv' := [(0, .ref (a0)), (1, .int (a1)), (2, .int (a2))]) rfl ?_
  refine G.iconst (v := (-1)) C dX6_hueAt_0 (by decide) ?_
  refine G.istore_n (lv' := [(3, .int (((-1) : Int32))), (0, .ref (a0)), (1, .int (a1)), (2, .int (a2))]) C dX6_hueAt_1 rfl (by decide) rfl ?_
  refine G.iconst (v := 0) C dX6_hueAt_2 (by decide) ?_
  refine G.istore (lv' := [(4, .int ((0 : Int32))), (3, .int (((-1) : Int32))), (0, .ref (a0)), (1, .int (a1)), (2, .int (a2))]) C dX6_hueAt_3 (by decide) rfl ?_
  obtain ⟨z1, hlp1, hfo1⟩ := bind_some hf
  clear hf
  have hloop1 : ∀ (k : Nat), ∀ (x3 : Int32) (x4 : Int32), (lpn (f_X6_hueAt_L5 (h) (a0) (a1) (a2)) k (x3, x4)) = some z1 → G p l e ({ frames := 3, cells := 0, slots := 0, locals := 67 } : Room) s m args below meth c 5 g X h 0 0 (MQ below (QW g X h s.heap.size (some (.int r)) h) args s 0 0 (AF X h s.heap.size)) 5 [(0, .ref (a0)), (1, .int (a1)), (2, .int (a2)), (3, .int (x3)), (4, .int (x4))] [] h := by
    intro k
    induction k with
    | zero => intro x3 x4 hlp1; exact (lpn_0 hlp1).elim
    | succ k ih1 =>
      intro x3 x4 hlp1
      obtain ⟨y1, hf, hlp1⟩ := lpn_s hlp1
      unfold f_X6_hueAt_L5 at hf
      try dsimp only at hf
      have hj29 : ∀ (x4 : Int32) (k0 : Int32), f_X6_hueAt_J29 h (a0) (a1) (a2) (x4) k0 = some y1 → G p l e ({ frames := 3, cells := 0, slots := 0, locals := 67 } : Room) s m args below meth c 5 g X h 0 0 (MQ below (QW g X h s.heap.size (some (.int r)) h) args s 0 0 (AF X h s.heap.size)) 29 [(0, .ref (a0)), (1, .int (a1)), (2, .int (a2)), (4, .int (x4))] [.int (k0)] h := by
        intro x4 k0 hf
        unfold f_X6_hueAt_J29 at hf
        refine G.istore_n (lv' := [(3, .int (k0)), (0, .ref (a0)), (1, .int (a1)), (2, .int (a2)), (4, .int (x4))]) C dX6_hueAt_29 rfl (by decide) rfl ?_
        refine G.iinc (k := 4) (v := (x4 + 1)) (lv' := [(4, .int ((x4 + 1))), (3, .int (k0)), (0, .ref (a0)), (1, .int (a1)), (2, .int (a2))]) C dX6_hueAt_30 rfl rfl (by decide) rfl ?_
        refine G.goto (tgt := 5) C dX6_hueAt_33 (by decide) ?_
        cases hf
        refine G.sub C [2, 3, 4, 1, 0] (lv' := [(0, .ref (a0)), (1, .int (a1)), (2, .int (a2)), (3, .int (k0)), (4, .int ((x4 + 1)))]) rfl ?_
        exact ih1 _ _ hlp1
      refine G.iload C 4 dX6_hueAt_5 rfl ?_
      refine G.bipush (v := 8) C dX6_hueAt_7 (by decide) ?_
      refine G.icmp_ge (tgt := 36) C dX6_hueAt_9 (by decide) hf (fun c4 hf => ?_) (fun c4 hf => ?_)
      · cases hf
        change some _ = some _ at hlp1
        have hf := hfo1
        try rw [← Option.some.inj hlp1] at hf
        try dsimp only at hf
        refine G.sub C [3] (lv' := [(3, .int (x3))]) rfl ?_
        exact hj36 _ hf
      · refine G.aload_n C 0 dX6_hueAt_12 rfl rfl ?_
        refine G.iload_n C 1 dX6_hueAt_13 rfl rfl ?_
        refine G.iload C 4 dX6_hueAt_14 rfl ?_
        refine G.iload_n C 2 dX6_hueAt_16 rfl rfl ?_
        obtain ⟨v2, hv2, hf⟩ := bind_some hf
        try dsimp only at hf
        refine G.callV C (st := []) (st2 := [.int (v2)]) (ct_X6_takes hv2) (ko_X6_takes hv2) rfl m9_303 m9_304 m9_305 m9_5 m9_306 kd_X6_takes ⟨Nat.le_of_ble_eq_true rfl, Nat.le_of_ble_eq_true rfl⟩ ⟨Nat.zero_le _, Nat.zero_le _⟩ (Nat.le_of_ble_eq_true rfl) rfl rfl dX6_hueAt_17 ?_
        refine G.if_eq (tgt := 28) C dX6_hueAt_20 (by decide) hf (fun c3 hf => ?_) (fun c3 hf => ?_)
        · refine G.iload_n C 3 dX6_hueAt_28 rfl rfl ?_
          refine G.sub C [0, 1, 2, 4] (lv' := [(0, .ref (a0)), (1, .int (a1)), (2, .int (a2)), (4, .int (x4))]) rfl ?_
          exact hj29 _ _ hf
        · refine G.iload C 4 dX6_hueAt_23 rfl ?_
          refine G.goto (tgt := 29) C dX6_hueAt_25 (by decide) ?_
          refine G.sub C [0, 1, 2, 4] (lv' := [(0, .ref (a0)), (1, .int (a1)), (2, .int (a2)), (4, .int (x4))]) rfl ?_
          exact hj29 _ _ hf
  refine G.sub C [2, 3, 4, 1, 0] (lv' := [(0, .ref (a0)), (1, .int (a1)), (2, .int (a2)), (3, .int (((-1) : Int32))), (4, .int ((0 : Int32)))]) rfl ?_
  exact hloop1 LF _ _ hlp1
theorem ko_X6_takers {h : PH} {a0 : Nat} {a1 : Int32} {a2 : Int32} {r : Int32} (hf : f_X6_takers h a0 a1 a2 = some r) : kO h a0 5 := by
  unfold f_X6_takers at hf
  exact okO_k (gd_ok hf).1
theorem kd_X6_takers : yX6_takers.cls = RX6 ∧ yX6_takers.cls ≠ "java/lang/invoke/MethodHandle" ∧ yX6_takers.cls ≠ "java/lang/invoke/VarHandle" ∧ (parseMethodDescriptor yX6_takers.desc).map (fun d => d.parameters.length) = some 2 := by decide +kernel
set_option maxRecDepth 20000 in
set_option maxHeartbeats 4000000 in
theorem ct_X6_takers {l : Launch} {h : PH} {a0 : Nat} {a1 : Int32} {a2 : Int32} {r : Int32} (hf : f_X6_takers h a0 a1 a2 = some r) : CT l yX6_takers cX6_takers 5 (some .int) 3 67 [.ref (a0), .int (a1), .int (a2)] h (some (.int r)) h := by
  refine CT.of (own := RX6) rfl (by decide) (Nat.le_of_ble_eq_true rfl) ?_
  intro p e R s m args below meth c g X hR C
  subst hR
  unfold f_X6_takers at hf
  obtain ⟨hok, hf⟩ := gd_ok hf
  have hj37 : ∀ (x3 : Int32), f_X6_takers_J37 h (x3) = some r → G p l e ({ frames := 3, cells := 0, slots := 0, locals := 67 } : Room) s m args below meth c 5 g X h 0 0 (MQ below (QW g X h s.heap.size (some (.int r)) h) args s 0 0 (AF X h s.heap.size)) 37 [(3, .int (x3))] [] h := by
    intro x3 hf
    unfold f_X6_takers_J37 at hf
    refine G.iload_n C 0 dX6_takers_37 rfl rfl ?_
    cases hf
    exact G.iret C rfl dX6_takers_38
  refine G.sub C [0, 1, 2] (lv' := [(0, .ref (a0)), (1, .int (a1)), (2, .int (a2))]) rfl ?_
  refine G.iconst (v := 0) C dX6_takers_0 (by decide) ?_
  refine G.istore_n (lv' := [(3, .int ((0 : Int32))), (0, .ref (a0)), (1, .int (a1)), (2, .int (a2))]) C dX6_takers_1 rfl (by decide) rfl ?_
  refine G.iconst (v := 0) C dX6_takers_2 (by decide) ?_
  refine G.istore (lv' := [(4, .int ((0 : Int32))), (3, .int ((0 : Int32))), (0, .ref (a0)), (1, .int (a1)), (2, .int (a2))]) C dX6_takers_3 (by decide) rfl ?_
  obtain ⟨z1, hlp1, hfo1⟩ := bind_some hf
  clear hf
  have hloop1 : ∀ (k : Nat), ∀ (x3 : Int32) (x4 : Int32), (lpn (f_X6_takers_L5 (h) (a0) (a1) (a2)) k (x3, x4)) = some z1 → G p l e ({ frames := 3, cells := 0, slots := 0, locals := 67 } : Room) s m args below meth c 5 g X h 0 0 (MQ below (QW g X h s.heap.size (some (.int r)) h) args s 0 0 (AF X h s.heap.size)) 5 [(0, .ref (a0)), (1, .int (a1)), (2, .int (a2)), (3, .int (x3)), (4, .int (x4))] [] h := by
    intro k
    induction k with
    | zero => intro x3 x4 hlp1; exact (lpn_0 hlp1).elim
    | succ k ih1 =>
      intro x3 x4 hlp1
      obtain ⟨y1, hf, hlp1⟩ := lpn_s hlp1
      unfold f_X6_takers_L5 at hf
      try dsimp only at hf
      have hj29 : ∀ (x4 : Int32) (k0 : Int32) (k1 : Int32), f_X6_takers_J29 h (a0) (a1) (a2) (x4) k0 k1 = some y1 → G p l e ({ frames := 3, cells := 0, slots := 0, locals := 67 } : Room) s m args below meth c 5 g X h 0 0 (MQ below (QW g X h s.heap.size (some (.int r)) h) args s 0 0 (AF X h s.heap.size)) 29 [(0, .ref (a0)), (1, .int (a1)), (2, .int (a2)), (4, .int (x4))] [.int (k1), .int (k0)] h := by
        intro x4 k0 k1 hf
        unfold f_X6_takers_J29 at hf
        refine G.iadd C dX6_takers_29 ?_
        refine G.istore_n (lv' := [(3, .int ((k0 + k1))), (0, .ref (a0)), (1, .int (a1)), (2, .int (a2)), (4, .int (x4))]) C dX6_takers_30 rfl (by decide) rfl ?_
        refine G.iinc (k := 4) (v := (x4 + 1)) (lv' := [(4, .int ((x4 + 1))), (3, .int ((k0 + k1))), (0, .ref (a0)), (1, .int (a1)), (2, .int (a2))]) C dX6_takers_31 rfl rfl (by decide) rfl ?_
        refine G.goto (tgt := 5) C dX6_takers_34 (by decide) ?_
        cases hf
        refine G.sub C [2, 3, 4, 1, 0] (lv' := [(0, .ref (a0)), (1, .int (a1)), (2, .int (a2)), (3, .int ((k0 + k1))), (4, .int ((x4 + 1)))]) rfl ?_
        exact ih1 _ _ hlp1
      refine G.iload C 4 dX6_takers_5 rfl ?_
      refine G.bipush (v := 8) C dX6_takers_7 (by decide) ?_
      refine G.icmp_ge (tgt := 37) C dX6_takers_9 (by decide) hf (fun c4 hf => ?_) (fun c4 hf => ?_)
      · cases hf
        change some _ = some _ at hlp1
        have hf := hfo1
        try rw [← Option.some.inj hlp1] at hf
        try dsimp only at hf
        refine G.sub C [3] (lv' := [(3, .int (x3))]) rfl ?_
        exact hj37 _ hf
      · refine G.iload_n C 3 dX6_takers_12 rfl rfl ?_
        refine G.aload_n C 0 dX6_takers_13 rfl rfl ?_
        refine G.iload_n C 1 dX6_takers_14 rfl rfl ?_
        refine G.iload C 4 dX6_takers_15 rfl ?_
        refine G.iload_n C 2 dX6_takers_17 rfl rfl ?_
        obtain ⟨v2, hv2, hf⟩ := bind_some hf
        try dsimp only at hf
        refine G.callV C (st := [.int (x3)]) (st2 := [.int (v2), .int (x3)]) (ct_X6_takes hv2) (ko_X6_takes hv2) rfl m9_303 m9_304 m9_305 m9_5 m9_306 kd_X6_takes ⟨Nat.le_of_ble_eq_true rfl, Nat.le_of_ble_eq_true rfl⟩ ⟨Nat.zero_le _, Nat.zero_le _⟩ (Nat.le_of_ble_eq_true rfl) rfl rfl dX6_takers_18 ?_
        refine G.if_eq (tgt := 28) C dX6_takers_21 (by decide) hf (fun c3 hf => ?_) (fun c3 hf => ?_)
        · refine G.iconst (v := 0) C dX6_takers_28 (by decide) ?_
          refine G.sub C [0, 1, 2, 4] (lv' := [(0, .ref (a0)), (1, .int (a1)), (2, .int (a2)), (4, .int (x4))]) rfl ?_
          exact hj29 _ _ _ hf
        · refine G.iconst (v := 1) C dX6_takers_24 (by decide) ?_
          refine G.goto (tgt := 29) C dX6_takers_25 (by decide) ?_
          refine G.sub C [0, 1, 2, 4] (lv' := [(0, .ref (a0)), (1, .int (a1)), (2, .int (a2)), (4, .int (x4))]) rfl ?_
          exact hj29 _ _ _ hf
  refine G.sub C [2, 3, 4, 1, 0] (lv' := [(0, .ref (a0)), (1, .int (a1)), (2, .int (a2)), (3, .int ((0 : Int32))), (4, .int ((0 : Int32)))]) rfl ?_
  exact hloop1 LF _ _ hlp1
theorem ko_X6_clash {h : PH} {a0 : Nat} {a1 : Int32} {r : Int32} (hf : f_X6_clash h a0 a1 = some r) : kO h a0 5 := by
  unfold f_X6_clash at hf
  exact okO_k (gd_ok hf).1
theorem kd_X6_clash : yX6_clash.cls = RX6 ∧ yX6_clash.cls ≠ "java/lang/invoke/MethodHandle" ∧ yX6_clash.cls ≠ "java/lang/invoke/VarHandle" ∧ (parseMethodDescriptor yX6_clash.desc).map (fun d => d.parameters.length) = some 1 := by decide +kernel
set_option maxRecDepth 20000 in
set_option maxHeartbeats 4000000 in
theorem ct_X6_clash {l : Launch} {h : PH} {a0 : Nat} {a1 : Int32} {r : Int32} (hf : f_X6_clash h a0 a1 = some r) : CT l yX6_clash cX6_clash 3 (some .int) 4 91 [.ref (a0), .int (a1)] h (some (.int r)) h := by
  refine CT.of (own := RX6) rfl (by decide) (Nat.le_of_ble_eq_true rfl) ?_
  intro p e R s m args below meth c g X hR C
  subst hR
  unfold f_X6_clash at hf
  obtain ⟨hok, hf⟩ := gd_ok hf
  have hj24 : ∀ (x2 : Int32), f_X6_clash_J24 h (x2) = some r → G p l e ({ frames := 4, cells := 0, slots := 0, locals := 91 } : Room) s m args below meth c 3 g X h 0 0 (MQ below (QW g X h s.heap.size (some (.int r)) h) args s 0 0 (AF X h s.heap.size)) 24 [(2, .int (x2))] [] h := by
    intro x2 hf
    unfold f_X6_clash_J24 at hf
    refine G.iload_n C 0 dX6_clash_24 rfl rfl ?_
    cases hf
    exact G.iret C rfl dX6_clash_25
  refine G.sub C [0, 1] (lv' := [(0, .ref (a0)), (1, .int (a1))]) rfl ?_
  refine G.iconst (v := 0) C dX6_clash_0 (by decide) ?_
  refine G.istore_n (lv' := [(2, .int ((0 : Int32))), (0, .ref (a0)), (1, .int (a1))]) C dX6_clash_1 rfl (by decide) rfl ?_
  obtain ⟨z1, hlp1, hfo1⟩ := bind_some hf
  clear hf
  have hloop1 : ∀ (k : Nat), ∀ (x2 : Int32), (lpn (f_X6_clash_L2 (h) (a0) (a1)) k (x2)) = some z1 → G p l e ({ frames := 4, cells := 0, slots := 0, locals := 91 } : Room) s m args below meth c 3 g X h 0 0 (MQ below (QW g X h s.heap.size (some (.int r)) h) args s 0 0 (AF X h s.heap.size)) 2 [(0, .ref (a0)), (1, .int (a1)), (2, .int (x2))] [] h := by
    intro k
    induction k with
    | zero => intro x2 hlp1; exact (lpn_0 hlp1).elim
    | succ k ih1 =>
      intro x2 hlp1
      obtain ⟨y1, hf, hlp1⟩ := lpn_s hlp1
      unfold f_X6_clash_L2 at hf
      try dsimp only at hf
      refine G.iload_n C 2 dX6_clash_2 rfl rfl ?_
      refine G.bipush (v := 60) C dX6_clash_3 (by decide) ?_
      refine G.icmp_ge (tgt := 24) C dX6_clash_5 (by decide) hf (fun c4 hf => ?_) (fun c4 hf => ?_)
      · cases hf
        change some _ = some _ at hlp1
        have hf := hfo1
        try rw [← Option.some.inj hlp1] at hf
        try dsimp only at hf
        refine G.sub C [2] (lv' := [(2, .int (x2))]) rfl ?_
        exact hj24 _ hf
      · refine G.aload_n C 0 dX6_clash_8 rfl rfl ?_
        refine G.iload_n C 1 dX6_clash_9 rfl rfl ?_
        refine G.iload_n C 2 dX6_clash_10 rfl rfl ?_
        obtain ⟨v2, hv2, hf⟩ := bind_some hf
        try dsimp only at hf
        refine G.callV C (st := []) (st2 := [.int (v2)]) (ct_X6_takers hv2) (ko_X6_takers hv2) rfl m9_393 m9_394 m9_395 m9_5 m9_396 kd_X6_takers ⟨Nat.le_of_ble_eq_true rfl, Nat.le_of_ble_eq_true rfl⟩ ⟨Nat.zero_le _, Nat.zero_le _⟩ (Nat.le_of_ble_eq_true rfl) rfl rfl dX6_clash_11 ?_
        refine G.iconst (v := 2) C dX6_clash_14 (by decide) ?_
        refine G.icmp_ge (tgt := 24) C dX6_clash_15 (by decide) hf (fun c3 hf => ?_) (fun c3 hf => ?_)
        · cases hf
          change some _ = some _ at hlp1
          have hf := hfo1
          try rw [← Option.some.inj hlp1] at hf
          try dsimp only at hf
          refine G.sub C [2] (lv' := [(2, .int (x2))]) rfl ?_
          exact hj24 _ hf
        · refine G.iinc (k := 2) (v := (x2 + 1)) (lv' := [(2, .int ((x2 + 1))), (0, .ref (a0)), (1, .int (a1))]) C dX6_clash_18 rfl rfl (by decide) rfl ?_
          refine G.goto (tgt := 2) C dX6_clash_21 (by decide) ?_
          cases hf
          refine G.sub C [1, 2, 0] (lv' := [(0, .ref (a0)), (1, .int (a1)), (2, .int ((x2 + 1)))]) rfl ?_
          exact ih1 _ hlp1
  refine G.sub C [1, 2, 0] (lv' := [(0, .ref (a0)), (1, .int (a1)), (2, .int ((0 : Int32)))]) rfl ?_
  exact hloop1 LF _ hlp1
theorem ko_X6_placesOf {h : PH} {a0 : Nat} {a1 : Int32} {a2 : Int32} {r : Int32} (hf : f_X6_placesOf h a0 a1 a2 = some r) : kO h a0 5 := by
  unfold f_X6_placesOf at hf
  exact okO_k (gd_ok hf).1
theorem kd_X6_placesOf : yX6_placesOf.cls = RX6 ∧ yX6_placesOf.cls ≠ "java/lang/invoke/MethodHandle" ∧ yX6_placesOf.cls ≠ "java/lang/invoke/VarHandle" ∧ (parseMethodDescriptor yX6_placesOf.desc).map (fun d => d.parameters.length) = some 2 := by decide +kernel
set_option maxRecDepth 20000 in
set_option maxHeartbeats 4000000 in
theorem ct_X6_placesOf {l : Launch} {h : PH} {a0 : Nat} {a1 : Int32} {a2 : Int32} {r : Int32} (hf : f_X6_placesOf h a0 a1 a2 = some r) : CT l yX6_placesOf cX6_placesOf 5 (some .int) 3 67 [.ref (a0), .int (a1), .int (a2)] h (some (.int r)) h := by
  refine CT.of (own := RX6) rfl (by decide) (Nat.le_of_ble_eq_true rfl) ?_
  intro p e R s m args below meth c g X hR C
  subst hR
  unfold f_X6_placesOf at hf
  obtain ⟨hok, hf⟩ := gd_ok hf
  have hj45 : ∀ (x3 : Int32), f_X6_placesOf_J45 h (x3) = some r → G p l e ({ frames := 3, cells := 0, slots := 0, locals := 67 } : Room) s m args below meth c 5 g X h 0 0 (MQ below (QW g X h s.heap.size (some (.int r)) h) args s 0 0 (AF X h s.heap.size)) 45 [(3, .int (x3))] [] h := by
    intro x3 hf
    unfold f_X6_placesOf_J45 at hf
    refine G.iload_n C 0 dX6_placesOf_45 rfl rfl ?_
    cases hf
    exact G.iret C rfl dX6_placesOf_46
  refine G.sub C [0, 1, 2] (lv' := [(0, .ref (a0)), (1, .int (a1)), (2, .int (a2))]) rfl ?_
  refine G.iconst (v := 0) C dX6_placesOf_0 (by decide) ?_
  refine G.istore_n (lv' := [(3, .int ((0 : Int32))), (0, .ref (a0)), (1, .int (a1)), (2, .int (a2))]) C dX6_placesOf_1 rfl (by decide) rfl ?_
  refine G.iconst (v := 0) C dX6_placesOf_2 (by decide) ?_
  refine G.istore (lv' := [(4, .int ((0 : Int32))), (3, .int ((0 : Int32))), (0, .ref (a0)), (1, .int (a1)), (2, .int (a2))]) C dX6_placesOf_3 (by decide) rfl ?_
  obtain ⟨z1, hlp1, hfo1⟩ := bind_some hf
  clear hf
  have hloop1 : ∀ (k : Nat), ∀ (x3 : Int32) (x4 : Int32), (lpn (f_X6_placesOf_L5 (h) (a0) (a1) (a2)) k (x3, x4)) = some z1 → G p l e ({ frames := 3, cells := 0, slots := 0, locals := 67 } : Room) s m args below meth c 5 g X h 0 0 (MQ below (QW g X h s.heap.size (some (.int r)) h) args s 0 0 (AF X h s.heap.size)) 5 [(0, .ref (a0)), (1, .int (a1)), (2, .int (a2)), (3, .int (x3)), (4, .int (x4))] [] h := by
    intro k
    induction k with
    | zero => intro x3 x4 hlp1; exact (lpn_0 hlp1).elim
    | succ k ih1 =>
      intro x3 x4 hlp1
      obtain ⟨y1, hf, hlp1⟩ := lpn_s hlp1
      unfold f_X6_placesOf_L5 at hf
      try dsimp only at hf
      have hj37 : ∀ (x4 : Int32) (k0 : Int32) (k1 : Int32), f_X6_placesOf_J37 h (a0) (a1) (a2) (x4) k0 k1 = some y1 → G p l e ({ frames := 3, cells := 0, slots := 0, locals := 67 } : Room) s m args below meth c 5 g X h 0 0 (MQ below (QW g X h s.heap.size (some (.int r)) h) args s 0 0 (AF X h s.heap.size)) 37 [(0, .ref (a0)), (1, .int (a1)), (2, .int (a2)), (4, .int (x4))] [.int (k1), .int (k0)] h := by
        intro x4 k0 k1 hf
        unfold f_X6_placesOf_J37 at hf
        refine G.iadd C dX6_placesOf_37 ?_
        refine G.istore_n (lv' := [(3, .int ((k0 + k1))), (0, .ref (a0)), (1, .int (a1)), (2, .int (a2)), (4, .int (x4))]) C dX6_placesOf_38 rfl (by decide) rfl ?_
        refine G.iinc (k := 4) (v := (x4 + 1)) (lv' := [(4, .int ((x4 + 1))), (3, .int ((k0 + k1))), (0, .ref (a0)), (1, .int (a1)), (2, .int (a2))]) C dX6_placesOf_39 rfl rfl (by decide) rfl ?_
        refine G.goto (tgt := 5) C dX6_placesOf_42 (by decide) ?_
        cases hf
        refine G.sub C [2, 3, 4, 1, 0] (lv' := [(0, .ref (a0)), (1, .int (a1)), (2, .int (a2)), (3, .int ((k0 + k1))), (4, .int ((x4 + 1)))]) rfl ?_
        exact ih1 _ _ hlp1
      refine G.iload C 4 dX6_placesOf_5 rfl ?_
      refine G.aload_n C 0 dX6_placesOf_7 rfl rfl ?_
      refine G.getR (ci := 5) (k := 1) C rfl inlX6 (by decide) m9_70 rfl hf dX6_placesOf_8 (fun v2 hv2 hf => ?_)
      try dsimp only at hf
      refine G.iload_n C 1 dX6_placesOf_11 rfl rfl ?_
      refine G.iconst (v := 0) C dX6_placesOf_12 (by decide) ?_
      obtain ⟨v3, hv3, hf⟩ := bind_some hf
      try dsimp only at hf
      refine G.callS C (st := [.ref (v2), .int (x4)]) (st2 := [.int (v3), .ref (v2), .int (x4)]) (ct_X6_of hv3) m9_159 m9_160 m9_5 m9_161 kd_X6_of ⟨Nat.le_of_ble_eq_true rfl, Nat.le_of_ble_eq_true rfl⟩ ⟨Nat.zero_le _, Nat.zero_le _⟩ (Nat.le_of_ble_eq_true rfl) rfl rfl dX6_placesOf_13 ?_
      refine G.iald C hf dX6_placesOf_16 (fun v4 hv4 hf => ?_)
      try dsimp only at hf
      refine G.icmp_ge (tgt := 45) C dX6_placesOf_17 (by decide) hf (fun c7 hf => ?_) (fun c7 hf => ?_)
      · cases hf
        change some _ = some _ at hlp1
        have hf := hfo1
        try rw [← Option.some.inj hlp1] at hf
        try dsimp only at hf
        refine G.sub C [3] (lv' := [(3, .int (x3))]) rfl ?_
        exact hj45 _ hf
      · refine G.iload_n C 3 dX6_placesOf_20 rfl rfl ?_
        refine G.aload_n C 0 dX6_placesOf_21 rfl rfl ?_
        refine G.iload_n C 1 dX6_placesOf_22 rfl rfl ?_
        refine G.iload_n C 2 dX6_placesOf_23 rfl rfl ?_
        refine G.iload C 4 dX6_placesOf_24 rfl ?_
        obtain ⟨v5, hv5, hf⟩ := bind_some hf
        try dsimp only at hf
        refine G.callV C (st := [.int (x3)]) (st2 := [.int (v5), .int (x3)]) (ct_X6_takes hv5) (ko_X6_takes hv5) rfl m9_303 m9_304 m9_305 m9_5 m9_306 kd_X6_takes ⟨Nat.le_of_ble_eq_true rfl, Nat.le_of_ble_eq_true rfl⟩ ⟨Nat.zero_le _, Nat.zero_le _⟩ (Nat.le_of_ble_eq_true rfl) rfl rfl dX6_placesOf_26 ?_
        refine G.if_eq (tgt := 36) C dX6_placesOf_29 (by decide) hf (fun c6 hf => ?_) (fun c6 hf => ?_)
        · refine G.iconst (v := 0) C dX6_placesOf_36 (by decide) ?_
          refine G.sub C [0, 1, 2, 4] (lv' := [(0, .ref (a0)), (1, .int (a1)), (2, .int (a2)), (4, .int (x4))]) rfl ?_
          exact hj37 _ _ _ hf
        · refine G.iconst (v := 1) C dX6_placesOf_32 (by decide) ?_
          refine G.goto (tgt := 37) C dX6_placesOf_33 (by decide) ?_
          refine G.sub C [0, 1, 2, 4] (lv' := [(0, .ref (a0)), (1, .int (a1)), (2, .int (a2)), (4, .int (x4))]) rfl ?_
          exact hj37 _ _ _ hf
  refine G.sub C [2, 3, 4, 1, 0] (lv' := [(0, .ref (a0)), (1, .int (a1)), (2, .int (a2)), (3, .int ((0 : Int32))), (4, .int ((0 : Int32)))]) rfl ?_
  exact hloop1 LF _ _ hlp1
theorem ko_X6_lastOf {h : PH} {a0 : Nat} {a1 : Int32} {a2 : Int32} {r : Int32} (hf : f_X6_lastOf h a0 a1 a2 = some r) : kO h a0 5 := by
  unfold f_X6_lastOf at hf
  exact okO_k (gd_ok hf).1
theorem kd_X6_lastOf : yX6_lastOf.cls = RX6 ∧ yX6_lastOf.cls ≠ "java/lang/invoke/MethodHandle" ∧ yX6_lastOf.cls ≠ "java/lang/invoke/VarHandle" ∧ (parseMethodDescriptor yX6_lastOf.desc).map (fun d => d.parameters.length) = some 2 := by decide +kernel
set_option maxRecDepth 20000 in
set_option maxHeartbeats 4000000 in
theorem ct_X6_lastOf {l : Launch} {h : PH} {a0 : Nat} {a1 : Int32} {a2 : Int32} {r : Int32} (hf : f_X6_lastOf h a0 a1 a2 = some r) : CT l yX6_lastOf cX6_lastOf 5 (some .int) 3 67 [.ref (a0), .int (a1), .int (a2)] h (some (.int r)) h := by
  refine CT.of (own := RX6) rfl (by decide) (Nat.le_of_ble_eq_true rfl) ?_
  intro p e R s m args below meth c g X hR C
  subst hR
  unfold f_X6_lastOf at hf
  obtain ⟨hok, hf⟩ := gd_ok hf
  have hj44 : ∀ (x3 : Int32), f_X6_lastOf_J44 h (x3) = some r → G p l e ({ frames := 3, cells := 0, slots := 0, locals := 67 } : Room) s m args below meth c 5 g X h 0 0 (MQ below (QW g X h s.heap.size (some (.int r)) h) args s 0 0 (AF X h s.heap.size)) 44 [(3, .int (x3))] [] h := by
    intro x3 hf
    unfold f_X6_lastOf_J44 at hf
    refine G.iload_n C 0 dX6_lastOf_44 rfl rfl ?_
    cases hf
    exact G.iret C rfl dX6_lastOf_45
  refine G.sub C [0, 1, 2] (lv' := [(0, .ref (a0)), (1, .int (a1)), (2, .int (a2))]) rfl ?_
  refine G.iconst (v := (-1)) C dX6_lastOf_0 (by decide) ?_
  refine G.istore_n (lv' := [(3, .int (((-1) : Int32))), (0, .ref (a0)), (1, .int (a1)), (2, .int (a2))]) C dX6_lastOf_1 rfl (by decide) rfl ?_
  refine G.iconst (v := 0) C dX6_lastOf_2 (by decide) ?_
  refine G.istore (lv' := [(4, .int ((0 : Int32))), (3, .int (((-1) : Int32))), (0, .ref (a0)), (1, .int (a1)), (2, .int (a2))]) C dX6_lastOf_3 (by decide) rfl ?_
  obtain ⟨z1, hlp1, hfo1⟩ := bind_some hf
  clear hf
  have hloop1 : ∀ (k : Nat), ∀ (x3 : Int32) (x4 : Int32), (lpn (f_X6_lastOf_L5 (h) (a0) (a1) (a2)) k (x3, x4)) = some z1 → G p l e ({ frames := 3, cells := 0, slots := 0, locals := 67 } : Room) s m args below meth c 5 g X h 0 0 (MQ below (QW g X h s.heap.size (some (.int r)) h) args s 0 0 (AF X h s.heap.size)) 5 [(0, .ref (a0)), (1, .int (a1)), (2, .int (a2)), (3, .int (x3)), (4, .int (x4))] [] h := by
    intro k
    induction k with
    | zero => intro x3 x4 hlp1; exact (lpn_0 hlp1).elim
    | succ k ih1 =>
      intro x3 x4 hlp1
      obtain ⟨y1, hf, hlp1⟩ := lpn_s hlp1
      unfold f_X6_lastOf_L5 at hf
      try dsimp only at hf
      have hj37 : ∀ (x4 : Int32) (k0 : Int32), f_X6_lastOf_J37 h (a0) (a1) (a2) (x4) k0 = some y1 → G p l e ({ frames := 3, cells := 0, slots := 0, locals := 67 } : Room) s m args below meth c 5 g X h 0 0 (MQ below (QW g X h s.heap.size (some (.int r)) h) args s 0 0 (AF X h s.heap.size)) 37 [(0, .ref (a0)), (1, .int (a1)), (2, .int (a2)), (4, .int (x4))] [.int (k0)] h := by
        intro x4 k0 hf
        unfold f_X6_lastOf_J37 at hf
        refine G.istore_n (lv' := [(3, .int (k0)), (0, .ref (a0)), (1, .int (a1)), (2, .int (a2)), (4, .int (x4))]) C dX6_lastOf_37 rfl (by decide) rfl ?_
        refine G.iinc (k := 4) (v := (x4 + 1)) (lv' := [(4, .int ((x4 + 1))), (3, .int (k0)), (0, .ref (a0)), (1, .int (a1)), (2, .int (a2))]) C dX6_lastOf_38 rfl rfl (by decide) rfl ?_
        refine G.goto (tgt := 5) C dX6_lastOf_41 (by decide) ?_
        cases hf
        refine G.sub C [2, 3, 4, 1, 0] (lv' := [(0, .ref (a0)), (1, .int (a1)), (2, .int (a2)), (3, .int (k0)), (4, .int ((x4 + 1)))]) rfl ?_
        exact ih1 _ _ hlp1
      refine G.iload C 4 dX6_lastOf_5 rfl ?_
      refine G.aload_n C 0 dX6_lastOf_7 rfl rfl ?_
      refine G.getR (ci := 5) (k := 1) C rfl inlX6 (by decide) m9_70 rfl hf dX6_lastOf_8 (fun v2 hv2 hf => ?_)
      try dsimp only at hf
      refine G.iload_n C 1 dX6_lastOf_11 rfl rfl ?_
      refine G.iconst (v := 0) C dX6_lastOf_12 (by decide) ?_
      obtain ⟨v3, hv3, hf⟩ := bind_some hf
      try dsimp only at hf
      refine G.callS C (st := [.ref (v2), .int (x4)]) (st2 := [.int (v3), .ref (v2), .int (x4)]) (ct_X6_of hv3) m9_159 m9_160 m9_5 m9_161 kd_X6_of ⟨Nat.le_of_ble_eq_true rfl, Nat.le_of_ble_eq_true rfl⟩ ⟨Nat.zero_le _, Nat.zero_le _⟩ (Nat.le_of_ble_eq_true rfl) rfl rfl dX6_lastOf_13 ?_
      refine G.iald C hf dX6_lastOf_16 (fun v4 hv4 hf => ?_)
      try dsimp only at hf
      refine G.icmp_ge (tgt := 44) C dX6_lastOf_17 (by decide) hf (fun c7 hf => ?_) (fun c7 hf => ?_)
      · cases hf
        change some _ = some _ at hlp1
        have hf := hfo1
        try rw [← Option.some.inj hlp1] at hf
        try dsimp only at hf
        refine G.sub C [3] (lv' := [(3, .int (x3))]) rfl ?_
        exact hj44 _ hf
      · refine G.aload_n C 0 dX6_lastOf_20 rfl rfl ?_
        refine G.iload_n C 1 dX6_lastOf_21 rfl rfl ?_
        refine G.iload_n C 2 dX6_lastOf_22 rfl rfl ?_
        refine G.iload C 4 dX6_lastOf_23 rfl ?_
        obtain ⟨v5, hv5, hf⟩ := bind_some hf
        try dsimp only at hf
        refine G.callV C (st := []) (st2 := [.int (v5)]) (ct_X6_takes hv5) (ko_X6_takes hv5) rfl m9_303 m9_304 m9_305 m9_5 m9_306 kd_X6_takes ⟨Nat.le_of_ble_eq_true rfl, Nat.le_of_ble_eq_true rfl⟩ ⟨Nat.zero_le _, Nat.zero_le _⟩ (Nat.le_of_ble_eq_true rfl) rfl rfl dX6_lastOf_25 ?_
        refine G.if_eq (tgt := 36) C dX6_lastOf_28 (by decide) hf (fun c6 hf => ?_) (fun c6 hf => ?_)
        · refine G.iload_n C 3 dX6_lastOf_36 rfl rfl ?_
          refine G.sub C [0, 1, 2, 4] (lv' := [(0, .ref (a0)), (1, .int (a1)), (2, .int (a2)), (4, .int (x4))]) rfl ?_
          exact hj37 _ _ hf
        · refine G.iload C 4 dX6_lastOf_31 rfl ?_
          refine G.goto (tgt := 37) C dX6_lastOf_33 (by decide) ?_
          refine G.sub C [0, 1, 2, 4] (lv' := [(0, .ref (a0)), (1, .int (a1)), (2, .int (a2)), (4, .int (x4))]) rfl ?_
          exact hj37 _ _ hf
  refine G.sub C [2, 3, 4, 1, 0] (lv' := [(0, .ref (a0)), (1, .int (a1)), (2, .int (a2)), (3, .int (((-1) : Int32))), (4, .int ((0 : Int32)))]) rfl ?_
  exact hloop1 LF _ _ hlp1
theorem ko_X6_clears {h : PH} {a0 : Nat} {a1 : Int32} {a2 : Int32} {r : PH} (hf : f_X6_clears h a0 a1 a2 = some r) : kO h a0 5 := by
  unfold f_X6_clears at hf
  exact okO_k (gd_ok hf).1
theorem kd_X6_clears : yX6_clears.cls = RX6 ∧ yX6_clears.cls ≠ "java/lang/invoke/MethodHandle" ∧ yX6_clears.cls ≠ "java/lang/invoke/VarHandle" ∧ (parseMethodDescriptor yX6_clears.desc).map (fun d => d.parameters.length) = some 2 := by decide +kernel
set_option maxRecDepth 20000 in
set_option maxHeartbeats 4000000 in
theorem ct_X6_clears {l : Launch} {h : PH} {a0 : Nat} {a1 : Int32} {a2 : Int32} {r : PH} (hf : f_X6_clears h a0 a1 a2 = some r) : CT l yX6_clears cX6_clears 4 none 1 21 [.ref (a0), .int (a1), .int (a2)] h none r := by
  refine CT.of (own := RX6) rfl (by decide) (Nat.le_of_ble_eq_true rfl) ?_
  intro p e R s m args below meth c g X hR C
  subst hR
  unfold f_X6_clears at hf
  obtain ⟨hok, hf⟩ := gd_ok hf
  have hj63 : ∀ (hh : PH), f_X6_clears_J63 hh = some r → G p l e ({ frames := 1, cells := 0, slots := 0, locals := 21 } : Room) s m args below meth c 4 g X h 0 0 (MQ below (QW g X h s.heap.size none r) args s 0 0 (AF X h s.heap.size)) 63 [] [] hh := by
    intro hh hf
    unfold f_X6_clears_J63 at hf
    cases hf
    exact G.vret C rfl dX6_clears_63
  refine G.sub C [0, 1, 2] (lv' := [(0, .ref (a0)), (1, .int (a1)), (2, .int (a2))]) rfl ?_
  refine G.aload_n C 0 dX6_clears_0 rfl rfl ?_
  refine G.getR (ci := 5) (k := 1) C rfl inlX6 (by decide) m9_70 rfl hf dX6_clears_1 (fun v1 hv1 hf => ?_)
  try dsimp only at hf
  refine G.iload_n C 1 dX6_clears_4 rfl rfl ?_
  refine G.iconst (v := 0) C dX6_clears_5 (by decide) ?_
  obtain ⟨v2, hv2, hf⟩ := bind_some hf
  try dsimp only at hf
  refine G.callS C (st := [.ref (v1)]) (st2 := [.int (v2), .ref (v1)]) (ct_X6_of hv2) m9_159 m9_160 m9_5 m9_161 kd_X6_of ⟨Nat.le_of_ble_eq_true rfl, Nat.le_of_ble_eq_true rfl⟩ ⟨Nat.zero_le _, Nat.zero_le _⟩ (Nat.le_of_ble_eq_true rfl) rfl rfl dX6_clears_6 ?_
  refine G.iload_n C 2 dX6_clears_9 rfl rfl ?_
  refine G.iast C hf dX6_clears_10 (fun h3 hh3 hf => ?_)
  try dsimp only at hf
  refine G.aload_n C 0 dX6_clears_11 rfl rfl ?_
  refine G.getR (ci := 5) (k := 1) C rfl inlX6 (by decide) m9_70 rfl hf dX6_clears_12 (fun v4 hv4 hf => ?_)
  try dsimp only at hf
  refine G.iload_n C 1 dX6_clears_15 rfl rfl ?_
  refine G.iconst (v := 1) C dX6_clears_16 (by decide) ?_
  obtain ⟨v5, hv5, hf⟩ := bind_some hf
  try dsimp only at hf
  refine G.callS C (st := [.ref (v4)]) (st2 := [.int (v5), .ref (v4)]) (ct_X6_of hv5) m9_159 m9_160 m9_5 m9_161 kd_X6_of ⟨Nat.le_of_ble_eq_true rfl, Nat.le_of_ble_eq_true rfl⟩ ⟨Nat.zero_le _, Nat.zero_le _⟩ (Nat.le_of_ble_eq_true rfl) rfl rfl dX6_clears_17 ?_
  refine G.iconst (v := 0) C dX6_clears_20 (by decide) ?_
  refine G.iast C hf dX6_clears_21 (fun h6 hh6 hf => ?_)
  try dsimp only at hf
  refine G.iconst (v := 0) C dX6_clears_22 (by decide) ?_
  refine G.istore_n (lv' := [(3, .int ((0 : Int32))), (0, .ref (a0)), (1, .int (a1)), (2, .int (a2))]) C dX6_clears_23 rfl (by decide) rfl ?_
  obtain ⟨z7, hlp7, hfo7⟩ := bind_some hf
  clear hf
  have hloop7 : ∀ (k : Nat), ∀ (x3 : Int32) (hh : PH), (lpn (f_X6_clears_L24 (a0) (a1)) k (x3, hh)) = some z7 → G p l e ({ frames := 1, cells := 0, slots := 0, locals := 21 } : Room) s m args below meth c 4 g X h 0 0 (MQ below (QW g X h s.heap.size none r) args s 0 0 (AF X h s.heap.size)) 24 [(0, .ref (a0)), (1, .int (a1)), (3, .int (x3))] [] hh := by
    intro k
    induction k with
    | zero => intro x3 hh hlp7; exact (lpn_0 hlp7).elim
    | succ k ih7 =>
      intro x3 hh hlp7
      obtain ⟨y7, hf, hlp7⟩ := lpn_s hlp7
      unfold f_X6_clears_L24 at hf
      try dsimp only at hf
      refine G.iload_n C 2 dX6_clears_24 rfl rfl ?_
      refine G.bipush (v := 8) C dX6_clears_25 (by decide) ?_
      refine G.icmp_ge (tgt := 63) C dX6_clears_27 (by decide) hf (fun c14 hf => ?_) (fun c14 hf => ?_)
      · cases hf
        change some _ = some _ at hlp7
        have hf := hfo7
        try rw [← Option.some.inj hlp7] at hf
        try dsimp only at hf
        refine G.sub C [] (lv' := []) rfl ?_
        exact hj63 _ hf
      · refine G.aload_n C 0 dX6_clears_30 rfl rfl ?_
        refine G.getR (ci := 5) (k := 1) C rfl inlX6 (by decide) m9_70 rfl hf dX6_clears_31 (fun v8 hv8 hf => ?_)
        try dsimp only at hf
        refine G.iload_n C 1 dX6_clears_34 rfl rfl ?_
        refine G.iconst (v := 2) C dX6_clears_35 (by decide) ?_
        refine G.iload_n C 2 dX6_clears_36 rfl rfl ?_
        refine G.iadd C dX6_clears_37 ?_
        obtain ⟨v9, hv9, hf⟩ := bind_some hf
        try dsimp only at hf
        refine G.callS C (st := [.ref (v8)]) (st2 := [.int (v9), .ref (v8)]) (ct_X6_of hv9) m9_159 m9_160 m9_5 m9_161 kd_X6_of ⟨Nat.le_of_ble_eq_true rfl, Nat.le_of_ble_eq_true rfl⟩ ⟨Nat.zero_le _, Nat.zero_le _⟩ (Nat.le_of_ble_eq_true rfl) rfl rfl dX6_clears_38 ?_
        refine G.iconst (v := 0) C dX6_clears_41 (by decide) ?_
        refine G.iast C hf dX6_clears_42 (fun h10 hh10 hf => ?_)
        try dsimp only at hf
        refine G.aload_n C 0 dX6_clears_43 rfl rfl ?_
        refine G.getR (ci := 5) (k := 1) C rfl inlX6 (by decide) m9_70 rfl hf dX6_clears_44 (fun v11 hv11 hf => ?_)
        try dsimp only at hf
        refine G.iload_n C 1 dX6_clears_47 rfl rfl ?_
        refine G.bipush (v := 10) C dX6_clears_48 (by decide) ?_
        refine G.iload_n C 2 dX6_clears_50 rfl rfl ?_
        refine G.iadd C dX6_clears_51 ?_
        obtain ⟨v12, hv12, hf⟩ := bind_some hf
        try dsimp only at hf
        refine G.callS C (st := [.ref (v11)]) (st2 := [.int (v12), .ref (v11)]) (ct_X6_of hv12) m9_159 m9_160 m9_5 m9_161 kd_X6_of ⟨Nat.le_of_ble_eq_true rfl, Nat.le_of_ble_eq_true rfl⟩ ⟨Nat.zero_le _, Nat.zero_le _⟩ (Nat.le_of_ble_eq_true rfl) rfl rfl dX6_clears_52 ?_
        refine G.iconst (v := (-1)) C dX6_clears_55 (by decide) ?_
        refine G.iast C hf dX6_clears_56 (fun h13 hh13 hf => ?_)
        try dsimp only at hf
        refine G.iinc (k := 2) (v := (x3 + 1)) (lv' := [(3, .int ((x3 + 1))), (0, .ref (a0)), (1, .int (a1))]) C dX6_clears_57 rfl rfl (by decide) rfl ?_
        refine G.goto (tgt := 24) C dX6_clears_60 (by decide) ?_
        cases hf
        refine G.sub C [1, 2, 0] (lv' := [(0, .ref (a0)), (1, .int (a1)), (3, .int ((x3 + 1)))]) rfl ?_
        exact ih7 _ _ hlp7
  refine G.sub C [1, 2, 0] (lv' := [(0, .ref (a0)), (1, .int (a1)), (3, .int ((0 : Int32)))]) rfl ?_
  exact hloop7 LF _ _ hlp7
theorem ko_X6_lays {h : PH} {a0 : Nat} {a1 : Int32} {a2 : Int32} {a3 : Int32} {r : PH} (hf : f_X6_lays h a0 a1 a2 a3 = some r) : kO h a0 5 := by
  unfold f_X6_lays at hf
  exact okO_k (gd_ok hf).1
theorem kd_X6_lays : yX6_lays.cls = RX6 ∧ yX6_lays.cls ≠ "java/lang/invoke/MethodHandle" ∧ yX6_lays.cls ≠ "java/lang/invoke/VarHandle" ∧ (parseMethodDescriptor yX6_lays.desc).map (fun d => d.parameters.length) = some 3 := by decide +kernel
set_option maxRecDepth 20000 in
set_option maxHeartbeats 4000000 in
theorem ct_X6_lays {l : Launch} {h : PH} {a0 : Nat} {a1 : Int32} {a2 : Int32} {a3 : Int32} {r : PH} (hf : f_X6_lays h a0 a1 a2 a3 = some r) : CT l yX6_lays cX6_lays 4 none 1 21 [.ref (a0), .int (a1), .int (a2), .int (a3)] h none r := by
  refine CT.of (own := RX6) rfl (by decide) (Nat.le_of_ble_eq_true rfl) ?_
  intro p e R s m args below meth c g X hR C
  subst hR
  unfold f_X6_lays at hf
  obtain ⟨hok, hf⟩ := gd_ok hf
  refine G.sub C [0, 1, 2, 3] (lv' := [(0, .ref (a0)), (1, .int (a1)), (2, .int (a2)), (3, .int (a3))]) rfl ?_
  refine G.aload_n C 0 dX6_lays_0 rfl rfl ?_
  refine G.getR (ci := 5) (k := 1) C rfl inlX6 (by decide) m9_70 rfl hf dX6_lays_1 (fun v1 hv1 hf => ?_)
  try dsimp only at hf
  refine G.iload_n C 1 dX6_lays_4 rfl rfl ?_
  refine G.iconst (v := 2) C dX6_lays_5 (by decide) ?_
  refine G.aload_n C 0 dX6_lays_6 rfl rfl ?_
  refine G.getR (ci := 5) (k := 1) C rfl inlX6 (by decide) m9_70 rfl hf dX6_lays_7 (fun v2 hv2 hf => ?_)
  try dsimp only at hf
  refine G.iload_n C 1 dX6_lays_10 rfl rfl ?_
  refine G.iconst (v := 1) C dX6_lays_11 (by decide) ?_
  obtain ⟨v3, hv3, hf⟩ := bind_some hf
  try dsimp only at hf
  refine G.callS C (st := [.ref (v2), .int ((2 : Int32)), .int (a1), .ref (v1)]) (st2 := [.int (v3), .ref (v2), .int ((2 : Int32)), .int (a1), .ref (v1)]) (ct_X6_of hv3) m9_159 m9_160 m9_5 m9_161 kd_X6_of ⟨Nat.le_of_ble_eq_true rfl, Nat.le_of_ble_eq_true rfl⟩ ⟨Nat.zero_le _, Nat.zero_le _⟩ (Nat.le_of_ble_eq_true rfl) rfl rfl dX6_lays_12 ?_
  refine G.iald C hf dX6_lays_15 (fun v4 hv4 hf => ?_)
  try dsimp only at hf
  refine G.iadd C dX6_lays_16 ?_
  obtain ⟨v5, hv5, hf⟩ := bind_some hf
  try dsimp only at hf
  refine G.callS C (st := [.ref (v1)]) (st2 := [.int (v5), .ref (v1)]) (ct_X6_of hv5) m9_159 m9_160 m9_5 m9_161 kd_X6_of ⟨Nat.le_of_ble_eq_true rfl, Nat.le_of_ble_eq_true rfl⟩ ⟨Nat.zero_le _, Nat.zero_le _⟩ (Nat.le_of_ble_eq_true rfl) rfl rfl dX6_lays_17 ?_
  refine G.iload_n C 2 dX6_lays_20 rfl rfl ?_
  refine G.iast C hf dX6_lays_21 (fun h6 hh6 hf => ?_)
  try dsimp only at hf
  refine G.aload_n C 0 dX6_lays_22 rfl rfl ?_
  refine G.getR (ci := 5) (k := 1) C rfl inlX6 (by decide) m9_70 rfl hf dX6_lays_23 (fun v7 hv7 hf => ?_)
  try dsimp only at hf
  refine G.iload_n C 1 dX6_lays_26 rfl rfl ?_
  refine G.iconst (v := 1) C dX6_lays_27 (by decide) ?_
  obtain ⟨v8, hv8, hf⟩ := bind_some hf
  try dsimp only at hf
  refine G.callS C (st := [.ref (v7)]) (st2 := [.int (v8), .ref (v7)]) (ct_X6_of hv8) m9_159 m9_160 m9_5 m9_161 kd_X6_of ⟨Nat.le_of_ble_eq_true rfl, Nat.le_of_ble_eq_true rfl⟩ ⟨Nat.zero_le _, Nat.zero_le _⟩ (Nat.le_of_ble_eq_true rfl) rfl rfl dX6_lays_28 ?_
  refine G.dup2 C dX6_lays_31 rfl rfl ?_
  refine G.iald C hf dX6_lays_32 (fun v9 hv9 hf => ?_)
  try dsimp only at hf
  refine G.iconst (v := 1) C dX6_lays_33 (by decide) ?_
  refine G.iadd C dX6_lays_34 ?_
  refine G.iast C hf dX6_lays_35 (fun h10 hh10 hf => ?_)
  try dsimp only at hf
  refine G.aload_n C 0 dX6_lays_36 rfl rfl ?_
  refine G.getR (ci := 5) (k := 1) C rfl inlX6 (by decide) m9_70 rfl hf dX6_lays_37 (fun v11 hv11 hf => ?_)
  try dsimp only at hf
  refine G.iload_n C 1 dX6_lays_40 rfl rfl ?_
  refine G.bipush (v := 10) C dX6_lays_41 (by decide) ?_
  refine G.iload_n C 2 dX6_lays_43 rfl rfl ?_
  refine G.iadd C dX6_lays_44 ?_
  obtain ⟨v12, hv12, hf⟩ := bind_some hf
  try dsimp only at hf
  refine G.callS C (st := [.ref (v11)]) (st2 := [.int (v12), .ref (v11)]) (ct_X6_of hv12) m9_159 m9_160 m9_5 m9_161 kd_X6_of ⟨Nat.le_of_ble_eq_true rfl, Nat.le_of_ble_eq_true rfl⟩ ⟨Nat.zero_le _, Nat.zero_le _⟩ (Nat.le_of_ble_eq_true rfl) rfl rfl dX6_lays_45 ?_
  refine G.iload_n C 3 dX6_lays_48 rfl rfl ?_
  refine G.iast C hf dX6_lays_49 (fun h13 hh13 hf => ?_)
  try dsimp only at hf
  cases hf
  exact G.vret C rfl dX6_lays_50
theorem ko_X6_remembers {h : PH} {a0 : Nat} {a1 : Int32} {r : PH} (hf : f_X6_remembers h a0 a1 = some r) : kO h a0 5 := by
  unfold f_X6_remembers at hf
  exact okO_k (gd_ok hf).1
theorem kd_X6_remembers : yX6_remembers.cls = RX6 ∧ yX6_remembers.cls ≠ "java/lang/invoke/MethodHandle" ∧ yX6_remembers.cls ≠ "java/lang/invoke/VarHandle" ∧ (parseMethodDescriptor yX6_remembers.desc).map (fun d => d.parameters.length) = some 1 := by decide +kernel
set_option maxRecDepth 20000 in
set_option maxHeartbeats 4000000 in
theorem ct_X6_remembers {l : Launch} {h : PH} {a0 : Nat} {a1 : Int32} {r : PH} (hf : f_X6_remembers h a0 a1 = some r) : CT l yX6_remembers cX6_remembers 3 none 1 21 [.ref (a0), .int (a1)] h none r := by
  refine CT.of (own := RX6) rfl (by decide) (Nat.le_of_ble_eq_true rfl) ?_
  intro p e R s m args below meth c g X hR C
  subst hR
  unfold f_X6_remembers at hf
  obtain ⟨hok, hf⟩ := gd_ok hf
  have hj30 : ∀ (hh : PH), f_X6_remembers_J30 hh = some r → G p l e ({ frames := 1, cells := 0, slots := 0, locals := 21 } : Room) s m args below meth c 3 g X h 0 0 (MQ below (QW g X h s.heap.size none r) args s 0 0 (AF X h s.heap.size)) 30 [] [] hh := by
    intro hh hf
    unfold f_X6_remembers_J30 at hf
    cases hf
    exact G.vret C rfl dX6_remembers_30
  refine G.sub C [0, 1] (lv' := [(0, .ref (a0)), (1, .int (a1))]) rfl ?_
  refine G.iconst (v := 0) C dX6_remembers_0 (by decide) ?_
  refine G.istore_n (lv' := [(2, .int ((0 : Int32))), (0, .ref (a0)), (1, .int (a1))]) C dX6_remembers_1 rfl (by decide) rfl ?_
  obtain ⟨z1, hlp1, hfo1⟩ := bind_some hf
  clear hf
  have hloop1 : ∀ (k : Nat), ∀ (x2 : Int32) (hh : PH), (lpn (f_X6_remembers_L2 (a0) (a1)) k (x2, hh)) = some z1 → G p l e ({ frames := 1, cells := 0, slots := 0, locals := 21 } : Room) s m args below meth c 3 g X h 0 0 (MQ below (QW g X h s.heap.size none r) args s 0 0 (AF X h s.heap.size)) 2 [(0, .ref (a0)), (1, .int (a1)), (2, .int (x2))] [] hh := by
    intro k
    induction k with
    | zero => intro x2 hh hlp1; exact (lpn_0 hlp1).elim
    | succ k ih1 =>
      intro x2 hh hlp1
      obtain ⟨y1, hf, hlp1⟩ := lpn_s hlp1
      unfold f_X6_remembers_L2 at hf
      try dsimp only at hf
      refine G.iload_n C 2 dX6_remembers_2 rfl rfl ?_
      refine G.bipush (v := 18) C dX6_remembers_3 (by decide) ?_
      refine G.icmp_ge (tgt := 30) C dX6_remembers_5 (by decide) hf (fun c7 hf => ?_) (fun c7 hf => ?_)
      · cases hf
        change some _ = some _ at hlp1
        have hf := hfo1
        try rw [← Option.some.inj hlp1] at hf
        try dsimp only at hf
        refine G.sub C [] (lv' := []) rfl ?_
        exact hj30 _ hf
      · refine G.aload_n C 0 dX6_remembers_8 rfl rfl ?_
        refine G.getR (ci := 5) (k := 9) C rfl inlX6 (by decide) m9_75 rfl hf dX6_remembers_9 (fun v2 hv2 hf => ?_)
        try dsimp only at hf
        refine G.iload_n C 2 dX6_remembers_12 rfl rfl ?_
        refine G.aload_n C 0 dX6_remembers_13 rfl rfl ?_
        refine G.getR (ci := 5) (k := 1) C rfl inlX6 (by decide) m9_70 rfl hf dX6_remembers_14 (fun v3 hv3 hf => ?_)
        try dsimp only at hf
        refine G.iload_n C 1 dX6_remembers_17 rfl rfl ?_
        refine G.iload_n C 2 dX6_remembers_18 rfl rfl ?_
        obtain ⟨v4, hv4, hf⟩ := bind_some hf
        try dsimp only at hf
        refine G.callS C (st := [.ref (v3), .int (x2), .ref (v2)]) (st2 := [.int (v4), .ref (v3), .int (x2), .ref (v2)]) (ct_X6_of hv4) m9_159 m9_160 m9_5 m9_161 kd_X6_of ⟨Nat.le_of_ble_eq_true rfl, Nat.le_of_ble_eq_true rfl⟩ ⟨Nat.zero_le _, Nat.zero_le _⟩ (Nat.le_of_ble_eq_true rfl) rfl rfl dX6_remembers_19 ?_
        refine G.iald C hf dX6_remembers_22 (fun v5 hv5 hf => ?_)
        try dsimp only at hf
        refine G.iast C hf dX6_remembers_23 (fun h6 hh6 hf => ?_)
        try dsimp only at hf
        refine G.iinc (k := 2) (v := (x2 + 1)) (lv' := [(2, .int ((x2 + 1))), (0, .ref (a0)), (1, .int (a1))]) C dX6_remembers_24 rfl rfl (by decide) rfl ?_
        refine G.goto (tgt := 2) C dX6_remembers_27 (by decide) ?_
        cases hf
        refine G.sub C [1, 2, 0] (lv' := [(0, .ref (a0)), (1, .int (a1)), (2, .int ((x2 + 1)))]) rfl ?_
        exact ih1 _ _ hlp1
  refine G.sub C [1, 2, 0] (lv' := [(0, .ref (a0)), (1, .int (a1)), (2, .int ((0 : Int32)))]) rfl ?_
  exact hloop1 LF _ _ hlp1
theorem ko_X6_laysFrom {h : PH} {a0 : Nat} {a1 : Int32} {a2 : Int32} {r : PH} (hf : f_X6_laysFrom h a0 a1 a2 = some r) : kO h a0 5 := by
  unfold f_X6_laysFrom at hf
  exact okO_k (gd_ok hf).1
theorem kd_X6_laysFrom : yX6_laysFrom.cls = RX6 ∧ yX6_laysFrom.cls ≠ "java/lang/invoke/MethodHandle" ∧ yX6_laysFrom.cls ≠ "java/lang/invoke/VarHandle" ∧ (parseMethodDescriptor yX6_laysFrom.desc).map (fun d => d.parameters.length) = some 2 := by decide +kernel
set_option maxRecDepth 20000 in
set_option maxHeartbeats 4000000 in
theorem ct_X6_laysFrom {l : Launch} {h : PH} {a0 : Nat} {a1 : Int32} {a2 : Int32} {r : PH} (hf : f_X6_laysFrom h a0 a1 a2 = some r) : CT l yX6_laysFrom cX6_laysFrom 6 none 2 44 [.ref (a0), .int (a1), .int (a2)] h none r := by
  refine CT.of (own := RX6) rfl (by decide) (Nat.le_of_ble_eq_true rfl) ?_
  intro p e R s m args below meth c g X hR C
  subst hR
  unfold f_X6_laysFrom at hf
  obtain ⟨hok, hf⟩ := gd_ok hf
  have hj88 : ∀ (hh : PH), f_X6_laysFrom_J88 hh = some r → G p l e ({ frames := 2, cells := 0, slots := 0, locals := 44 } : Room) s m args below meth c 6 g X h 0 0 (MQ below (QW g X h s.heap.size none r) args s 0 0 (AF X h s.heap.size)) 88 [] [] hh := by
    intro hh hf
    unfold f_X6_laysFrom_J88 at hf
    cases hf
    exact G.vret C rfl dX6_laysFrom_88
  refine G.sub C [0, 1, 2] (lv' := [(0, .ref (a0)), (1, .int (a1)), (2, .int (a2))]) rfl ?_
  refine G.iconst (v := 0) C dX6_laysFrom_0 (by decide) ?_
  refine G.istore_n (lv' := [(3, .int ((0 : Int32))), (0, .ref (a0)), (1, .int (a1)), (2, .int (a2))]) C dX6_laysFrom_1 rfl (by decide) rfl ?_
  obtain ⟨z1, hlp1, hfo1⟩ := bind_some hf
  clear hf
  have hloop1 : ∀ (k : Nat), ∀ (x3 : Int32) (hh : PH), (lpn (f_X6_laysFrom_L2 (a0) (a1) (a2)) k (x3, hh)) = some z1 → G p l e ({ frames := 2, cells := 0, slots := 0, locals := 44 } : Room) s m args below meth c 6 g X h 0 0 (MQ below (QW g X h s.heap.size none r) args s 0 0 (AF X h s.heap.size)) 2 [(0, .ref (a0)), (1, .int (a1)), (2, .int (a2)), (3, .int (x3))] [] hh := by
    intro k
    induction k with
    | zero => intro x3 hh hlp1; exact (lpn_0 hlp1).elim
    | succ k ih1 =>
      intro x3 hh hlp1
      obtain ⟨y1, hf, hlp1⟩ := lpn_s hlp1
      unfold f_X6_laysFrom_L2 at hf
      try dsimp only at hf
      have hj82 : ∀ (hh : PH) (x3 : Int32), f_X6_laysFrom_J82 hh (a0) (a1) (a2) (x3) = some y1 → G p l e ({ frames := 2, cells := 0, slots := 0, locals := 44 } : Room) s m args below meth c 6 g X h 0 0 (MQ below (QW g X h s.heap.size none r) args s 0 0 (AF X h s.heap.size)) 82 [(0, .ref (a0)), (1, .int (a1)), (2, .int (a2)), (3, .int (x3))] [] hh := by
        intro hh x3 hf
        unfold f_X6_laysFrom_J82 at hf
        refine G.iinc (k := 3) (v := (x3 + 1)) (lv' := [(3, .int ((x3 + 1))), (0, .ref (a0)), (1, .int (a1)), (2, .int (a2))]) C dX6_laysFrom_82 rfl rfl (by decide) rfl ?_
        refine G.goto (tgt := 2) C dX6_laysFrom_85 (by decide) ?_
        cases hf
        refine G.sub C [1, 2, 3, 0] (lv' := [(0, .ref (a0)), (1, .int (a1)), (2, .int (a2)), (3, .int ((x3 + 1)))]) rfl ?_
        exact ih1 _ _ hlp1
      have hj58 : ∀ (hh : PH) (x3 : Int32) (x4 : Int32) (x5 : Int32), f_X6_laysFrom_J58 hh (a0) (a1) (a2) (x3) (x4) (x5) = some y1 → G p l e ({ frames := 2, cells := 0, slots := 0, locals := 44 } : Room) s m args below meth c 6 g X h 0 0 (MQ below (QW g X h s.heap.size none r) args s 0 0 (AF X h s.heap.size)) 58 [(0, .ref (a0)), (1, .int (a1)), (2, .int (a2)), (3, .int (x3)), (4, .int (x4)), (5, .int (x5))] [] hh := by
        intro hh x3 x4 x5 hf
        unfold f_X6_laysFrom_J58 at hf
        refine G.iload C 5 dX6_laysFrom_58 rfl ?_
        refine G.aload_n C 0 dX6_laysFrom_60 rfl rfl ?_
        refine G.getR (ci := 5) (k := 1) C rfl inlX6 (by decide) m9_70 rfl hf dX6_laysFrom_61 (fun v2 hv2 hf => ?_)
        try dsimp only at hf
        refine G.iload_n C 1 dX6_laysFrom_64 rfl rfl ?_
        refine G.iconst (v := 0) C dX6_laysFrom_65 (by decide) ?_
        obtain ⟨v3, hv3, hf⟩ := bind_some hf
        try dsimp only at hf
        refine G.callS C (st := [.ref (v2), .int (x5)]) (st2 := [.int (v3), .ref (v2), .int (x5)]) (ct_X6_of hv3) m9_159 m9_160 m9_5 m9_161 kd_X6_of ⟨Nat.le_of_ble_eq_true rfl, Nat.le_of_ble_eq_true rfl⟩ ⟨Nat.zero_le _, Nat.zero_le _⟩ (Nat.le_of_ble_eq_true rfl) rfl rfl dX6_laysFrom_66 ?_
        refine G.iald C hf dX6_laysFrom_69 (fun v4 hv4 hf => ?_)
        try dsimp only at hf
        refine G.icmp_ge (tgt := 82) C dX6_laysFrom_70 (by decide) hf (fun c6 hf => ?_) (fun c6 hf => ?_)
        · refine G.sub C [0, 1, 2, 3] (lv' := [(0, .ref (a0)), (1, .int (a1)), (2, .int (a2)), (3, .int (x3))]) rfl ?_
          exact hj82 _ _ hf
        · refine G.aload_n C 0 dX6_laysFrom_73 rfl rfl ?_
          refine G.iload_n C 1 dX6_laysFrom_74 rfl rfl ?_
          refine G.iload C 4 dX6_laysFrom_75 rfl ?_
          refine G.iload C 5 dX6_laysFrom_77 rfl ?_
          obtain ⟨h5, hh5, hf⟩ := bind_some hf
          try dsimp only at hf
          refine G.callV C (st := []) (st2 := []) (ct_X6_lays hh5) (ko_X6_lays hh5) rfl m9_307 m9_308 m9_309 m9_5 m9_310 kd_X6_lays ⟨Nat.le_of_ble_eq_true rfl, Nat.le_of_ble_eq_true rfl⟩ ⟨Nat.zero_le _, Nat.zero_le _⟩ (Nat.le_of_ble_eq_true rfl) rfl rfl dX6_laysFrom_79 ?_
          refine G.sub C [0, 1, 2, 3] (lv' := [(0, .ref (a0)), (1, .int (a1)), (2, .int (a2)), (3, .int (x3))]) rfl ?_
          exact hj82 _ _ hf
      refine G.iload_n C 3 dX6_laysFrom_2 rfl rfl ?_
      refine G.aload_n C 0 dX6_laysFrom_3 rfl rfl ?_
      refine G.getR (ci := 5) (k := 9) C rfl inlX6 (by decide) m9_75 rfl hf dX6_laysFrom_4 (fun v7 hv7 hf => ?_)
      try dsimp only at hf
      refine G.iconst (v := 1) C dX6_laysFrom_7 (by decide) ?_
      refine G.iald C hf dX6_laysFrom_8 (fun v8 hv8 hf => ?_)
      try dsimp only at hf
      refine G.icmp_ge (tgt := 88) C dX6_laysFrom_9 (by decide) hf (fun c17 hf => ?_) (fun c17 hf => ?_)
      · cases hf
        change some _ = some _ at hlp1
        have hf := hfo1
        try rw [← Option.some.inj hlp1] at hf
        try dsimp only at hf
        refine G.sub C [] (lv' := []) rfl ?_
        exact hj88 _ hf
      · refine G.aload_n C 0 dX6_laysFrom_12 rfl rfl ?_
        refine G.getR (ci := 5) (k := 9) C rfl inlX6 (by decide) m9_75 rfl hf dX6_laysFrom_13 (fun v9 hv9 hf => ?_)
        try dsimp only at hf
        refine G.iconst (v := 2) C dX6_laysFrom_16 (by decide) ?_
        refine G.iload_n C 3 dX6_laysFrom_17 rfl rfl ?_
        refine G.iadd C dX6_laysFrom_18 ?_
        refine G.iald C hf dX6_laysFrom_19 (fun v10 hv10 hf => ?_)
        try dsimp only at hf
        refine G.istore (lv' := [(4, .int (v10)), (0, .ref (a0)), (1, .int (a1)), (2, .int (a2)), (3, .int (x3))]) C dX6_laysFrom_20 (by decide) rfl ?_
        refine G.aload_n C 1 dX6_laysFrom_22 rfl rfl ?_
        refine G.getR (ci := 5) (k := 9) C rfl inlX6 (by decide) m9_75 rfl hf dX6_laysFrom_23 (fun v11 hv11 hf => ?_)
        try dsimp only at hf
        refine G.bipush (v := 10) C dX6_laysFrom_26 (by decide) ?_
        refine G.iload C 0 dX6_laysFrom_28 rfl ?_
        refine G.iadd C dX6_laysFrom_30 ?_
        refine G.iald C hf dX6_laysFrom_31 (fun v12 hv12 hf => ?_)
        try dsimp only at hf
        refine G.iload_n C 3 dX6_laysFrom_32 rfl rfl ?_
        refine G.isub C dX6_laysFrom_33 ?_
        refine G.istore (lv' := [(5, .int ((v12 - a2))), (4, .int (v10)), (0, .ref (a0)), (1, .int (a1)), (2, .int (a2)), (3, .int (x3))]) C dX6_laysFrom_34 (by decide) rfl ?_
        obtain ⟨z13, hlp13, hfo13⟩ := bind_some hf
        clear hf
        have hloop13 : ∀ (k : Nat), ∀ (x5 : Int32), (lpn (f_X6_laysFrom_L36 (hh) (a0) (a1) (a2) (x3) (v10)) k (x5)) = some z13 → G p l e ({ frames := 2, cells := 0, slots := 0, locals := 44 } : Room) s m args below meth c 6 g X h 0 0 (MQ below (QW g X h s.heap.size none r) args s 0 0 (AF X h s.heap.size)) 36 [(0, .ref (a0)), (1, .int (a1)), (2, .int (a2)), (3, .int (x3)), (4, .int (v10)), (5, .int (x5))] [] hh := by
          intro k
          induction k with
          | zero => intro x5 hlp13; exact (lpn_0 hlp13).elim
          | succ k ih13 =>
            intro x5 hlp13
            obtain ⟨y13, hf, hlp13⟩ := lpn_s hlp13
            unfold f_X6_laysFrom_L36 at hf
            try dsimp only at hf
            refine G.iload C 5 dX6_laysFrom_36 rfl ?_
            refine G.if_ge (tgt := 58) C dX6_laysFrom_38 (by decide) hf (fun c16 hf => ?_) (fun c16 hf => ?_)
            · cases hf
              change some _ = some _ at hlp13
              have hf := hfo13
              try rw [← Option.some.inj hlp13] at hf
              try dsimp only at hf
              refine G.sub C [0, 1, 2, 3, 4, 5] (lv' := [(0, .ref (a0)), (1, .int (a1)), (2, .int (a2)), (3, .int (x3)), (4, .int (v10)), (5, .int (x5))]) rfl ?_
              exact hj58 _ _ _ _ hf
            · refine G.iload C 5 dX6_laysFrom_41 rfl ?_
              refine G.aload_n C 0 dX6_laysFrom_43 rfl rfl ?_
              refine G.getR (ci := 5) (k := 1) C rfl inlX6 (by decide) m9_70 rfl hf dX6_laysFrom_44 (fun v14 hv14 hf => ?_)
              try dsimp only at hf
              refine G.iconst (v := 0) C dX6_laysFrom_47 (by decide) ?_
              refine G.iload C 4 dX6_laysFrom_48 rfl ?_
              refine G.iadd C dX6_laysFrom_50 ?_
              refine G.iald C hf dX6_laysFrom_51 (fun v15 hv15 hf => ?_)
              try dsimp only at hf
              refine G.iadd C dX6_laysFrom_52 ?_
              refine G.istore (lv' := [(5, .int ((x5 + v15))), (0, .ref (a0)), (1, .int (a1)), (2, .int (a2)), (3, .int (x3)), (4, .int (v10))]) C dX6_laysFrom_53 (by decide) rfl ?_
              refine G.goto (tgt := 36) C dX6_laysFrom_55 (by decide) ?_
              cases hf
              refine G.sub C [1, 2, 3, 4, 5, 0] (lv' := [(0, .ref (a0)), (1, .int (a1)), (2, .int (a2)), (3, .int (x3)), (4, .int (v10)), (5, .int ((x5 + v15)))]) rfl ?_
              exact ih13 _ hlp13
        refine G.sub C [2, 3, 4, 5, 1, 0] (lv' := [(0, .ref (a0)), (1, .int (a1)), (2, .int (a2)), (3, .int (x3)), (4, .int (v10)), (5, .int ((v12 - a2)))]) rfl ?_
        exact hloop13 LF _ hlp13
  refine G.sub C [1, 2, 3, 0] (lv' := [(0, .ref (a0)), (1, .int (a1)), (2, .int (a2)), (3, .int ((0 : Int32)))]) rfl ?_
  exact hloop1 LF _ _ hlp1
theorem ko_X6_drops {h : PH} {a0 : Nat} {a1 : Int32} {r : PH} (hf : f_X6_drops h a0 a1 = some r) : kO h a0 5 := by
  unfold f_X6_drops at hf
  exact okO_k (gd_ok hf).1
theorem kd_X6_drops : yX6_drops.cls = RX6 ∧ yX6_drops.cls ≠ "java/lang/invoke/MethodHandle" ∧ yX6_drops.cls ≠ "java/lang/invoke/VarHandle" ∧ (parseMethodDescriptor yX6_drops.desc).map (fun d => d.parameters.length) = some 1 := by decide +kernel
set_option maxRecDepth 20000 in
set_option maxHeartbeats 4000000 in
theorem ct_X6_drops {l : Launch} {h : PH} {a0 : Nat} {a1 : Int32} {r : PH} (hf : f_X6_drops h a0 a1 = some r) : CT l yX6_drops cX6_drops 3 none 1 21 [.ref (a0), .int (a1)] h none r := by
  refine CT.of (own := RX6) rfl (by decide) (Nat.le_of_ble_eq_true rfl) ?_
  intro p e R s m args below meth c g X hR C
  subst hR
  unfold f_X6_drops at hf
  obtain ⟨hok, hf⟩ := gd_ok hf
  have hj84 : ∀ (hh : PH), f_X6_drops_J84 hh = some r → G p l e ({ frames := 1, cells := 0, slots := 0, locals := 21 } : Room) s m args below meth c 3 g X h 0 0 (MQ below (QW g X h s.heap.size none r) args s 0 0 (AF X h s.heap.size)) 84 [] [] hh := by
    intro hh hf
    unfold f_X6_drops_J84 at hf
    cases hf
    exact G.vret C rfl dX6_drops_84
  have hj53 : ∀ (hh : PH) (x0 : Nat), f_X6_drops_J53 hh (x0) = some r → G p l e ({ frames := 1, cells := 0, slots := 0, locals := 21 } : Room) s m args below meth c 3 g X h 0 0 (MQ below (QW g X h s.heap.size none r) args s 0 0 (AF X h s.heap.size)) 53 [(0, .ref (x0))] [] hh := by
    intro hh x0 hf
    unfold f_X6_drops_J53 at hf
    refine G.iconst (v := 0) C dX6_drops_53 (by decide) ?_
    refine G.istore_n (lv' := [(2, .int ((0 : Int32))), (0, .ref (x0))]) C dX6_drops_54 rfl (by decide) rfl ?_
    obtain ⟨z19, hlp19, hfo19⟩ := bind_some hf
    clear hf
    have hloop19 : ∀ (k : Nat), ∀ (x2 : Int32) (hh : PH), (lpn (f_X6_drops_L55 (x0)) k (x2, hh)) = some z19 → G p l e ({ frames := 1, cells := 0, slots := 0, locals := 21 } : Room) s m args below meth c 3 g X h 0 0 (MQ below (QW g X h s.heap.size none r) args s 0 0 (AF X h s.heap.size)) 55 [(0, .ref (x0)), (2, .int (x2))] [] hh := by
      intro k
      induction k with
      | zero => intro x2 hh hlp19; exact (lpn_0 hlp19).elim
      | succ k ih19 =>
        intro x2 hh hlp19
        obtain ⟨y19, hf, hlp19⟩ := lpn_s hlp19
        unfold f_X6_drops_L55 at hf
        try dsimp only at hf
        refine G.iload_n C 1 dX6_drops_55 rfl rfl ?_
        refine G.bipush (v := 18) C dX6_drops_56 (by decide) ?_
        refine G.icmp_ge (tgt := 84) C dX6_drops_58 (by decide) hf (fun c25 hf => ?_) (fun c25 hf => ?_)
        · cases hf
          change some _ = some _ at hlp19
          have hf := hfo19
          try rw [← Option.some.inj hlp19] at hf
          try dsimp only at hf
          refine G.sub C [] (lv' := []) rfl ?_
          exact hj84 _ hf
        · refine G.aload_n C 0 dX6_drops_61 rfl rfl ?_
          refine G.getR (ci := 5) (k := 1) C rfl inlX6 (by decide) m9_70 rfl hf dX6_drops_62 (fun v20 hv20 hf => ?_)
          try dsimp only at hf
          refine G.aload_n C 0 dX6_drops_65 rfl rfl ?_
          refine G.getR (ci := 5) (k := 1) C rfl inlX6 (by decide) m9_70 rfl hf dX6_drops_66 (fun v21 hv21 hf => ?_)
          try dsimp only at hf
          refine G.bipush (v := 8) C dX6_drops_69 (by decide) ?_
          refine G.iald C hf dX6_drops_71 (fun v22 hv22 hf => ?_)
          try dsimp only at hf
          refine G.iload_n C 1 dX6_drops_72 rfl rfl ?_
          obtain ⟨v23, hv23, hf⟩ := bind_some hf
          try dsimp only at hf
          refine G.callS C (st := [.ref (v20)]) (st2 := [.int (v23), .ref (v20)]) (ct_X6_of hv23) m9_159 m9_160 m9_5 m9_161 kd_X6_of ⟨Nat.le_of_ble_eq_true rfl, Nat.le_of_ble_eq_true rfl⟩ ⟨Nat.zero_le _, Nat.zero_le _⟩ (Nat.le_of_ble_eq_true rfl) rfl rfl dX6_drops_73 ?_
          refine G.iconst (v := 0) C dX6_drops_76 (by decide) ?_
          refine G.iast C hf dX6_drops_77 (fun h24 hh24 hf => ?_)
          try dsimp only at hf
          refine G.iinc (k := 1) (v := (x2 + 1)) (lv' := [(2, .int ((x2 + 1))), (0, .ref (x0))]) C dX6_drops_78 rfl rfl (by decide) rfl ?_
          refine G.goto (tgt := 55) C dX6_drops_81 (by decide) ?_
          cases hf
          refine G.sub C [1, 0] (lv' := [(0, .ref (x0)), (2, .int ((x2 + 1)))]) rfl ?_
          exact ih19 _ _ hlp19
    refine G.sub C [1, 0] (lv' := [(0, .ref (x0)), (2, .int ((0 : Int32)))]) rfl ?_
    exact hloop19 LF _ _ hlp19
  refine G.sub C [0, 1] (lv' := [(0, .ref (a0)), (1, .int (a1))]) rfl ?_
  refine G.aload_n C 0 dX6_drops_0 rfl rfl ?_
  refine G.getR (ci := 5) (k := 1) C rfl inlX6 (by decide) m9_70 rfl hf dX6_drops_1 (fun v1 hv1 hf => ?_)
  try dsimp only at hf
  refine G.bipush (v := 8) C dX6_drops_4 (by decide) ?_
  refine G.dup2 C dX6_drops_6 rfl rfl ?_
  refine G.iald C hf dX6_drops_7 (fun v2 hv2 hf => ?_)
  try dsimp only at hf
  refine G.iconst (v := 1) C dX6_drops_8 (by decide) ?_
  refine G.isub C dX6_drops_9 ?_
  refine G.iast C hf dX6_drops_10 (fun h3 hh3 hf => ?_)
  try dsimp only at hf
  refine G.iload_n C 1 dX6_drops_11 rfl rfl ?_
  refine G.iconst (v := 0) C dX6_drops_12 (by decide) ?_
  obtain ⟨v4, hv4, hf⟩ := bind_some hf
  try dsimp only at hf
  refine G.callS C (st := []) (st2 := [.int (v4)]) (ct_X6_of hv4) m9_159 m9_160 m9_5 m9_161 kd_X6_of ⟨Nat.le_of_ble_eq_true rfl, Nat.le_of_ble_eq_true rfl⟩ ⟨Nat.zero_le _, Nat.zero_le _⟩ (Nat.le_of_ble_eq_true rfl) rfl rfl dX6_drops_13 ?_
  refine G.istore_n (lv' := [(2, .int (v4)), (0, .ref (a0)), (1, .int (a1))]) C dX6_drops_16 rfl (by decide) rfl ?_
  obtain ⟨z5, hlp5, hfo5⟩ := bind_some hf
  clear hf
  have hloop5 : ∀ (k : Nat), ∀ (x2 : Int32) (hh : PH), (lpn (f_X6_drops_L17 (a0)) k (x2, hh)) = some z5 → G p l e ({ frames := 1, cells := 0, slots := 0, locals := 21 } : Room) s m args below meth c 3 g X h 0 0 (MQ below (QW g X h s.heap.size none r) args s 0 0 (AF X h s.heap.size)) 17 [(0, .ref (a0)), (2, .int (x2))] [] hh := by
    intro k
    induction k with
    | zero => intro x2 hh hlp5; exact (lpn_0 hlp5).elim
    | succ k ih5 =>
      intro x2 hh hlp5
      obtain ⟨y5, hf, hlp5⟩ := lpn_s hlp5
      unfold f_X6_drops_L17 at hf
      try dsimp only at hf
      refine G.iload_n C 1 dX6_drops_17 rfl rfl ?_
      refine G.aload_n C 0 dX6_drops_18 rfl rfl ?_
      refine G.getR (ci := 5) (k := 1) C rfl inlX6 (by decide) m9_70 rfl hf dX6_drops_19 (fun v6 hv6 hf => ?_)
      try dsimp only at hf
      refine G.bipush (v := 8) C dX6_drops_22 (by decide) ?_
      refine G.iald C hf dX6_drops_24 (fun v7 hv7 hf => ?_)
      try dsimp only at hf
      refine G.iconst (v := 0) C dX6_drops_25 (by decide) ?_
      obtain ⟨v8, hv8, hf⟩ := bind_some hf
      try dsimp only at hf
      refine G.callS C (st := [.int (x2)]) (st2 := [.int (v8), .int (x2)]) (ct_X6_of hv8) m9_159 m9_160 m9_5 m9_161 kd_X6_of ⟨Nat.le_of_ble_eq_true rfl, Nat.le_of_ble_eq_true rfl⟩ ⟨Nat.zero_le _, Nat.zero_le _⟩ (Nat.le_of_ble_eq_true rfl) rfl rfl dX6_drops_26 ?_
      refine G.icmp_ge (tgt := 53) C dX6_drops_29 (by decide) hf (fun c13 hf => ?_) (fun c13 hf => ?_)
      · cases hf
        change some _ = some _ at hlp5
        have hf := hfo5
        try rw [← Option.some.inj hlp5] at hf
        try dsimp only at hf
        refine G.sub C [0] (lv' := [(0, .ref (a0))]) rfl ?_
        exact hj53 _ _ hf
      · refine G.aload_n C 0 dX6_drops_32 rfl rfl ?_
        refine G.getR (ci := 5) (k := 1) C rfl inlX6 (by decide) m9_70 rfl hf dX6_drops_33 (fun v9 hv9 hf => ?_)
        try dsimp only at hf
        refine G.iload_n C 1 dX6_drops_36 rfl rfl ?_
        refine G.aload_n C 0 dX6_drops_37 rfl rfl ?_
        refine G.getR (ci := 5) (k := 1) C rfl inlX6 (by decide) m9_70 rfl hf dX6_drops_38 (fun v10 hv10 hf => ?_)
        try dsimp only at hf
        refine G.iload_n C 1 dX6_drops_41 rfl rfl ?_
        refine G.bipush (v := 18) C dX6_drops_42 (by decide) ?_
        refine G.iadd C dX6_drops_44 ?_
        refine G.iald C hf dX6_drops_45 (fun v11 hv11 hf => ?_)
        try dsimp only at hf
        refine G.iast C hf dX6_drops_46 (fun h12 hh12 hf => ?_)
        try dsimp only at hf
        refine G.iinc (k := 1) (v := (x2 + 1)) (lv' := [(2, .int ((x2 + 1))), (0, .ref (a0))]) C dX6_drops_47 rfl rfl (by decide) rfl ?_
        refine G.goto (tgt := 17) C dX6_drops_50 (by decide) ?_
        cases hf
        refine G.sub C [1, 0] (lv' := [(0, .ref (a0)), (2, .int ((x2 + 1)))]) rfl ?_
        exact ih5 _ _ hlp5
  refine G.sub C [1, 0] (lv' := [(0, .ref (a0)), (2, .int (v4))]) rfl ?_
  exact hloop5 LF _ _ hlp5
theorem ko_X6_turns {h : PH} {a0 : Nat} {a1 : Int32} {r : PH} (hf : f_X6_turns h a0 a1 = some r) : kO h a0 5 := by
  unfold f_X6_turns at hf
  exact okO_k (gd_ok hf).1
theorem kd_X6_turns : yX6_turns.cls = RX6 ∧ yX6_turns.cls ≠ "java/lang/invoke/MethodHandle" ∧ yX6_turns.cls ≠ "java/lang/invoke/VarHandle" ∧ (parseMethodDescriptor yX6_turns.desc).map (fun d => d.parameters.length) = some 1 := by decide +kernel
set_option maxRecDepth 20000 in
set_option maxHeartbeats 4000000 in
theorem ct_X6_turns {l : Launch} {h : PH} {a0 : Nat} {a1 : Int32} {r : PH} (hf : f_X6_turns h a0 a1 = some r) : CT l yX6_turns cX6_turns 4 none 4 91 [.ref (a0), .int (a1)] h none r := by
  refine CT.of (own := RX6) rfl (by decide) (Nat.le_of_ble_eq_true rfl) ?_
  intro p e R s m args below meth c g X hR C
  subst hR
  unfold f_X6_turns at hf
  obtain ⟨hok, hf⟩ := gd_ok hf
  have hj60 : ∀ (hh : PH), f_X6_turns_J60 hh = some r → G p l e ({ frames := 4, cells := 0, slots := 0, locals := 91 } : Room) s m args below meth c 4 g X h 0 0 (MQ below (QW g X h s.heap.size none r) args s 0 0 (AF X h s.heap.size)) 60 [] [] hh := by
    intro hh hf
    unfold f_X6_turns_J60 at hf
    cases hf
    exact G.vret C rfl dX6_turns_60
  refine G.sub C [0, 1] (lv' := [(0, .ref (a0)), (1, .int (a1))]) rfl ?_
  refine G.aload_n C 0 dX6_turns_0 rfl rfl ?_
  refine G.iload_n C 1 dX6_turns_1 rfl rfl ?_
  obtain ⟨h1, hh1, hf⟩ := bind_some hf
  try dsimp only at hf
  refine G.callV C (st := []) (st2 := []) (ct_X6_remembers hh1) (ko_X6_remembers hh1) rfl m9_339 m9_340 m9_341 m9_5 m9_342 kd_X6_remembers ⟨Nat.le_of_ble_eq_true rfl, Nat.le_of_ble_eq_true rfl⟩ ⟨Nat.zero_le _, Nat.zero_le _⟩ (Nat.le_of_ble_eq_true rfl) rfl rfl dX6_turns_2 ?_
  refine G.iconst (v := 0) C dX6_turns_5 (by decide) ?_
  refine G.istore_n (lv' := [(2, .int ((0 : Int32))), (0, .ref (a0)), (1, .int (a1))]) C dX6_turns_6 rfl (by decide) rfl ?_
  obtain ⟨z2, hlp2, hfo2⟩ := bind_some hf
  clear hf
  have hloop2 : ∀ (k : Nat), ∀ (x2 : Int32) (hh : PH), (lpn (f_X6_turns_L7 (a0) (a1)) k (x2, hh)) = some z2 → G p l e ({ frames := 4, cells := 0, slots := 0, locals := 91 } : Room) s m args below meth c 4 g X h 0 0 (MQ below (QW g X h s.heap.size none r) args s 0 0 (AF X h s.heap.size)) 7 [(0, .ref (a0)), (1, .int (a1)), (2, .int (x2))] [] hh := by
    intro k
    induction k with
    | zero => intro x2 hh hlp2; exact (lpn_0 hlp2).elim
    | succ k ih2 =>
      intro x2 hh hlp2
      obtain ⟨y2, hf, hlp2⟩ := lpn_s hlp2
      unfold f_X6_turns_L7 at hf
      try dsimp only at hf
      refine G.iload_n C 2 dX6_turns_7 rfl rfl ?_
      refine G.aload_n C 0 dX6_turns_8 rfl rfl ?_
      refine G.getR (ci := 5) (k := 9) C rfl inlX6 (by decide) m9_75 rfl hf dX6_turns_9 (fun v3 hv3 hf => ?_)
      try dsimp only at hf
      refine G.iconst (v := 1) C dX6_turns_12 (by decide) ?_
      refine G.iald C hf dX6_turns_13 (fun v4 hv4 hf => ?_)
      try dsimp only at hf
      refine G.icmp_ge (tgt := 60) C dX6_turns_14 (by decide) hf (fun c13 hf => ?_) (fun c13 hf => ?_)
      · cases hf
        change some _ = some _ at hlp2
        have hf := hfo2
        try rw [← Option.some.inj hlp2] at hf
        try dsimp only at hf
        refine G.sub C [] (lv' := []) rfl ?_
        exact hj60 _ hf
      · refine G.aload_n C 0 dX6_turns_17 rfl rfl ?_
        refine G.getR (ci := 5) (k := 9) C rfl inlX6 (by decide) m9_75 rfl hf dX6_turns_18 (fun v5 hv5 hf => ?_)
        try dsimp only at hf
        refine G.iconst (v := 2) C dX6_turns_21 (by decide) ?_
        refine G.iload_n C 2 dX6_turns_22 rfl rfl ?_
        refine G.iadd C dX6_turns_23 ?_
        refine G.iald C hf dX6_turns_24 (fun v6 hv6 hf => ?_)
        try dsimp only at hf
        refine G.istore_n (lv' := [(3, .int (v6)), (0, .ref (a0)), (1, .int (a1)), (2, .int (x2))]) C dX6_turns_25 rfl (by decide) rfl ?_
        refine G.aload_n C 1 dX6_turns_26 rfl rfl ?_
        refine G.getR (ci := 5) (k := 1) C rfl inlX6 (by decide) m9_70 rfl hf dX6_turns_27 (fun v7 hv7 hf => ?_)
        try dsimp only at hf
        refine G.iload_n C 2 dX6_turns_30 rfl rfl ?_
        refine G.bipush (v := 10) C dX6_turns_31 (by decide) ?_
        refine G.iload_n C 0 dX6_turns_33 rfl rfl ?_
        refine G.iadd C dX6_turns_34 ?_
        obtain ⟨v8, hv8, hf⟩ := bind_some hf
        try dsimp only at hf
        refine G.callS C (st := [.ref (v7)]) (st2 := [.int (v8), .ref (v7)]) (ct_X6_of hv8) m9_159 m9_160 m9_5 m9_161 kd_X6_of ⟨Nat.le_of_ble_eq_true rfl, Nat.le_of_ble_eq_true rfl⟩ ⟨Nat.zero_le _, Nat.zero_le _⟩ (Nat.le_of_ble_eq_true rfl) rfl rfl dX6_turns_35 ?_
        refine G.aload_n C 1 dX6_turns_38 rfl rfl ?_
        refine G.getR (ci := 5) (k := 9) C rfl inlX6 (by decide) m9_75 rfl hf dX6_turns_39 (fun v9 hv9 hf => ?_)
        try dsimp only at hf
        refine G.iconst (v := 0) C dX6_turns_42 (by decide) ?_
        refine G.iald C hf dX6_turns_43 (fun v10 hv10 hf => ?_)
        try dsimp only at hf
        refine G.iconst (v := 1) C dX6_turns_44 (by decide) ?_
        refine G.isub C dX6_turns_45 ?_
        refine G.aload_n C 1 dX6_turns_46 rfl rfl ?_
        refine G.iload_n C 2 dX6_turns_47 rfl rfl ?_
        refine G.iload_n C 0 dX6_turns_48 rfl rfl ?_
        obtain ⟨v11, hv11, hf⟩ := bind_some hf
        try dsimp only at hf
        refine G.callV C (st := [.int ((v10 - (1 : Int32))), .int (v8), .ref (v7)]) (st2 := [.int (v11), .int ((v10 - (1 : Int32))), .int (v8), .ref (v7)]) (ct_X6_lastOf hv11) (ko_X6_lastOf hv11) rfl m9_451 m9_452 m9_453 m9_5 m9_454 kd_X6_lastOf ⟨Nat.le_of_ble_eq_true rfl, Nat.le_of_ble_eq_true rfl⟩ ⟨Nat.zero_le _, Nat.zero_le _⟩ (Nat.le_of_ble_eq_true rfl) rfl rfl dX6_turns_49 ?_
        refine G.isub C dX6_turns_52 ?_
        refine G.iast C hf dX6_turns_53 (fun h12 hh12 hf => ?_)
        try dsimp only at hf
        refine G.iinc (k := 3) (v := (x2 + 1)) (lv' := [(2, .int ((x2 + 1))), (3, .int (v6)), (0, .ref (a0)), (1, .int (a1))]) C dX6_turns_54 rfl rfl (by decide) rfl ?_
        refine G.goto (tgt := 7) C dX6_turns_57 (by decide) ?_
        cases hf
        refine G.sub C [2, 3, 0] (lv' := [(0, .ref (a0)), (1, .int (a1)), (2, .int ((x2 + 1)))]) rfl ?_
        exact ih2 _ _ hlp2
  refine G.sub C [1, 2, 0] (lv' := [(0, .ref (a0)), (1, .int (a1)), (2, .int ((0 : Int32)))]) rfl ?_
  exact hloop2 LF _ _ hlp2
theorem ko_X6_unlikeTurned {h : PH} {a0 : Nat} {a1 : Int32} {r : Int32} (hf : f_X6_unlikeTurned h a0 a1 = some r) : kO h a0 5 := by
  unfold f_X6_unlikeTurned at hf
  exact okO_k (gd_ok hf).1
theorem kd_X6_unlikeTurned : yX6_unlikeTurned.cls = RX6 ∧ yX6_unlikeTurned.cls ≠ "java/lang/invoke/MethodHandle" ∧ yX6_unlikeTurned.cls ≠ "java/lang/invoke/VarHandle" ∧ (parseMethodDescriptor yX6_unlikeTurned.desc).map (fun d => d.parameters.length) = some 1 := by decide +kernel
set_option maxRecDepth 20000 in
set_option maxHeartbeats 4000000 in
theorem ct_X6_unlikeTurned {l : Launch} {h : PH} {a0 : Nat} {a1 : Int32} {r : Int32} (hf : f_X6_unlikeTurned h a0 a1 = some r) : CT l yX6_unlikeTurned cX6_unlikeTurned 4 (some .int) 4 91 [.ref (a0), .int (a1)] h (some (.int r)) h := by
  refine CT.of (own := RX6) rfl (by decide) (Nat.le_of_ble_eq_true rfl) ?_
  intro p e R s m args below meth c g X hR C
  subst hR
  unfold f_X6_unlikeTurned at hf
  obtain ⟨hok, hf⟩ := gd_ok hf
  have hj60 : ∀ (x2 : Int32), f_X6_unlikeTurned_J60 h (x2) = some r → G p l e ({ frames := 4, cells := 0, slots := 0, locals := 91 } : Room) s m args below meth c 4 g X h 0 0 (MQ below (QW g X h s.heap.size (some (.int r)) h) args s 0 0 (AF X h s.heap.size)) 60 [(2, .int (x2))] [] h := by
    intro x2 hf
    unfold f_X6_unlikeTurned_J60 at hf
    refine G.iload_n C 0 dX6_unlikeTurned_60 rfl rfl ?_
    cases hf
    exact G.iret C rfl dX6_unlikeTurned_61
  refine G.sub C [0, 1] (lv' := [(0, .ref (a0)), (1, .int (a1))]) rfl ?_
  refine G.iconst (v := 0) C dX6_unlikeTurned_0 (by decide) ?_
  refine G.istore_n (lv' := [(2, .int ((0 : Int32))), (0, .ref (a0)), (1, .int (a1))]) C dX6_unlikeTurned_1 rfl (by decide) rfl ?_
  refine G.iconst (v := 0) C dX6_unlikeTurned_2 (by decide) ?_
  refine G.istore_n (lv' := [(3, .int ((0 : Int32))), (2, .int ((0 : Int32))), (0, .ref (a0)), (1, .int (a1))]) C dX6_unlikeTurned_3 rfl (by decide) rfl ?_
  obtain ⟨z1, hlp1, hfo1⟩ := bind_some hf
  clear hf
  have hloop1 : ∀ (k : Nat), ∀ (x2 : Int32) (x3 : Int32), (lpn (f_X6_unlikeTurned_L4 (h) (a0) (a1)) k (x2, x3)) = some z1 → G p l e ({ frames := 4, cells := 0, slots := 0, locals := 91 } : Room) s m args below meth c 4 g X h 0 0 (MQ below (QW g X h s.heap.size (some (.int r)) h) args s 0 0 (AF X h s.heap.size)) 4 [(0, .ref (a0)), (1, .int (a1)), (2, .int (x2)), (3, .int (x3))] [] h := by
    intro k
    induction k with
    | zero => intro x2 x3 hlp1; exact (lpn_0 hlp1).elim
    | succ k ih1 =>
      intro x2 x3 hlp1
      obtain ⟨y1, hf, hlp1⟩ := lpn_s hlp1
      unfold f_X6_unlikeTurned_L4 at hf
      try dsimp only at hf
      have hj52 : ∀ (x3 : Int32) (k0 : Int32) (k1 : Int32), f_X6_unlikeTurned_J52 h (a0) (a1) (x3) k0 k1 = some y1 → G p l e ({ frames := 4, cells := 0, slots := 0, locals := 91 } : Room) s m args below meth c 4 g X h 0 0 (MQ below (QW g X h s.heap.size (some (.int r)) h) args s 0 0 (AF X h s.heap.size)) 52 [(0, .ref (a0)), (1, .int (a1)), (3, .int (x3))] [.int (k1), .int (k0)] h := by
        intro x3 k0 k1 hf
        unfold f_X6_unlikeTurned_J52 at hf
        refine G.iadd C dX6_unlikeTurned_52 ?_
        refine G.istore_n (lv' := [(2, .int ((k0 + k1))), (0, .ref (a0)), (1, .int (a1)), (3, .int (x3))]) C dX6_unlikeTurned_53 rfl (by decide) rfl ?_
        refine G.iinc (k := 3) (v := (x3 + 1)) (lv' := [(3, .int ((x3 + 1))), (2, .int ((k0 + k1))), (0, .ref (a0)), (1, .int (a1))]) C dX6_unlikeTurned_54 rfl rfl (by decide) rfl ?_
        refine G.goto (tgt := 4) C dX6_unlikeTurned_57 (by decide) ?_
        cases hf
        refine G.sub C [2, 3, 1, 0] (lv' := [(0, .ref (a0)), (1, .int (a1)), (2, .int ((k0 + k1))), (3, .int ((x3 + 1)))]) rfl ?_
        exact ih1 _ _ hlp1
      refine G.iload_n C 3 dX6_unlikeTurned_4 rfl rfl ?_
      refine G.aload_n C 0 dX6_unlikeTurned_5 rfl rfl ?_
      refine G.getR (ci := 5) (k := 1) C rfl inlX6 (by decide) m9_70 rfl hf dX6_unlikeTurned_6 (fun v2 hv2 hf => ?_)
      try dsimp only at hf
      refine G.iload_n C 1 dX6_unlikeTurned_9 rfl rfl ?_
      refine G.iconst (v := 0) C dX6_unlikeTurned_10 (by decide) ?_
      obtain ⟨v3, hv3, hf⟩ := bind_some hf
      try dsimp only at hf
      refine G.callS C (st := [.ref (v2), .int (x3)]) (st2 := [.int (v3), .ref (v2), .int (x3)]) (ct_X6_of hv3) m9_159 m9_160 m9_5 m9_161 kd_X6_of ⟨Nat.le_of_ble_eq_true rfl, Nat.le_of_ble_eq_true rfl⟩ ⟨Nat.zero_le _, Nat.zero_le _⟩ (Nat.le_of_ble_eq_true rfl) rfl rfl dX6_unlikeTurned_11 ?_
      refine G.iald C hf dX6_unlikeTurned_14 (fun v4 hv4 hf => ?_)
      try dsimp only at hf
      refine G.icmp_ge (tgt := 60) C dX6_unlikeTurned_15 (by decide) hf (fun c11 hf => ?_) (fun c11 hf => ?_)
      · cases hf
        change some _ = some _ at hlp1
        have hf := hfo1
        try rw [← Option.some.inj hlp1] at hf
        try dsimp only at hf
        refine G.sub C [2] (lv' := [(2, .int (x2))]) rfl ?_
        exact hj60 _ hf
      · refine G.iload_n C 2 dX6_unlikeTurned_18 rfl rfl ?_
        refine G.aload_n C 0 dX6_unlikeTurned_19 rfl rfl ?_
        refine G.iload_n C 1 dX6_unlikeTurned_20 rfl rfl ?_
        refine G.iload_n C 3 dX6_unlikeTurned_21 rfl rfl ?_
        obtain ⟨v5, hv5, hf⟩ := bind_some hf
        try dsimp only at hf
        refine G.callV C (st := [.int (x2)]) (st2 := [.int (v5), .int (x2)]) (ct_X6_hueAt hv5) (ko_X6_hueAt hv5) rfl m9_299 m9_300 m9_301 m9_5 m9_302 kd_X6_hueAt ⟨Nat.le_of_ble_eq_true rfl, Nat.le_of_ble_eq_true rfl⟩ ⟨Nat.zero_le _, Nat.zero_le _⟩ (Nat.le_of_ble_eq_true rfl) rfl rfl dX6_unlikeTurned_22 ?_
        refine G.aload_n C 0 dX6_unlikeTurned_25 rfl rfl ?_
        refine G.iload_n C 1 dX6_unlikeTurned_26 rfl rfl ?_
        refine G.aload_n C 0 dX6_unlikeTurned_27 rfl rfl ?_
        refine G.getR (ci := 5) (k := 1) C rfl inlX6 (by decide) m9_70 rfl hf dX6_unlikeTurned_28 (fun v6 hv6 hf => ?_)
        try dsimp only at hf
        refine G.iload_n C 1 dX6_unlikeTurned_31 rfl rfl ?_
        refine G.iconst (v := 0) C dX6_unlikeTurned_32 (by decide) ?_
        obtain ⟨v7, hv7, hf⟩ := bind_some hf
        try dsimp only at hf
        refine G.callS C (st := [.ref (v6), .int (a1), .ref (a0), .int (v5), .int (x2)]) (st2 := [.int (v7), .ref (v6), .int (a1), .ref (a0), .int (v5), .int (x2)]) (ct_X6_of hv7) m9_159 m9_160 m9_5 m9_161 kd_X6_of ⟨Nat.le_of_ble_eq_true rfl, Nat.le_of_ble_eq_true rfl⟩ ⟨Nat.zero_le _, Nat.zero_le _⟩ (Nat.le_of_ble_eq_true rfl) rfl rfl dX6_unlikeTurned_33 ?_
        refine G.iald C hf dX6_unlikeTurned_36 (fun v8 hv8 hf => ?_)
        try dsimp only at hf
        refine G.iconst (v := 1) C dX6_unlikeTurned_37 (by decide) ?_
        refine G.isub C dX6_unlikeTurned_38 ?_
        refine G.iload_n C 3 dX6_unlikeTurned_39 rfl rfl ?_
        refine G.isub C dX6_unlikeTurned_40 ?_
        obtain ⟨v9, hv9, hf⟩ := bind_some hf
        try dsimp only at hf
        refine G.callV C (st := [.int (v5), .int (x2)]) (st2 := [.int (v9), .int (v5), .int (x2)]) (ct_X6_hueAt hv9) (ko_X6_hueAt hv9) rfl m9_299 m9_300 m9_301 m9_5 m9_302 kd_X6_hueAt ⟨Nat.le_of_ble_eq_true rfl, Nat.le_of_ble_eq_true rfl⟩ ⟨Nat.zero_le _, Nat.zero_le _⟩ (Nat.le_of_ble_eq_true rfl) rfl rfl dX6_unlikeTurned_41 ?_
        refine G.icmp_eq (tgt := 51) C dX6_unlikeTurned_44 (by decide) hf (fun c10 hf => ?_) (fun c10 hf => ?_)
        · refine G.iconst (v := 0) C dX6_unlikeTurned_51 (by decide) ?_
          refine G.sub C [0, 1, 3] (lv' := [(0, .ref (a0)), (1, .int (a1)), (3, .int (x3))]) rfl ?_
          exact hj52 _ _ _ hf
        · refine G.iconst (v := 1) C dX6_unlikeTurned_47 (by decide) ?_
          refine G.goto (tgt := 52) C dX6_unlikeTurned_48 (by decide) ?_
          refine G.sub C [0, 1, 3] (lv' := [(0, .ref (a0)), (1, .int (a1)), (3, .int (x3))]) rfl ?_
          exact hj52 _ _ _ hf
  refine G.sub C [2, 3, 1, 0] (lv' := [(0, .ref (a0)), (1, .int (a1)), (2, .int ((0 : Int32))), (3, .int ((0 : Int32)))]) rfl ?_
  exact hloop1 LF _ _ hlp1
theorem ko_X6_takesOff {h : PH} {a0 : Nat} {a1 : Int32} {a2 : Int32} {r : PH} (hf : f_X6_takesOff h a0 a1 a2 = some r) : kO h a0 5 := by
  unfold f_X6_takesOff at hf
  exact okO_k (gd_ok hf).1
theorem kd_X6_takesOff : yX6_takesOff.cls = RX6 ∧ yX6_takesOff.cls ≠ "java/lang/invoke/MethodHandle" ∧ yX6_takesOff.cls ≠ "java/lang/invoke/VarHandle" ∧ (parseMethodDescriptor yX6_takesOff.desc).map (fun d => d.parameters.length) = some 2 := by decide +kernel
set_option maxRecDepth 20000 in
set_option maxHeartbeats 4000000 in
theorem ct_X6_takesOff {l : Launch} {h : PH} {a0 : Nat} {a1 : Int32} {a2 : Int32} {r : PH} (hf : f_X6_takesOff h a0 a1 a2 = some r) : CT l yX6_takesOff cX6_takesOff 4 none 2 44 [.ref (a0), .int (a1), .int (a2)] h none r := by
  refine CT.of (own := RX6) rfl (by decide) (Nat.le_of_ble_eq_true rfl) ?_
  intro p e R s m args below meth c g X hR C
  subst hR
  unfold f_X6_takesOff at hf
  obtain ⟨hok, hf⟩ := gd_ok hf
  have hj75 : ∀ (hh : PH), f_X6_takesOff_J75 hh = some r → G p l e ({ frames := 2, cells := 0, slots := 0, locals := 44 } : Room) s m args below meth c 4 g X h 0 0 (MQ below (QW g X h s.heap.size none r) args s 0 0 (AF X h s.heap.size)) 75 [] [] hh := by
    intro hh hf
    unfold f_X6_takesOff_J75 at hf
    cases hf
    exact G.vret C rfl dX6_takesOff_75
  refine G.sub C [0, 1, 2] (lv' := [(0, .ref (a0)), (1, .int (a1)), (2, .int (a2))]) rfl ?_
  refine G.aload_n C 0 dX6_takesOff_0 rfl rfl ?_
  refine G.iload_n C 1 dX6_takesOff_1 rfl rfl ?_
  obtain ⟨h1, hh1, hf⟩ := bind_some hf
  try dsimp only at hf
  refine G.callV C (st := []) (st2 := []) (ct_X6_remembers hh1) (ko_X6_remembers hh1) rfl m9_339 m9_340 m9_341 m9_5 m9_342 kd_X6_remembers ⟨Nat.le_of_ble_eq_true rfl, Nat.le_of_ble_eq_true rfl⟩ ⟨Nat.zero_le _, Nat.zero_le _⟩ (Nat.le_of_ble_eq_true rfl) rfl rfl dX6_takesOff_2 ?_
  refine G.aload_n C 0 dX6_takesOff_5 rfl rfl ?_
  refine G.iload_n C 1 dX6_takesOff_6 rfl rfl ?_
  refine G.aload_n C 0 dX6_takesOff_7 rfl rfl ?_
  refine G.getR (ci := 5) (k := 9) C rfl inlX6 (by decide) m9_75 rfl hf dX6_takesOff_8 (fun v2 hv2 hf => ?_)
  try dsimp only at hf
  refine G.iconst (v := 0) C dX6_takesOff_11 (by decide) ?_
  refine G.iald C hf dX6_takesOff_12 (fun v3 hv3 hf => ?_)
  try dsimp only at hf
  obtain ⟨h4, hh4, hf⟩ := bind_some hf
  try dsimp only at hf
  refine G.callV C (st := []) (st2 := []) (ct_X6_clears hh4) (ko_X6_clears hh4) rfl m9_218 m9_219 m9_220 m9_5 m9_221 kd_X6_clears ⟨Nat.le_of_ble_eq_true rfl, Nat.le_of_ble_eq_true rfl⟩ ⟨Nat.zero_le _, Nat.zero_le _⟩ (Nat.le_of_ble_eq_true rfl) rfl rfl dX6_takesOff_13 ?_
  refine G.iconst (v := 0) C dX6_takesOff_16 (by decide) ?_
  refine G.istore_n (lv' := [(3, .int ((0 : Int32))), (0, .ref (a0)), (1, .int (a1)), (2, .int (a2))]) C dX6_takesOff_17 rfl (by decide) rfl ?_
  obtain ⟨z5, hlp5, hfo5⟩ := bind_some hf
  clear hf
  have hloop5 : ∀ (k : Nat), ∀ (x3 : Int32) (hh : PH), (lpn (f_X6_takesOff_L18 (a0) (a1) (a2)) k (x3, hh)) = some z5 → G p l e ({ frames := 2, cells := 0, slots := 0, locals := 44 } : Room) s m args below meth c 4 g X h 0 0 (MQ below (QW g X h s.heap.size none r) args s 0 0 (AF X h s.heap.size)) 18 [(0, .ref (a0)), (1, .int (a1)), (2, .int (a2)), (3, .int (x3))] [] hh := by
    intro k
    induction k with
    | zero => intro x3 hh hlp5; exact (lpn_0 hlp5).elim
    | succ k ih5 =>
      intro x3 hh hlp5
      obtain ⟨y5, hf, hlp5⟩ := lpn_s hlp5
      unfold f_X6_takesOff_L18 at hf
      try dsimp only at hf
      have hj69 : ∀ (hh : PH) (x3 : Int32), f_X6_takesOff_J69 hh (a0) (a1) (a2) (x3) = some y5 → G p l e ({ frames := 2, cells := 0, slots := 0, locals := 44 } : Room) s m args below meth c 4 g X h 0 0 (MQ below (QW g X h s.heap.size none r) args s 0 0 (AF X h s.heap.size)) 69 [(0, .ref (a0)), (1, .int (a1)), (2, .int (a2)), (3, .int (x3))] [] hh := by
        intro hh x3 hf
        unfold f_X6_takesOff_J69 at hf
        refine G.iinc (k := 3) (v := (x3 + 1)) (lv' := [(3, .int ((x3 + 1))), (0, .ref (a0)), (1, .int (a1)), (2, .int (a2))]) C dX6_takesOff_69 rfl rfl (by decide) rfl ?_
        refine G.goto (tgt := 18) C dX6_takesOff_72 (by decide) ?_
        cases hf
        refine G.sub C [1, 2, 3, 0] (lv' := [(0, .ref (a0)), (1, .int (a1)), (2, .int (a2)), (3, .int ((x3 + 1)))]) rfl ?_
        exact ih5 _ _ hlp5
      refine G.iload_n C 3 dX6_takesOff_18 rfl rfl ?_
      refine G.aload_n C 0 dX6_takesOff_19 rfl rfl ?_
      refine G.getR (ci := 5) (k := 9) C rfl inlX6 (by decide) m9_75 rfl hf dX6_takesOff_20 (fun v6 hv6 hf => ?_)
      try dsimp only at hf
      refine G.iconst (v := 1) C dX6_takesOff_23 (by decide) ?_
      refine G.iald C hf dX6_takesOff_24 (fun v7 hv7 hf => ?_)
      try dsimp only at hf
      refine G.icmp_ge (tgt := 75) C dX6_takesOff_25 (by decide) hf (fun c18 hf => ?_) (fun c18 hf => ?_)
      · cases hf
        change some _ = some _ at hlp5
        have hf := hfo5
        try rw [← Option.some.inj hlp5] at hf
        try dsimp only at hf
        refine G.sub C [] (lv' := []) rfl ?_
        exact hj75 _ hf
      · refine G.aload_n C 0 dX6_takesOff_28 rfl rfl ?_
        refine G.getR (ci := 5) (k := 9) C rfl inlX6 (by decide) m9_75 rfl hf dX6_takesOff_29 (fun v8 hv8 hf => ?_)
        try dsimp only at hf
        refine G.iconst (v := 2) C dX6_takesOff_32 (by decide) ?_
        refine G.iload_n C 3 dX6_takesOff_33 rfl rfl ?_
        refine G.iadd C dX6_takesOff_34 ?_
        refine G.iald C hf dX6_takesOff_35 (fun v9 hv9 hf => ?_)
        try dsimp only at hf
        refine G.iload_n C 2 dX6_takesOff_36 rfl rfl ?_
        refine G.icmp_eq (tgt := 69) C dX6_takesOff_37 (by decide) hf (fun c17 hf => ?_) (fun c17 hf => ?_)
        · refine G.sub C [0, 1, 2, 3] (lv' := [(0, .ref (a0)), (1, .int (a1)), (2, .int (a2)), (3, .int (x3))]) rfl ?_
          exact hj69 _ _ hf
        · refine G.aload_n C 0 dX6_takesOff_40 rfl rfl ?_
          refine G.iload_n C 1 dX6_takesOff_41 rfl rfl ?_
          refine G.aload_n C 0 dX6_takesOff_42 rfl rfl ?_
          refine G.getR (ci := 5) (k := 9) C rfl inlX6 (by decide) m9_75 rfl hf dX6_takesOff_43 (fun v10 hv10 hf => ?_)
          try dsimp only at hf
          refine G.iconst (v := 2) C dX6_takesOff_46 (by decide) ?_
          refine G.iload_n C 3 dX6_takesOff_47 rfl rfl ?_
          refine G.iadd C dX6_takesOff_48 ?_
          refine G.iald C hf dX6_takesOff_49 (fun v11 hv11 hf => ?_)
          try dsimp only at hf
          refine G.aload_n C 0 dX6_takesOff_50 rfl rfl ?_
          refine G.getR (ci := 5) (k := 9) C rfl inlX6 (by decide) m9_75 rfl hf dX6_takesOff_51 (fun v12 hv12 hf => ?_)
          try dsimp only at hf
          refine G.bipush (v := 10) C dX6_takesOff_54 (by decide) ?_
          refine G.aload_n C 0 dX6_takesOff_56 rfl rfl ?_
          refine G.getR (ci := 5) (k := 9) C rfl inlX6 (by decide) m9_75 rfl hf dX6_takesOff_57 (fun v13 hv13 hf => ?_)
          try dsimp only at hf
          refine G.iconst (v := 2) C dX6_takesOff_60 (by decide) ?_
          refine G.iload_n C 3 dX6_takesOff_61 rfl rfl ?_
          refine G.iadd C dX6_takesOff_62 ?_
          refine G.iald C hf dX6_takesOff_63 (fun v14 hv14 hf => ?_)
          try dsimp only at hf
          refine G.iadd C dX6_takesOff_64 ?_
          refine G.iald C hf dX6_takesOff_65 (fun v15 hv15 hf => ?_)
          try dsimp only at hf
          obtain ⟨h16, hh16, hf⟩ := bind_some hf
          try dsimp only at hf
          refine G.callV C (st := []) (st2 := []) (ct_X6_lays hh16) (ko_X6_lays hh16) rfl m9_307 m9_308 m9_309 m9_5 m9_310 kd_X6_lays ⟨Nat.le_of_ble_eq_true rfl, Nat.le_of_ble_eq_true rfl⟩ ⟨Nat.zero_le _, Nat.zero_le _⟩ (Nat.le_of_ble_eq_true rfl) rfl rfl dX6_takesOff_66 ?_
          refine G.sub C [0, 1, 2, 3] (lv' := [(0, .ref (a0)), (1, .int (a1)), (2, .int (a2)), (3, .int (x3))]) rfl ?_
          exact hj69 _ _ hf
  refine G.sub C [1, 2, 3, 0] (lv' := [(0, .ref (a0)), (1, .int (a1)), (2, .int (a2)), (3, .int ((0 : Int32)))]) rfl ?_
  exact hloop5 LF _ _ hlp5
theorem ko_X6_isLaidAnywhere {h : PH} {a0 : Nat} {a1 : Int32} {r : Int32} (hf : f_X6_isLaidAnywhere h a0 a1 = some r) : kO h a0 5 := by
  unfold f_X6_isLaidAnywhere at hf
  exact okO_k (gd_ok hf).1
theorem kd_X6_isLaidAnywhere : yX6_isLaidAnywhere.cls = RX6 ∧ yX6_isLaidAnywhere.cls ≠ "java/lang/invoke/MethodHandle" ∧ yX6_isLaidAnywhere.cls ≠ "java/lang/invoke/VarHandle" ∧ (parseMethodDescriptor yX6_isLaidAnywhere.desc).map (fun d => d.parameters.length) = some 1 := by decide +kernel
set_option maxRecDepth 20000 in
set_option maxHeartbeats 4000000 in
theorem ct_X6_isLaidAnywhere {l : Launch} {h : PH} {a0 : Nat} {a1 : Int32} {r : Int32} (hf : f_X6_isLaidAnywhere h a0 a1 = some r) : CT l yX6_isLaidAnywhere cX6_isLaidAnywhere 4 (some .boolean) 3 65 [.ref (a0), .int (a1)] h (some (.int r)) h := by
  refine CT.of (own := RX6) rfl (by decide) (Nat.le_of_ble_eq_true rfl) ?_
  intro p e R s m args below meth c g X hR C
  subst hR
  unfold f_X6_isLaidAnywhere at hf
  obtain ⟨hok, hf⟩ := gd_ok hf
  have hj40 : ∀ (x2 : Int32), f_X6_isLaidAnywhere_J40 h (x2) = some r → G p l e ({ frames := 3, cells := 0, slots := 0, locals := 65 } : Room) s m args below meth c 4 g X h 0 0 (MQ below (QW g X h s.heap.size (some (.int r)) h) args s 0 0 (AF X h s.heap.size)) 40 [(2, .int (x2))] [] h := by
    intro x2 hf
    unfold f_X6_isLaidAnywhere_J40 at hf
    refine G.iload_n C 0 dX6_isLaidAnywhere_40 rfl rfl ?_
    obtain ⟨c6, hf⟩ := gd_ok hf
    cases hf
    exact G.zret C rfl (z01_n c6) dX6_isLaidAnywhere_41
  refine G.sub C [0, 1] (lv' := [(0, .ref (a0)), (1, .int (a1))]) rfl ?_
  refine G.iconst (v := 0) C dX6_isLaidAnywhere_0 (by decide) ?_
  refine G.istore_n (lv' := [(2, .int ((0 : Int32))), (0, .ref (a0)), (1, .int (a1))]) C dX6_isLaidAnywhere_1 rfl (by decide) rfl ?_
  refine G.iconst (v := 0) C dX6_isLaidAnywhere_2 (by decide) ?_
  refine G.istore_n (lv' := [(3, .int ((0 : Int32))), (2, .int ((0 : Int32))), (0, .ref (a0)), (1, .int (a1))]) C dX6_isLaidAnywhere_3 rfl (by decide) rfl ?_
  obtain ⟨z1, hlp1, hfo1⟩ := bind_some hf
  clear hf
  have hloop1 : ∀ (k : Nat), ∀ (x2 : Int32) (x3 : Int32), (lpn (f_X6_isLaidAnywhere_L4 (h) (a0) (a1)) k (x2, x3)) = some z1 → G p l e ({ frames := 3, cells := 0, slots := 0, locals := 65 } : Room) s m args below meth c 4 g X h 0 0 (MQ below (QW g X h s.heap.size (some (.int r)) h) args s 0 0 (AF X h s.heap.size)) 4 [(0, .ref (a0)), (1, .int (a1)), (2, .int (x2)), (3, .int (x3))] [] h := by
    intro k
    induction k with
    | zero => intro x2 x3 hlp1; exact (lpn_0 hlp1).elim
    | succ k ih1 =>
      intro x2 x3 hlp1
      obtain ⟨y1, hf, hlp1⟩ := lpn_s hlp1
      unfold f_X6_isLaidAnywhere_L4 at hf
      try dsimp only at hf
      have hj33 : ∀ (x3 : Int32) (k0 : Int32), f_X6_isLaidAnywhere_J33 h (a0) (a1) (x3) k0 = some y1 → G p l e ({ frames := 3, cells := 0, slots := 0, locals := 65 } : Room) s m args below meth c 4 g X h 0 0 (MQ below (QW g X h s.heap.size (some (.int r)) h) args s 0 0 (AF X h s.heap.size)) 33 [(0, .ref (a0)), (1, .int (a1)), (3, .int (x3))] [.int (k0)] h := by
        intro x3 k0 hf
        unfold f_X6_isLaidAnywhere_J33 at hf
        refine G.istore_n (lv' := [(2, .int (k0)), (0, .ref (a0)), (1, .int (a1)), (3, .int (x3))]) C dX6_isLaidAnywhere_33 rfl (by decide) rfl ?_
        refine G.iinc (k := 3) (v := (x3 + 1)) (lv' := [(3, .int ((x3 + 1))), (2, .int (k0)), (0, .ref (a0)), (1, .int (a1))]) C dX6_isLaidAnywhere_34 rfl rfl (by decide) rfl ?_
        refine G.goto (tgt := 4) C dX6_isLaidAnywhere_37 (by decide) ?_
        cases hf
        refine G.sub C [2, 3, 1, 0] (lv' := [(0, .ref (a0)), (1, .int (a1)), (2, .int (k0)), (3, .int ((x3 + 1)))]) rfl ?_
        exact ih1 _ _ hlp1
      have hj28 : ∀ (x3 : Int32), f_X6_isLaidAnywhere_J28 h (a0) (a1) (x3) = some y1 → G p l e ({ frames := 3, cells := 0, slots := 0, locals := 65 } : Room) s m args below meth c 4 g X h 0 0 (MQ below (QW g X h s.heap.size (some (.int r)) h) args s 0 0 (AF X h s.heap.size)) 28 [(0, .ref (a0)), (1, .int (a1)), (3, .int (x3))] [] h := by
        intro x3 hf
        unfold f_X6_isLaidAnywhere_J28 at hf
        refine G.iconst (v := 1) C dX6_isLaidAnywhere_28 (by decide) ?_
        refine G.goto (tgt := 33) C dX6_isLaidAnywhere_29 (by decide) ?_
        refine G.sub C [0, 1, 2] (lv' := [(0, .ref (a0)), (1, .int (a1)), (3, .int (x3))]) rfl ?_
        exact hj33 _ _ hf
      refine G.iload_n C 3 dX6_isLaidAnywhere_4 rfl rfl ?_
      refine G.aload_n C 0 dX6_isLaidAnywhere_5 rfl rfl ?_
      refine G.getR (ci := 5) (k := 1) C rfl inlX6 (by decide) m9_70 rfl hf dX6_isLaidAnywhere_6 (fun v2 hv2 hf => ?_)
      try dsimp only at hf
      refine G.bipush (v := 8) C dX6_isLaidAnywhere_9 (by decide) ?_
      refine G.iald C hf dX6_isLaidAnywhere_11 (fun v3 hv3 hf => ?_)
      try dsimp only at hf
      refine G.icmp_ge (tgt := 40) C dX6_isLaidAnywhere_12 (by decide) hf (fun c7 hf => ?_) (fun c7 hf => ?_)
      · cases hf
        change some _ = some _ at hlp1
        have hf := hfo1
        try rw [← Option.some.inj hlp1] at hf
        try dsimp only at hf
        refine G.sub C [2] (lv' := [(2, .int (x2))]) rfl ?_
        exact hj40 _ hf
      · refine G.iload_n C 2 dX6_isLaidAnywhere_15 rfl rfl ?_
        refine G.if_ne (tgt := 28) C dX6_isLaidAnywhere_16 (by decide) hf (fun c6 hf => ?_) (fun c6 hf => ?_)
        · refine G.sub C [0, 1, 3] (lv' := [(0, .ref (a0)), (1, .int (a1)), (3, .int (x3))]) rfl ?_
          exact hj28 _ hf
        · refine G.aload_n C 0 dX6_isLaidAnywhere_19 rfl rfl ?_
          refine G.iload_n C 3 dX6_isLaidAnywhere_20 rfl rfl ?_
          refine G.iload_n C 1 dX6_isLaidAnywhere_21 rfl rfl ?_
          obtain ⟨v4, hv4, hf⟩ := bind_some hf
          try dsimp only at hf
          refine G.callV C (st := []) (st2 := [.int (v4)]) (ct_X6_isLaid hv4) (ko_X6_isLaid hv4) rfl m9_151 m9_152 m9_153 m9_5 m9_154 kd_X6_isLaid ⟨Nat.le_of_ble_eq_true rfl, Nat.le_of_ble_eq_true rfl⟩ ⟨Nat.zero_le _, Nat.zero_le _⟩ (Nat.le_of_ble_eq_true rfl) rfl rfl dX6_isLaidAnywhere_22 ?_
          refine G.if_eq (tgt := 32) C dX6_isLaidAnywhere_25 (by decide) hf (fun c5 hf => ?_) (fun c5 hf => ?_)
          · refine G.iconst (v := 0) C dX6_isLaidAnywhere_32 (by decide) ?_
            refine G.sub C [0, 1, 3] (lv' := [(0, .ref (a0)), (1, .int (a1)), (3, .int (x3))]) rfl ?_
            exact hj33 _ _ hf
          · refine G.sub C [0, 1, 3] (lv' := [(0, .ref (a0)), (1, .int (a1)), (3, .int (x3))]) rfl ?_
            exact hj28 _ hf
  refine G.sub C [2, 3, 1, 0] (lv' := [(0, .ref (a0)), (1, .int (a1)), (2, .int ((0 : Int32))), (3, .int ((0 : Int32)))]) rfl ?_
  exact hloop1 LF _ _ hlp1
theorem ko_X6_gap {h : PH} {a0 : Nat} {a1 : Int32} {a2 : Int32} {r : (Int32 × PH)} (hf : f_X6_gap h a0 a1 a2 = some r) : kO h a0 5 := by
  unfold f_X6_gap at hf
  exact okO_k (gd_ok hf).1
theorem kd_X6_gap : yX6_gap.cls = RX6 ∧ yX6_gap.cls ≠ "java/lang/invoke/MethodHandle" ∧ yX6_gap.cls ≠ "java/lang/invoke/VarHandle" ∧ (parseMethodDescriptor yX6_gap.desc).map (fun d => d.parameters.length) = some 2 := by decide +kernel
set_option maxRecDepth 20000 in
set_option maxHeartbeats 4000000 in
theorem ct_X6_gap {l : Launch} {h : PH} {a0 : Nat} {a1 : Int32} {a2 : Int32} {r : (Int32 × PH)} (hf : f_X6_gap h a0 a1 a2 = some r) : CT l yX6_gap cX6_gap 4 (some .int) 4 88 [.ref (a0), .int (a1), .int (a2)] h (some (.int r.1)) r.2 := by
  refine CT.of (own := RX6) rfl (by decide) (Nat.le_of_ble_eq_true rfl) ?_
  intro p e R s m args below meth c g X hR C
  subst hR
  unfold f_X6_gap at hf
  obtain ⟨hok, hf⟩ := gd_ok hf
  have hj39 : ∀ (x0 : Nat) (x1 : Int32) (x2 : Int32) (k0 : Nat) (k1 : Int32), f_X6_gap_J39 h (x0) (x1) (x2) k0 k1 = some r → G p l e ({ frames := 4, cells := 0, slots := 0, locals := 88 } : Room) s m args below meth c 4 g X h 0 0 (MQ below (QW g X h s.heap.size (some (.int r.1)) r.2) args s 0 0 (AF X h s.heap.size)) 39 [(0, .ref (x0)), (1, .int (x1)), (2, .int (x2))] [.int (k1), .ref (k0)] h := by
    intro x0 x1 x2 k0 k1 hf
    unfold f_X6_gap_J39 at hf
    obtain ⟨⟨v12, h13⟩, hv12, hf⟩ := bind_some hf
    try dsimp only at hf
    refine G.callV C (st := []) (st2 := [.int (v12)]) (ct_X6_holds hv12) (ko_X6_holds hv12) rfl m9_162 m9_163 m9_164 m9_5 m9_165 kd_X6_holds ⟨Nat.le_of_ble_eq_true rfl, Nat.le_of_ble_eq_true rfl⟩ ⟨Nat.zero_le _, Nat.zero_le _⟩ (Nat.le_of_ble_eq_true rfl) rfl rfl dX6_gap_39 ?_
    refine G.if_ne (tgt := 47) C dX6_gap_42 (by decide) hf (fun c20 hf => ?_) (fun c20 hf => ?_)
    · refine G.aload_n C 0 dX6_gap_47 rfl rfl ?_
      obtain ⟨h15, hh15, hf⟩ := bind_some hf
      try dsimp only at hf
      refine G.callV C (st := []) (st2 := []) (ct_X6_save hh15) (ko_X6_save hh15) rfl m9_167 m9_168 m9_169 m9_5 m9_170 kd_X6_save ⟨Nat.le_of_ble_eq_true rfl, Nat.le_of_ble_eq_true rfl⟩ ⟨Nat.zero_le _, Nat.zero_le _⟩ (Nat.le_of_ble_eq_true rfl) rfl rfl dX6_gap_48 ?_
      refine G.aload_n C 0 dX6_gap_51 rfl rfl ?_
      refine G.getR (ci := 5) (k := 1) C rfl inlX6 (by decide) m9_70 rfl hf dX6_gap_52 (fun v16 hv16 hf => ?_)
      try dsimp only at hf
      refine G.iconst (v := 0) C dX6_gap_55 (by decide) ?_
      refine G.iload_n C 1 dX6_gap_56 rfl rfl ?_
      refine G.iadd C dX6_gap_57 ?_
      refine G.iald C hf dX6_gap_58 (fun v17 hv17 hf => ?_)
      try dsimp only at hf
      refine G.istore_n (lv' := [(3, .int (v17)), (0, .ref (x0)), (1, .int (x1)), (2, .int (x2))]) C dX6_gap_59 rfl (by decide) rfl ?_
      refine G.aload_n C 1 dX6_gap_60 rfl rfl ?_
      refine G.getR (ci := 5) (k := 1) C rfl inlX6 (by decide) m9_70 rfl hf dX6_gap_61 (fun v18 hv18 hf => ?_)
      try dsimp only at hf
      refine G.iconst (v := 0) C dX6_gap_64 (by decide) ?_
      refine G.iload_n C 2 dX6_gap_65 rfl rfl ?_
      refine G.iadd C dX6_gap_66 ?_
      refine G.iload_n C 3 dX6_gap_67 rfl rfl ?_
      refine G.iast C hf dX6_gap_68 (fun h19 hh19 hf => ?_)
      try dsimp only at hf
      refine G.iload_n C 0 dX6_gap_69 rfl rfl ?_
      cases hf
      exact G.iret C rfl dX6_gap_70
    · refine G.iconst (v := 0) C dX6_gap_45 (by decide) ?_
      cases hf
      exact G.iret C rfl dX6_gap_46
  refine G.sub C [0, 1, 2] (lv' := [(0, .ref (a0)), (1, .int (a1)), (2, .int (a2))]) rfl ?_
  refine G.aload_n C 0 dX6_gap_0 rfl rfl ?_
  refine G.iload_n C 1 dX6_gap_1 rfl rfl ?_
  obtain ⟨v1, hv1, hf⟩ := bind_some hf
  try dsimp only at hf
  refine G.callS C (st := [.ref (a0)]) (st2 := [.int (v1), .ref (a0)]) (ct_X6_isHue hv1) m9_141 m9_142 m9_5 m9_143 kd_X6_isHue ⟨Nat.le_of_ble_eq_true rfl, Nat.le_of_ble_eq_true rfl⟩ ⟨Nat.zero_le _, Nat.zero_le _⟩ (Nat.le_of_ble_eq_true rfl) rfl rfl dX6_gap_2 ?_
  refine G.if_ne (tgt := 12) C dX6_gap_5 (by decide) hf (fun c6 hf => ?_) (fun c6 hf => ?_)
  · refine G.iload_n C 2 dX6_gap_12 rfl rfl ?_
    refine G.iconst (v := 2) C dX6_gap_13 (by decide) ?_
    refine G.bipush (v := 20) C dX6_gap_14 (by decide) ?_
    obtain ⟨v2, hv2, hf⟩ := bind_some hf
    try dsimp only at hf
    refine G.callS C (st := [.ref (a0)]) (st2 := [.int (v2), .ref (a0)]) (ct_X6_in hv2) m9_144 m9_145 m9_5 m9_146 kd_X6_in ⟨Nat.le_of_ble_eq_true rfl, Nat.le_of_ble_eq_true rfl⟩ ⟨Nat.zero_le _, Nat.zero_le _⟩ (Nat.le_of_ble_eq_true rfl) rfl rfl dX6_gap_16 ?_
    refine G.if_ne (tgt := 26) C dX6_gap_19 (by decide) hf (fun c5 hf => ?_) (fun c5 hf => ?_)
    · refine G.aload_n C 0 dX6_gap_26 rfl rfl ?_
      refine G.iload_n C 1 dX6_gap_27 rfl rfl ?_
      obtain ⟨v3, hv3, hf⟩ := bind_some hf
      try dsimp only at hf
      refine G.callV C (st := [.ref (a0)]) (st2 := [.int (v3), .ref (a0)]) (ct_X6_isLaidAnywhere hv3) (ko_X6_isLaidAnywhere hv3) rfl m9_147 m9_148 m9_149 m9_5 m9_150 kd_X6_isLaidAnywhere ⟨Nat.le_of_ble_eq_true rfl, Nat.le_of_ble_eq_true rfl⟩ ⟨Nat.zero_le _, Nat.zero_le _⟩ (Nat.le_of_ble_eq_true rfl) rfl rfl dX6_gap_28 ?_
      refine G.if_eq (tgt := 38) C dX6_gap_31 (by decide) hf (fun c4 hf => ?_) (fun c4 hf => ?_)
      · refine G.iconst (v := 0) C dX6_gap_38 (by decide) ?_
        refine G.sub C [0, 1, 2] (lv' := [(0, .ref (a0)), (1, .int (a1)), (2, .int (a2))]) rfl ?_
        exact hj39 _ _ _ _ _ hf
      · refine G.iconst (v := 3) C dX6_gap_34 (by decide) ?_
        refine G.goto (tgt := 39) C dX6_gap_35 (by decide) ?_
        refine G.sub C [0, 1, 2] (lv' := [(0, .ref (a0)), (1, .int (a1)), (2, .int (a2))]) rfl ?_
        exact hj39 _ _ _ _ _ hf
    · refine G.iconst (v := 2) C dX6_gap_22 (by decide) ?_
      refine G.goto (tgt := 39) C dX6_gap_23 (by decide) ?_
      refine G.sub C [0, 1, 2] (lv' := [(0, .ref (a0)), (1, .int (a1)), (2, .int (a2))]) rfl ?_
      exact hj39 _ _ _ _ _ hf
  · refine G.iconst (v := 1) C dX6_gap_8 (by decide) ?_
    refine G.goto (tgt := 39) C dX6_gap_9 (by decide) ?_
    refine G.sub C [0, 1, 2] (lv' := [(0, .ref (a0)), (1, .int (a1)), (2, .int (a2))]) rfl ?_
    exact hj39 _ _ _ _ _ hf
theorem ko_X6_adds {h : PH} {a0 : Nat} {a1 : Int32} {r : PH} (hf : f_X6_adds h a0 a1 = some r) : kO h a0 5 := by
  unfold f_X6_adds at hf
  exact okO_k (gd_ok hf).1
theorem kd_X6_adds : yX6_adds.cls = RX6 ∧ yX6_adds.cls ≠ "java/lang/invoke/MethodHandle" ∧ yX6_adds.cls ≠ "java/lang/invoke/VarHandle" ∧ (parseMethodDescriptor yX6_adds.desc).map (fun d => d.parameters.length) = some 1 := by decide +kernel
set_option maxRecDepth 20000 in
set_option maxHeartbeats 4000000 in
theorem ct_X6_adds {l : Launch} {h : PH} {a0 : Nat} {a1 : Int32} {r : PH} (hf : f_X6_adds h a0 a1 = some r) : CT l yX6_adds cX6_adds 2 none 2 44 [.ref (a0), .int (a1)] h none r := by
  refine CT.of (own := RX6) rfl (by decide) (Nat.le_of_ble_eq_true rfl) ?_
  intro p e R s m args below meth c g X hR C
  subst hR
  unfold f_X6_adds at hf
  obtain ⟨hok, hf⟩ := gd_ok hf
  refine G.sub C [0, 1] (lv' := [(0, .ref (a0)), (1, .int (a1))]) rfl ?_
  refine G.aload_n C 0 dX6_adds_0 rfl rfl ?_
  refine G.aload_n C 0 dX6_adds_1 rfl rfl ?_
  refine G.getR (ci := 5) (k := 1) C rfl inlX6 (by decide) m9_70 rfl hf dX6_adds_2 (fun v1 hv1 hf => ?_)
  try dsimp only at hf
  refine G.bipush (v := 8) C dX6_adds_5 (by decide) ?_
  refine G.iald C hf dX6_adds_7 (fun v2 hv2 hf => ?_)
  try dsimp only at hf
  refine G.iload_n C 1 dX6_adds_8 rfl rfl ?_
  obtain ⟨h3, hh3, hf⟩ := bind_some hf
  try dsimp only at hf
  refine G.callV C (st := []) (st2 := []) (ct_X6_clears hh3) (ko_X6_clears hh3) rfl m9_218 m9_219 m9_220 m9_5 m9_221 kd_X6_clears ⟨Nat.le_of_ble_eq_true rfl, Nat.le_of_ble_eq_true rfl⟩ ⟨Nat.zero_le _, Nat.zero_le _⟩ (Nat.le_of_ble_eq_true rfl) rfl rfl dX6_adds_9 ?_
  refine G.aload_n C 0 dX6_adds_12 rfl rfl ?_
  refine G.getR (ci := 5) (k := 1) C rfl inlX6 (by decide) m9_70 rfl hf dX6_adds_13 (fun v4 hv4 hf => ?_)
  try dsimp only at hf
  refine G.bipush (v := 8) C dX6_adds_16 (by decide) ?_
  refine G.dup2 C dX6_adds_18 rfl rfl ?_
  refine G.iald C hf dX6_adds_19 (fun v5 hv5 hf => ?_)
  try dsimp only at hf
  refine G.iconst (v := 1) C dX6_adds_20 (by decide) ?_
  refine G.iadd C dX6_adds_21 ?_
  refine G.iast C hf dX6_adds_22 (fun h6 hh6 hf => ?_)
  try dsimp only at hf
  cases hf
  exact G.vret C rfl dX6_adds_23
theorem ko_X6_rope {h : PH} {a0 : Nat} {a1 : Int32} {r : (Int32 × PH)} (hf : f_X6_rope h a0 a1 = some r) : kO h a0 5 := by
  unfold f_X6_rope at hf
  exact okO_k (gd_ok hf).1
theorem kd_X6_rope : yX6_rope.cls = RX6 ∧ yX6_rope.cls ≠ "java/lang/invoke/MethodHandle" ∧ yX6_rope.cls ≠ "java/lang/invoke/VarHandle" ∧ (parseMethodDescriptor yX6_rope.desc).map (fun d => d.parameters.length) = some 1 := by decide +kernel
set_option maxRecDepth 20000 in
set_option maxHeartbeats 4000000 in
theorem ct_X6_rope {l : Launch} {h : PH} {a0 : Nat} {a1 : Int32} {r : (Int32 × PH)} (hf : f_X6_rope h a0 a1 = some r) : CT l yX6_rope cX6_rope 2 (some .int) 3 65 [.ref (a0), .int (a1)] h (some (.int r.1)) r.2 := by
  refine CT.of (own := RX6) rfl (by decide) (Nat.le_of_ble_eq_true rfl) ?_
  intro p e R s m args below meth c g X hR C
  subst hR
  unfold f_X6_rope at hf
  obtain ⟨hok, hf⟩ := gd_ok hf
  have hj31 : ∀ (x0 : Nat) (x1 : Int32) (k0 : Nat) (k1 : Int32), f_X6_rope_J31 h (x0) (x1) k0 k1 = some r → G p l e ({ frames := 3, cells := 0, slots := 0, locals := 65 } : Room) s m args below meth c 2 g X h 0 0 (MQ below (QW g X h s.heap.size (some (.int r.1)) r.2) args s 0 0 (AF X h s.heap.size)) 31 [(0, .ref (x0)), (1, .int (x1))] [.int (k1), .ref (k0)] h := by
    intro x0 x1 k0 k1 hf
    unfold f_X6_rope_J31 at hf
    obtain ⟨⟨v11, h12⟩, hv11, hf⟩ := bind_some hf
    try dsimp only at hf
    refine G.callV C (st := []) (st2 := [.int (v11)]) (ct_X6_holds hv11) (ko_X6_holds hv11) rfl m9_162 m9_163 m9_164 m9_5 m9_165 kd_X6_holds ⟨Nat.le_of_ble_eq_true rfl, Nat.le_of_ble_eq_true rfl⟩ ⟨Nat.zero_le _, Nat.zero_le _⟩ (Nat.le_of_ble_eq_true rfl) rfl rfl dX6_rope_31 ?_
    refine G.if_ne (tgt := 39) C dX6_rope_34 (by decide) hf (fun c18 hf => ?_) (fun c18 hf => ?_)
    · refine G.aload_n C 0 dX6_rope_39 rfl rfl ?_
      obtain ⟨h14, hh14, hf⟩ := bind_some hf
      try dsimp only at hf
      refine G.callV C (st := []) (st2 := []) (ct_X6_save hh14) (ko_X6_save hh14) rfl m9_167 m9_168 m9_169 m9_5 m9_170 kd_X6_save ⟨Nat.le_of_ble_eq_true rfl, Nat.le_of_ble_eq_true rfl⟩ ⟨Nat.zero_le _, Nat.zero_le _⟩ (Nat.le_of_ble_eq_true rfl) rfl rfl dX6_rope_40 ?_
      refine G.aload_n C 0 dX6_rope_43 rfl rfl ?_
      refine G.iload_n C 1 dX6_rope_44 rfl rfl ?_
      obtain ⟨h15, hh15, hf⟩ := bind_some hf
      try dsimp only at hf
      refine G.callV C (st := []) (st2 := []) (ct_X6_adds hh15) (ko_X6_adds hh15) rfl m9_214 m9_215 m9_216 m9_5 m9_217 kd_X6_adds ⟨Nat.le_of_ble_eq_true rfl, Nat.le_of_ble_eq_true rfl⟩ ⟨Nat.zero_le _, Nat.zero_le _⟩ (Nat.le_of_ble_eq_true rfl) rfl rfl dX6_rope_45 ?_
      refine G.aload_n C 0 dX6_rope_48 rfl rfl ?_
      refine G.getR (ci := 5) (k := 1) C rfl inlX6 (by decide) m9_70 rfl hf dX6_rope_49 (fun v16 hv16 hf => ?_)
      try dsimp only at hf
      refine G.bipush (v := 8) C dX6_rope_52 (by decide) ?_
      refine G.iald C hf dX6_rope_54 (fun v17 hv17 hf => ?_)
      try dsimp only at hf
      refine G.iconst (v := 1) C dX6_rope_55 (by decide) ?_
      refine G.isub C dX6_rope_56 ?_
      cases hf
      exact G.iret C rfl dX6_rope_57
    · refine G.iconst (v := 0) C dX6_rope_37 (by decide) ?_
      cases hf
      exact G.iret C rfl dX6_rope_38
  refine G.sub C [0, 1] (lv' := [(0, .ref (a0)), (1, .int (a1))]) rfl ?_
  refine G.aload_n C 0 dX6_rope_0 rfl rfl ?_
  refine G.iload_n C 1 dX6_rope_1 rfl rfl ?_
  refine G.iconst (v := 1) C dX6_rope_2 (by decide) ?_
  refine G.bipush (v := 60) C dX6_rope_3 (by decide) ?_
  obtain ⟨v1, hv1, hf⟩ := bind_some hf
  try dsimp only at hf
  refine G.callS C (st := [.ref (a0)]) (st2 := [.int (v1), .ref (a0)]) (ct_X6_in hv1) m9_144 m9_145 m9_5 m9_146 kd_X6_in ⟨Nat.le_of_ble_eq_true rfl, Nat.le_of_ble_eq_true rfl⟩ ⟨Nat.zero_le _, Nat.zero_le _⟩ (Nat.le_of_ble_eq_true rfl) rfl rfl dX6_rope_5 ?_
  refine G.if_ne (tgt := 15) C dX6_rope_8 (by decide) hf (fun c5 hf => ?_) (fun c5 hf => ?_)
  · refine G.aload_n C 0 dX6_rope_15 rfl rfl ?_
    refine G.getR (ci := 5) (k := 1) C rfl inlX6 (by decide) m9_70 rfl hf dX6_rope_16 (fun v2 hv2 hf => ?_)
    try dsimp only at hf
    refine G.bipush (v := 8) C dX6_rope_19 (by decide) ?_
    refine G.iald C hf dX6_rope_21 (fun v3 hv3 hf => ?_)
    try dsimp only at hf
    refine G.iconst (v := 4) C dX6_rope_22 (by decide) ?_
    refine G.icmp_ne (tgt := 30) C dX6_rope_23 (by decide) hf (fun c4 hf => ?_) (fun c4 hf => ?_)
    · refine G.iconst (v := 0) C dX6_rope_30 (by decide) ?_
      refine G.sub C [0, 1] (lv' := [(0, .ref (a0)), (1, .int (a1))]) rfl ?_
      exact hj31 _ _ _ _ hf
    · refine G.iconst (v := 2) C dX6_rope_26 (by decide) ?_
      refine G.goto (tgt := 31) C dX6_rope_27 (by decide) ?_
      refine G.sub C [0, 1] (lv' := [(0, .ref (a0)), (1, .int (a1))]) rfl ?_
      exact hj31 _ _ _ _ hf
  · refine G.iconst (v := 1) C dX6_rope_11 (by decide) ?_
    refine G.goto (tgt := 31) C dX6_rope_12 (by decide) ?_
    refine G.sub C [0, 1] (lv' := [(0, .ref (a0)), (1, .int (a1))]) rfl ?_
    exact hj31 _ _ _ _ hf
theorem ko_X6_drop {h : PH} {a0 : Nat} {a1 : Int32} {r : (Int32 × PH)} (hf : f_X6_drop h a0 a1 = some r) : kO h a0 5 := by
  unfold f_X6_drop at hf
  exact okO_k (gd_ok hf).1
theorem kd_X6_drop : yX6_drop.cls = RX6 ∧ yX6_drop.cls ≠ "java/lang/invoke/MethodHandle" ∧ yX6_drop.cls ≠ "java/lang/invoke/VarHandle" ∧ (parseMethodDescriptor yX6_drop.desc).map (fun d => d.parameters.length) = some 1 := by decide +kernel
set_option maxRecDepth 20000 in
set_option maxHeartbeats 4000000 in
theorem ct_X6_drop {l : Launch} {h : PH} {a0 : Nat} {a1 : Int32} {r : (Int32 × PH)} (hf : f_X6_drop h a0 a1 = some r) : CT l yX6_drop cX6_drop 2 (some .int) 2 43 [.ref (a0), .int (a1)] h (some (.int r.1)) r.2 := by
  refine CT.of (own := RX6) rfl (by decide) (Nat.le_of_ble_eq_true rfl) ?_
  intro p e R s m args below meth c g X hR C
  subst hR
  unfold f_X6_drop at hf
  obtain ⟨hok, hf⟩ := gd_ok hf
  have hj14 : ∀ (x0 : Nat) (x1 : Int32) (k0 : Nat) (k1 : Int32), f_X6_drop_J14 h (x0) (x1) k0 k1 = some r → G p l e ({ frames := 2, cells := 0, slots := 0, locals := 43 } : Room) s m args below meth c 2 g X h 0 0 (MQ below (QW g X h s.heap.size (some (.int r.1)) r.2) args s 0 0 (AF X h s.heap.size)) 14 [(0, .ref (x0)), (1, .int (x1))] [.int (k1), .ref (k0)] h := by
    intro x0 x1 k0 k1 hf
    unfold f_X6_drop_J14 at hf
    obtain ⟨⟨v9, h10⟩, hv9, hf⟩ := bind_some hf
    try dsimp only at hf
    refine G.callV C (st := []) (st2 := [.int (v9)]) (ct_X6_holds hv9) (ko_X6_holds hv9) rfl m9_162 m9_163 m9_164 m9_5 m9_165 kd_X6_holds ⟨Nat.le_of_ble_eq_true rfl, Nat.le_of_ble_eq_true rfl⟩ ⟨Nat.zero_le _, Nat.zero_le _⟩ (Nat.le_of_ble_eq_true rfl) rfl rfl dX6_drop_14 ?_
    refine G.if_ne (tgt := 22) C dX6_drop_17 (by decide) hf (fun c16 hf => ?_) (fun c16 hf => ?_)
    · refine G.aload_n C 0 dX6_drop_22 rfl rfl ?_
      obtain ⟨h12, hh12, hf⟩ := bind_some hf
      try dsimp only at hf
      refine G.callV C (st := []) (st2 := []) (ct_X6_save hh12) (ko_X6_save hh12) rfl m9_167 m9_168 m9_169 m9_5 m9_170 kd_X6_save ⟨Nat.le_of_ble_eq_true rfl, Nat.le_of_ble_eq_true rfl⟩ ⟨Nat.zero_le _, Nat.zero_le _⟩ (Nat.le_of_ble_eq_true rfl) rfl rfl dX6_drop_23 ?_
      refine G.aload_n C 0 dX6_drop_26 rfl rfl ?_
      refine G.iload_n C 1 dX6_drop_27 rfl rfl ?_
      obtain ⟨h13, hh13, hf⟩ := bind_some hf
      try dsimp only at hf
      refine G.callV C (st := []) (st2 := []) (ct_X6_drops hh13) (ko_X6_drops hh13) rfl m9_246 m9_247 m9_248 m9_5 m9_249 kd_X6_drops ⟨Nat.le_of_ble_eq_true rfl, Nat.le_of_ble_eq_true rfl⟩ ⟨Nat.zero_le _, Nat.zero_le _⟩ (Nat.le_of_ble_eq_true rfl) rfl rfl dX6_drop_28 ?_
      refine G.aload_n C 0 dX6_drop_31 rfl rfl ?_
      refine G.getR (ci := 5) (k := 1) C rfl inlX6 (by decide) m9_70 rfl hf dX6_drop_32 (fun v14 hv14 hf => ?_)
      try dsimp only at hf
      refine G.bipush (v := 8) C dX6_drop_35 (by decide) ?_
      refine G.iald C hf dX6_drop_37 (fun v15 hv15 hf => ?_)
      try dsimp only at hf
      cases hf
      exact G.iret C rfl dX6_drop_38
    · refine G.iconst (v := 0) C dX6_drop_20 (by decide) ?_
      cases hf
      exact G.iret C rfl dX6_drop_21
  refine G.sub C [0, 1] (lv' := [(0, .ref (a0)), (1, .int (a1))]) rfl ?_
  refine G.aload_n C 0 dX6_drop_0 rfl rfl ?_
  refine G.aload_n C 0 dX6_drop_1 rfl rfl ?_
  refine G.iload_n C 1 dX6_drop_2 rfl rfl ?_
  obtain ⟨v1, hv1, hf⟩ := bind_some hf
  try dsimp only at hf
  refine G.callV C (st := [.ref (a0)]) (st2 := [.int (v1), .ref (a0)]) (ct_X6_isRope hv1) (ko_X6_isRope hv1) rfl m9_242 m9_243 m9_244 m9_5 m9_245 kd_X6_isRope ⟨Nat.le_of_ble_eq_true rfl, Nat.le_of_ble_eq_true rfl⟩ ⟨Nat.zero_le _, Nat.zero_le _⟩ (Nat.le_of_ble_eq_true rfl) rfl rfl dX6_drop_3 ?_
  refine G.if_eq (tgt := 13) C dX6_drop_6 (by decide) hf (fun c2 hf => ?_) (fun c2 hf => ?_)
  · refine G.iconst (v := 1) C dX6_drop_13 (by decide) ?_
    refine G.sub C [0, 1] (lv' := [(0, .ref (a0)), (1, .int (a1))]) rfl ?_
    exact hj14 _ _ _ _ hf
  · refine G.iconst (v := 0) C dX6_drop_9 (by decide) ?_
    refine G.goto (tgt := 14) C dX6_drop_10 (by decide) ?_
    refine G.sub C [0, 1] (lv' := [(0, .ref (a0)), (1, .int (a1))]) rfl ?_
    exact hj14 _ _ _ _ hf
theorem ko_X6_why {h : PH} {a0 : Nat} {a1 : Int32} {a2 : Int32} {a3 : Int32} {r : Int32} (hf : f_X6_why h a0 a1 a2 a3 = some r) : kO h a0 5 := by
  unfold f_X6_why at hf
  exact okO_k (gd_ok hf).1
theorem kd_X6_why : yX6_why.cls = RX6 ∧ yX6_why.cls ≠ "java/lang/invoke/MethodHandle" ∧ yX6_why.cls ≠ "java/lang/invoke/VarHandle" ∧ (parseMethodDescriptor yX6_why.desc).map (fun d => d.parameters.length) = some 3 := by decide +kernel
set_option maxRecDepth 20000 in
set_option maxHeartbeats 4000000 in
theorem ct_X6_why {l : Launch} {h : PH} {a0 : Nat} {a1 : Int32} {a2 : Int32} {a3 : Int32} {r : Int32} (hf : f_X6_why h a0 a1 a2 a3 = some r) : CT l yX6_why cX6_why 6 (some .int) 4 91 [.ref (a0), .int (a1), .int (a2), .int (a3)] h (some (.int r)) h := by
  refine CT.of (own := RX6) rfl (by decide) (Nat.le_of_ble_eq_true rfl) ?_
  intro p e R s m args below meth c g X hR C
  subst hR
  unfold f_X6_why at hf
  obtain ⟨hok, hf⟩ := gd_ok hf
  have hj97 : ∀ (k0 : Int32), f_X6_why_J97 h k0 = some r → G p l e ({ frames := 4, cells := 0, slots := 0, locals := 91 } : Room) s m args below meth c 6 g X h 0 0 (MQ below (QW g X h s.heap.size (some (.int r)) h) args s 0 0 (AF X h s.heap.size)) 97 [] [.int (k0)] h := by
    intro k0 hf
    unfold f_X6_why_J97 at hf
    cases hf
    exact G.iret C rfl dX6_why_97
  have hj87 : ∀ (x4 : Int32), f_X6_why_J87 h (x4) = some r → G p l e ({ frames := 4, cells := 0, slots := 0, locals := 91 } : Room) s m args below meth c 6 g X h 0 0 (MQ below (QW g X h s.heap.size (some (.int r)) h) args s 0 0 (AF X h s.heap.size)) 87 [(4, .int (x4))] [] h := by
    intro x4 hf
    unfold f_X6_why_J87 at hf
    refine G.iload C 0 dX6_why_87 rfl ?_
    refine G.if_eq (tgt := 96) C dX6_why_89 (by decide) hf (fun c12 hf => ?_) (fun c12 hf => ?_)
    · refine G.iconst (v := 0) C dX6_why_96 (by decide) ?_
      refine G.sub C [] (lv' := []) rfl ?_
      exact hj97 _ hf
    · refine G.iconst (v := 3) C dX6_why_92 (by decide) ?_
      refine G.goto (tgt := 97) C dX6_why_93 (by decide) ?_
      refine G.sub C [] (lv' := []) rfl ?_
      exact hj97 _ hf
  refine G.sub C [0, 1, 2, 3] (lv' := [(0, .ref (a0)), (1, .int (a1)), (2, .int (a2)), (3, .int (a3))]) rfl ?_
  refine G.aload_n C 0 dX6_why_0 rfl rfl ?_
  refine G.iload_n C 1 dX6_why_1 rfl rfl ?_
  refine G.iload_n C 2 dX6_why_2 rfl rfl ?_
  obtain ⟨v1, hv1, hf⟩ := bind_some hf
  try dsimp only at hf
  refine G.callV C (st := []) (st2 := [.int (v1)]) (ct_X6_isLaid hv1) (ko_X6_isLaid hv1) rfl m9_151 m9_152 m9_153 m9_5 m9_154 kd_X6_isLaid ⟨Nat.le_of_ble_eq_true rfl, Nat.le_of_ble_eq_true rfl⟩ ⟨Nat.zero_le _, Nat.zero_le _⟩ (Nat.le_of_ble_eq_true rfl) rfl rfl dX6_why_3 ?_
  refine G.if_eq (tgt := 11) C dX6_why_6 (by decide) hf (fun c16 hf => ?_) (fun c16 hf => ?_)
  · refine G.iload_n C 3 dX6_why_11 rfl rfl ?_
    refine G.aload_n C 0 dX6_why_12 rfl rfl ?_
    refine G.getR (ci := 5) (k := 1) C rfl inlX6 (by decide) m9_70 rfl hf dX6_why_13 (fun v2 hv2 hf => ?_)
    try dsimp only at hf
    refine G.iload_n C 1 dX6_why_16 rfl rfl ?_
    refine G.iconst (v := 0) C dX6_why_17 (by decide) ?_
    obtain ⟨v3, hv3, hf⟩ := bind_some hf
    try dsimp only at hf
    refine G.callS C (st := [.ref (v2), .int (a3)]) (st2 := [.int (v3), .ref (v2), .int (a3)]) (ct_X6_of hv3) m9_159 m9_160 m9_5 m9_161 kd_X6_of ⟨Nat.le_of_ble_eq_true rfl, Nat.le_of_ble_eq_true rfl⟩ ⟨Nat.zero_le _, Nat.zero_le _⟩ (Nat.le_of_ble_eq_true rfl) rfl rfl dX6_why_18 ?_
    refine G.iald C hf dX6_why_21 (fun v4 hv4 hf => ?_)
    try dsimp only at hf
    refine G.icmp_lt (tgt := 27) C dX6_why_22 (by decide) hf (fun c15 hf => ?_) (fun c15 hf => ?_)
    · refine G.iconst (v := 0) C dX6_why_27 (by decide) ?_
      refine G.istore (lv' := [(4, .int ((0 : Int32))), (0, .ref (a0)), (1, .int (a1)), (2, .int (a2)), (3, .int (a3))]) C dX6_why_28 (by decide) rfl ?_
      refine G.iload_n C 4 dX6_why_30 rfl rfl ?_
      refine G.istore (lv' := [(5, .int (a3)), (4, .int ((0 : Int32))), (0, .ref (a0)), (1, .int (a1)), (2, .int (a2)), (3, .int (a3))]) C dX6_why_31 (by decide) rfl ?_
      obtain ⟨z5, hlp5, hfo5⟩ := bind_some hf
      clear hf
      have hloop5 : ∀ (k : Nat), ∀ (x4 : Int32) (x5 : Int32), (lpn (f_X6_why_L33 (h) (a0) (a1) (a2)) k (x4, x5)) = some z5 → G p l e ({ frames := 4, cells := 0, slots := 0, locals := 91 } : Room) s m args below meth c 6 g X h 0 0 (MQ below (QW g X h s.heap.size (some (.int r)) h) args s 0 0 (AF X h s.heap.size)) 33 [(0, .ref (a0)), (1, .int (a1)), (2, .int (a2)), (4, .int (x4)), (5, .int (x5))] [] h := by
        intro k
        induction k with
        | zero => intro x4 x5 hlp5; exact (lpn_0 hlp5).elim
        | succ k ih5 =>
          intro x4 x5 hlp5
          obtain ⟨y5, hf, hlp5⟩ := lpn_s hlp5
          unfold f_X6_why_L33 at hf
          try dsimp only at hf
          have hj69 : ∀ (x5 : Int32) (k0 : Int32), f_X6_why_J69 h (a0) (a1) (a2) (x5) k0 = some y5 → G p l e ({ frames := 4, cells := 0, slots := 0, locals := 91 } : Room) s m args below meth c 6 g X h 0 0 (MQ below (QW g X h s.heap.size (some (.int r)) h) args s 0 0 (AF X h s.heap.size)) 69 [(0, .ref (a0)), (1, .int (a1)), (2, .int (a2)), (5, .int (x5))] [.int (k0)] h := by
            intro x5 k0 hf
            unfold f_X6_why_J69 at hf
            refine G.istore (lv' := [(4, .int (k0)), (0, .ref (a0)), (1, .int (a1)), (2, .int (a2)), (5, .int (x5))]) C dX6_why_69 (by decide) rfl ?_
            refine G.iload C 4 dX6_why_71 rfl ?_
            refine G.aload_n C 1 dX6_why_73 rfl rfl ?_
            refine G.getR (ci := 5) (k := 1) C rfl inlX6 (by decide) m9_70 rfl hf dX6_why_74 (fun v6 hv6 hf => ?_)
            try dsimp only at hf
            refine G.iconst (v := 0) C dX6_why_77 (by decide) ?_
            refine G.iload_n C 3 dX6_why_78 rfl rfl ?_
            refine G.iadd C dX6_why_79 ?_
            refine G.iald C hf dX6_why_80 (fun v7 hv7 hf => ?_)
            try dsimp only at hf
            refine G.iadd C dX6_why_81 ?_
            refine G.istore (lv' := [(5, .int ((x5 + v7))), (4, .int (k0)), (0, .ref (a0)), (1, .int (a1)), (2, .int (a2))]) C dX6_why_82 (by decide) rfl ?_
            refine G.goto (tgt := 33) C dX6_why_84 (by decide) ?_
            cases hf
            refine G.sub C [2, 3, 4, 1, 0] (lv' := [(0, .ref (a0)), (1, .int (a1)), (2, .int (a2)), (4, .int (k0)), (5, .int ((x5 + v7)))]) rfl ?_
            exact ih5 _ _ hlp5
          have hj64 : ∀ (x5 : Int32), f_X6_why_J64 h (a0) (a1) (a2) (x5) = some y5 → G p l e ({ frames := 4, cells := 0, slots := 0, locals := 91 } : Room) s m args below meth c 6 g X h 0 0 (MQ below (QW g X h s.heap.size (some (.int r)) h) args s 0 0 (AF X h s.heap.size)) 64 [(0, .ref (a0)), (1, .int (a1)), (2, .int (a2)), (5, .int (x5))] [] h := by
            intro x5 hf
            unfold f_X6_why_J64 at hf
            refine G.iconst (v := 1) C dX6_why_64 (by decide) ?_
            refine G.goto (tgt := 69) C dX6_why_65 (by decide) ?_
            refine G.sub C [0, 1, 2, 3] (lv' := [(0, .ref (a0)), (1, .int (a1)), (2, .int (a2)), (5, .int (x5))]) rfl ?_
            exact hj69 _ _ hf
          refine G.iload C 4 dX6_why_33 rfl ?_
          refine G.aload_n C 0 dX6_why_35 rfl rfl ?_
          refine G.getR (ci := 5) (k := 1) C rfl inlX6 (by decide) m9_70 rfl hf dX6_why_36 (fun v8 hv8 hf => ?_)
          try dsimp only at hf
          refine G.iload_n C 1 dX6_why_39 rfl rfl ?_
          refine G.iconst (v := 0) C dX6_why_40 (by decide) ?_
          obtain ⟨v9, hv9, hf⟩ := bind_some hf
          try dsimp only at hf
          refine G.callS C (st := [.ref (v8), .int (x5)]) (st2 := [.int (v9), .ref (v8), .int (x5)]) (ct_X6_of hv9) m9_159 m9_160 m9_5 m9_161 kd_X6_of ⟨Nat.le_of_ble_eq_true rfl, Nat.le_of_ble_eq_true rfl⟩ ⟨Nat.zero_le _, Nat.zero_le _⟩ (Nat.le_of_ble_eq_true rfl) rfl rfl dX6_why_41 ?_
          refine G.iald C hf dX6_why_44 (fun v10 hv10 hf => ?_)
          try dsimp only at hf
          refine G.icmp_ge (tgt := 87) C dX6_why_45 (by decide) hf (fun c14 hf => ?_) (fun c14 hf => ?_)
          · cases hf
            change some _ = some _ at hlp5
            have hf := hfo5
            try rw [← Option.some.inj hlp5] at hf
            try dsimp only at hf
            refine G.sub C [3] (lv' := [(4, .int (x4))]) rfl ?_
            exact hj87 _ hf
          · refine G.iload C 3 dX6_why_48 rfl ?_
            refine G.if_ne (tgt := 64) C dX6_why_50 (by decide) hf (fun c13 hf => ?_) (fun c13 hf => ?_)
            · refine G.sub C [0, 1, 2, 4] (lv' := [(0, .ref (a0)), (1, .int (a1)), (2, .int (a2)), (5, .int (x5))]) rfl ?_
              exact hj64 _ hf
            · refine G.aload_n C 0 dX6_why_53 rfl rfl ?_
              refine G.iload_n C 1 dX6_why_54 rfl rfl ?_
              refine G.iload C 4 dX6_why_55 rfl ?_
              obtain ⟨v11, hv11, hf⟩ := bind_some hf
              try dsimp only at hf
              refine G.callV C (st := []) (st2 := [.int (v11)]) (ct_X6_hueAt hv11) (ko_X6_hueAt hv11) rfl m9_299 m9_300 m9_301 m9_5 m9_302 kd_X6_hueAt ⟨Nat.le_of_ble_eq_true rfl, Nat.le_of_ble_eq_true rfl⟩ ⟨Nat.zero_le _, Nat.zero_le _⟩ (Nat.le_of_ble_eq_true rfl) rfl rfl dX6_why_57 ?_
              refine G.iconst (v := (-1)) C dX6_why_60 (by decide) ?_
              refine G.icmp_eq (tgt := 68) C dX6_why_61 (by decide) hf (fun c12 hf => ?_) (fun c12 hf => ?_)
              · refine G.iconst (v := 0) C dX6_why_68 (by decide) ?_
                refine G.sub C [0, 1, 2, 4] (lv' := [(0, .ref (a0)), (1, .int (a1)), (2, .int (a2)), (5, .int (x5))]) rfl ?_
                exact hj69 _ _ hf
              · refine G.sub C [0, 1, 2, 4] (lv' := [(0, .ref (a0)), (1, .int (a1)), (2, .int (a2)), (5, .int (x5))]) rfl ?_
                exact hj64 _ hf
      refine G.sub C [2, 3, 4, 1, 0] (lv' := [(0, .ref (a0)), (1, .int (a1)), (2, .int (a2)), (4, .int ((0 : Int32))), (5, .int (a3))]) rfl ?_
      exact hloop5 LF _ _ hlp5
    · refine G.iconst (v := 2) C dX6_why_25 (by decide) ?_
      cases hf
      exact G.iret C rfl dX6_why_26
  · refine G.iconst (v := 1) C dX6_why_9 (by decide) ?_
    cases hf
    exact G.iret C rfl dX6_why_10
theorem ko_X6_areThere {h : PH} {a0 : Nat} {a1 : Int32} {a2 : Int32} {r : Int32} (hf : f_X6_areThere h a0 a1 a2 = some r) : kO h a0 5 := by
  unfold f_X6_areThere at hf
  exact okO_k (gd_ok hf).1
theorem kd_X6_areThere : yX6_areThere.cls = RX6 ∧ yX6_areThere.cls ≠ "java/lang/invoke/MethodHandle" ∧ yX6_areThere.cls ≠ "java/lang/invoke/VarHandle" ∧ (parseMethodDescriptor yX6_areThere.desc).map (fun d => d.parameters.length) = some 2 := by decide +kernel
set_option maxRecDepth 20000 in
set_option maxHeartbeats 4000000 in
theorem ct_X6_areThere {l : Launch} {h : PH} {a0 : Nat} {a1 : Int32} {a2 : Int32} {r : Int32} (hf : f_X6_areThere h a0 a1 a2 = some r) : CT l yX6_areThere cX6_areThere 3 (some .boolean) 2 43 [.ref (a0), .int (a1), .int (a2)] h (some (.int r)) h := by
  refine CT.of (own := RX6) rfl (by decide) (Nat.le_of_ble_eq_true rfl) ?_
  intro p e R s m args below meth c g X hR C
  subst hR
  unfold f_X6_areThere at hf
  obtain ⟨hok, hf⟩ := gd_ok hf
  have hj20 : ∀ (k0 : Int32), f_X6_areThere_J20 h k0 = some r → G p l e ({ frames := 2, cells := 0, slots := 0, locals := 43 } : Room) s m args below meth c 3 g X h 0 0 (MQ below (QW g X h s.heap.size (some (.int r)) h) args s 0 0 (AF X h s.heap.size)) 20 [] [.int (k0)] h := by
    intro k0 hf
    unfold f_X6_areThere_J20 at hf
    obtain ⟨c4, hf⟩ := gd_ok hf
    cases hf
    exact G.zret C rfl (z01_n c4) dX6_areThere_20
  have hj19 : f_X6_areThere_J19 h = some r → G p l e ({ frames := 2, cells := 0, slots := 0, locals := 43 } : Room) s m args below meth c 3 g X h 0 0 (MQ below (QW g X h s.heap.size (some (.int r)) h) args s 0 0 (AF X h s.heap.size)) 19 [] [] h := by
    intro hf
    unfold f_X6_areThere_J19 at hf
    refine G.iconst (v := 0) C dX6_areThere_19 (by decide) ?_
    refine G.sub C [] (lv' := []) rfl ?_
    exact hj20 _ hf
  refine G.sub C [0, 1, 2] (lv' := [(0, .ref (a0)), (1, .int (a1)), (2, .int (a2))]) rfl ?_
  refine G.aload_n C 0 dX6_areThere_0 rfl rfl ?_
  refine G.iload_n C 1 dX6_areThere_1 rfl rfl ?_
  obtain ⟨v1, hv1, hf⟩ := bind_some hf
  try dsimp only at hf
  refine G.callV C (st := []) (st2 := [.int (v1)]) (ct_X6_isRope hv1) (ko_X6_isRope hv1) rfl m9_242 m9_243 m9_244 m9_5 m9_245 kd_X6_isRope ⟨Nat.le_of_ble_eq_true rfl, Nat.le_of_ble_eq_true rfl⟩ ⟨Nat.zero_le _, Nat.zero_le _⟩ (Nat.le_of_ble_eq_true rfl) rfl rfl dX6_areThere_2 ?_
  refine G.if_eq (tgt := 19) C dX6_areThere_5 (by decide) hf (fun c4 hf => ?_) (fun c4 hf => ?_)
  · refine G.sub C [] (lv' := []) rfl ?_
    exact hj19  hf
  · refine G.iload_n C 2 dX6_areThere_8 rfl rfl ?_
    obtain ⟨v2, hv2, hf⟩ := bind_some hf
    try dsimp only at hf
    refine G.callS C (st := []) (st2 := [.int (v2)]) (ct_X6_isHue hv2) m9_141 m9_142 m9_5 m9_143 kd_X6_isHue ⟨Nat.le_of_ble_eq_true rfl, Nat.le_of_ble_eq_true rfl⟩ ⟨Nat.zero_le _, Nat.zero_le _⟩ (Nat.le_of_ble_eq_true rfl) rfl rfl dX6_areThere_9 ?_
    refine G.if_eq (tgt := 19) C dX6_areThere_12 (by decide) hf (fun c3 hf => ?_) (fun c3 hf => ?_)
    · refine G.sub C [] (lv' := []) rfl ?_
      exact hj19  hf
    · refine G.iconst (v := 1) C dX6_areThere_15 (by decide) ?_
      refine G.goto (tgt := 20) C dX6_areThere_16 (by decide) ?_
      refine G.sub C [] (lv' := []) rfl ?_
      exact hj20 _ hf
theorem ko_X6_lay {h : PH} {a0 : Nat} {a1 : Int32} {a2 : Int32} {a3 : Int32} {r : (Int32 × PH)} (hf : f_X6_lay h a0 a1 a2 a3 = some r) : kO h a0 5 := by
  unfold f_X6_lay at hf
  exact okO_k (gd_ok hf).1
theorem kd_X6_lay : yX6_lay.cls = RX6 ∧ yX6_lay.cls ≠ "java/lang/invoke/MethodHandle" ∧ yX6_lay.cls ≠ "java/lang/invoke/VarHandle" ∧ (parseMethodDescriptor yX6_lay.desc).map (fun d => d.parameters.length) = some 3 := by decide +kernel
set_option maxRecDepth 20000 in
set_option maxHeartbeats 4000000 in
theorem ct_X6_lay {l : Launch} {h : PH} {a0 : Nat} {a1 : Int32} {a2 : Int32} {a3 : Int32} {r : (Int32 × PH)} (hf : f_X6_lay h a0 a1 a2 a3 = some r) : CT l yX6_lay cX6_lay 4 (some .int) 5 116 [.ref (a0), .int (a1), .int (a2), .int (a3)] h (some (.int r.1)) r.2 := by
  refine CT.of (own := RX6) rfl (by decide) (Nat.le_of_ble_eq_true rfl) ?_
  intro p e R s m args below meth c g X hR C
  subst hR
  unfold f_X6_lay at hf
  obtain ⟨hok, hf⟩ := gd_ok hf
  have hj42 : ∀ (x0 : Nat) (x1 : Int32) (x2 : Int32) (x3 : Int32) (k0 : Nat) (k1 : Int32), f_X6_lay_J42 h (x0) (x1) (x2) (x3) k0 k1 = some r → G p l e ({ frames := 5, cells := 0, slots := 0, locals := 116 } : Room) s m args below meth c 4 g X h 0 0 (MQ below (QW g X h s.heap.size (some (.int r.1)) r.2) args s 0 0 (AF X h s.heap.size)) 42 [(0, .ref (x0)), (1, .int (x1)), (2, .int (x2)), (3, .int (x3))] [.int (k1), .ref (k0)] h := by
    intro x0 x1 x2 x3 k0 k1 hf
    unfold f_X6_lay_J42 at hf
    obtain ⟨⟨v13, h14⟩, hv13, hf⟩ := bind_some hf
    try dsimp only at hf
    refine G.callV C (st := []) (st2 := [.int (v13)]) (ct_X6_holds hv13) (ko_X6_holds hv13) rfl m9_162 m9_163 m9_164 m9_5 m9_165 kd_X6_holds ⟨Nat.le_of_ble_eq_true rfl, Nat.le_of_ble_eq_true rfl⟩ ⟨Nat.zero_le _, Nat.zero_le _⟩ (Nat.le_of_ble_eq_true rfl) rfl rfl dX6_lay_42 ?_
    refine G.if_ne (tgt := 50) C dX6_lay_45 (by decide) hf (fun c22 hf => ?_) (fun c22 hf => ?_)
    · refine G.aload_n C 0 dX6_lay_50 rfl rfl ?_
      obtain ⟨h16, hh16, hf⟩ := bind_some hf
      try dsimp only at hf
      refine G.callV C (st := []) (st2 := []) (ct_X6_save hh16) (ko_X6_save hh16) rfl m9_167 m9_168 m9_169 m9_5 m9_170 kd_X6_save ⟨Nat.le_of_ble_eq_true rfl, Nat.le_of_ble_eq_true rfl⟩ ⟨Nat.zero_le _, Nat.zero_le _⟩ (Nat.le_of_ble_eq_true rfl) rfl rfl dX6_lay_51 ?_
      refine G.aload_n C 0 dX6_lay_54 rfl rfl ?_
      refine G.iload_n C 1 dX6_lay_55 rfl rfl ?_
      refine G.iload_n C 2 dX6_lay_56 rfl rfl ?_
      refine G.iload_n C 3 dX6_lay_57 rfl rfl ?_
      obtain ⟨h17, hh17, hf⟩ := bind_some hf
      try dsimp only at hf
      refine G.callV C (st := []) (st2 := []) (ct_X6_lays hh17) (ko_X6_lays hh17) rfl m9_307 m9_308 m9_309 m9_5 m9_310 kd_X6_lays ⟨Nat.le_of_ble_eq_true rfl, Nat.le_of_ble_eq_true rfl⟩ ⟨Nat.zero_le _, Nat.zero_le _⟩ (Nat.le_of_ble_eq_true rfl) rfl rfl dX6_lay_58 ?_
      refine G.aload_n C 0 dX6_lay_61 rfl rfl ?_
      refine G.getR (ci := 5) (k := 1) C rfl inlX6 (by decide) m9_70 rfl hf dX6_lay_62 (fun v18 hv18 hf => ?_)
      try dsimp only at hf
      refine G.bipush (v := 9) C dX6_lay_65 (by decide) ?_
      refine G.dup2 C dX6_lay_67 rfl rfl ?_
      refine G.iald C hf dX6_lay_68 (fun v19 hv19 hf => ?_)
      try dsimp only at hf
      refine G.iconst (v := 1) C dX6_lay_69 (by decide) ?_
      refine G.iadd C dX6_lay_70 ?_
      refine G.iast C hf dX6_lay_71 (fun h20 hh20 hf => ?_)
      try dsimp only at hf
      refine G.aload_n C 0 dX6_lay_72 rfl rfl ?_
      refine G.iload_n C 1 dX6_lay_73 rfl rfl ?_
      refine G.iload_n C 2 dX6_lay_74 rfl rfl ?_
      obtain ⟨v21, hv21, hf⟩ := bind_some hf
      try dsimp only at hf
      refine G.callV C (st := []) (st2 := [.int (v21)]) (ct_X6_placesOf hv21) (ko_X6_placesOf hv21) rfl m9_311 m9_312 m9_313 m9_5 m9_314 kd_X6_placesOf ⟨Nat.le_of_ble_eq_true rfl, Nat.le_of_ble_eq_true rfl⟩ ⟨Nat.zero_le _, Nat.zero_le _⟩ (Nat.le_of_ble_eq_true rfl) rfl rfl dX6_lay_75 ?_
      cases hf
      exact G.iret C rfl dX6_lay_78
    · refine G.iconst (v := 0) C dX6_lay_48 (by decide) ?_
      cases hf
      exact G.iret C rfl dX6_lay_49
  refine G.sub C [0, 1, 2, 3] (lv' := [(0, .ref (a0)), (1, .int (a1)), (2, .int (a2)), (3, .int (a3))]) rfl ?_
  refine G.aload_n C 0 dX6_lay_0 rfl rfl ?_
  refine G.aload_n C 0 dX6_lay_1 rfl rfl ?_
  refine G.iload_n C 1 dX6_lay_2 rfl rfl ?_
  refine G.iload_n C 2 dX6_lay_3 rfl rfl ?_
  obtain ⟨v1, hv1, hf⟩ := bind_some hf
  try dsimp only at hf
  refine G.callV C (st := [.ref (a0)]) (st2 := [.int (v1), .ref (a0)]) (ct_X6_areThere hv1) (ko_X6_areThere hv1) rfl m9_287 m9_288 m9_289 m9_5 m9_290 kd_X6_areThere ⟨Nat.le_of_ble_eq_true rfl, Nat.le_of_ble_eq_true rfl⟩ ⟨Nat.zero_le _, Nat.zero_le _⟩ (Nat.le_of_ble_eq_true rfl) rfl rfl dX6_lay_4 ?_
  refine G.if_ne (tgt := 14) C dX6_lay_7 (by decide) hf (fun c6 hf => ?_) (fun c6 hf => ?_)
  · refine G.aload_n C 0 dX6_lay_14 rfl rfl ?_
    refine G.iload_n C 2 dX6_lay_15 rfl rfl ?_
    refine G.iload_n C 3 dX6_lay_16 rfl rfl ?_
    obtain ⟨v2, hv2, hf⟩ := bind_some hf
    try dsimp only at hf
    refine G.callV C (st := [.ref (a0)]) (st2 := [.int (v2), .ref (a0)]) (ct_X6_isPhase hv2) (ko_X6_isPhase hv2) rfl m9_291 m9_292 m9_293 m9_5 m9_294 kd_X6_isPhase ⟨Nat.le_of_ble_eq_true rfl, Nat.le_of_ble_eq_true rfl⟩ ⟨Nat.zero_le _, Nat.zero_le _⟩ (Nat.le_of_ble_eq_true rfl) rfl rfl dX6_lay_17 ?_
    refine G.if_ne (tgt := 27) C dX6_lay_20 (by decide) hf (fun c5 hf => ?_) (fun c5 hf => ?_)
    · refine G.aload_n C 0 dX6_lay_27 rfl rfl ?_
      refine G.iload_n C 1 dX6_lay_28 rfl rfl ?_
      refine G.iload_n C 2 dX6_lay_29 rfl rfl ?_
      refine G.iload_n C 3 dX6_lay_30 rfl rfl ?_
      obtain ⟨v3, hv3, hf⟩ := bind_some hf
      try dsimp only at hf
      refine G.callV C (st := [.ref (a0)]) (st2 := [.int (v3), .ref (a0)]) (ct_X6_why hv3) (ko_X6_why hv3) rfl m9_295 m9_296 m9_297 m9_5 m9_298 kd_X6_why ⟨Nat.le_of_ble_eq_true rfl, Nat.le_of_ble_eq_true rfl⟩ ⟨Nat.zero_le _, Nat.zero_le _⟩ (Nat.le_of_ble_eq_true rfl) rfl rfl dX6_lay_31 ?_
      refine G.if_le (tgt := 41) C dX6_lay_34 (by decide) hf (fun c4 hf => ?_) (fun c4 hf => ?_)
      · refine G.iconst (v := 0) C dX6_lay_41 (by decide) ?_
        refine G.sub C [0, 1, 2, 3] (lv' := [(0, .ref (a0)), (1, .int (a1)), (2, .int (a2)), (3, .int (a3))]) rfl ?_
        exact hj42 _ _ _ _ _ _ hf
      · refine G.iconst (v := 3) C dX6_lay_37 (by decide) ?_
        refine G.goto (tgt := 42) C dX6_lay_38 (by decide) ?_
        refine G.sub C [0, 1, 2, 3] (lv' := [(0, .ref (a0)), (1, .int (a1)), (2, .int (a2)), (3, .int (a3))]) rfl ?_
        exact hj42 _ _ _ _ _ _ hf
    · refine G.iconst (v := 2) C dX6_lay_23 (by decide) ?_
      refine G.goto (tgt := 42) C dX6_lay_24 (by decide) ?_
      refine G.sub C [0, 1, 2, 3] (lv' := [(0, .ref (a0)), (1, .int (a1)), (2, .int (a2)), (3, .int (a3))]) rfl ?_
      exact hj42 _ _ _ _ _ _ hf
  · refine G.iconst (v := 1) C dX6_lay_10 (by decide) ?_
    refine G.goto (tgt := 42) C dX6_lay_11 (by decide) ?_
    refine G.sub C [0, 1, 2, 3] (lv' := [(0, .ref (a0)), (1, .int (a1)), (2, .int (a2)), (3, .int (a3))]) rfl ?_
    exact hj42 _ _ _ _ _ _ hf
theorem ko_X6_take {h : PH} {a0 : Nat} {a1 : Int32} {a2 : Int32} {r : (Int32 × PH)} (hf : f_X6_take h a0 a1 a2 = some r) : kO h a0 5 := by
  unfold f_X6_take at hf
  exact okO_k (gd_ok hf).1
theorem kd_X6_take : yX6_take.cls = RX6 ∧ yX6_take.cls ≠ "java/lang/invoke/MethodHandle" ∧ yX6_take.cls ≠ "java/lang/invoke/VarHandle" ∧ (parseMethodDescriptor yX6_take.desc).map (fun d => d.parameters.length) = some 2 := by decide +kernel
set_option maxRecDepth 20000 in
set_option maxHeartbeats 4000000 in
theorem ct_X6_take {l : Launch} {h : PH} {a0 : Nat} {a1 : Int32} {a2 : Int32} {r : (Int32 × PH)} (hf : f_X6_take h a0 a1 a2 = some r) : CT l yX6_take cX6_take 4 (some .int) 4 91 [.ref (a0), .int (a1), .int (a2)] h (some (.int r.1)) r.2 := by
  refine CT.of (own := RX6) rfl (by decide) (Nat.le_of_ble_eq_true rfl) ?_
  intro p e R s m args below meth c g X hR C
  subst hR
  unfold f_X6_take at hf
  obtain ⟨hok, hf⟩ := gd_ok hf
  have hj28 : ∀ (x0 : Nat) (x1 : Int32) (x2 : Int32) (k0 : Nat) (k1 : Int32), f_X6_take_J28 h (x0) (x1) (x2) k0 k1 = some r → G p l e ({ frames := 4, cells := 0, slots := 0, locals := 91 } : Room) s m args below meth c 4 g X h 0 0 (MQ below (QW g X h s.heap.size (some (.int r.1)) r.2) args s 0 0 (AF X h s.heap.size)) 28 [(0, .ref (x0)), (1, .int (x1)), (2, .int (x2))] [.int (k1), .ref (k0)] h := by
    intro x0 x1 x2 k0 k1 hf
    unfold f_X6_take_J28 at hf
    obtain ⟨⟨v9, h10⟩, hv9, hf⟩ := bind_some hf
    try dsimp only at hf
    refine G.callV C (st := []) (st2 := [.int (v9)]) (ct_X6_holds hv9) (ko_X6_holds hv9) rfl m9_162 m9_163 m9_164 m9_5 m9_165 kd_X6_holds ⟨Nat.le_of_ble_eq_true rfl, Nat.le_of_ble_eq_true rfl⟩ ⟨Nat.zero_le _, Nat.zero_le _⟩ (Nat.le_of_ble_eq_true rfl) rfl rfl dX6_take_28 ?_
    refine G.if_ne (tgt := 36) C dX6_take_31 (by decide) hf (fun c15 hf => ?_) (fun c15 hf => ?_)
    · refine G.aload_n C 0 dX6_take_36 rfl rfl ?_
      obtain ⟨h12, hh12, hf⟩ := bind_some hf
      try dsimp only at hf
      refine G.callV C (st := []) (st2 := []) (ct_X6_save hh12) (ko_X6_save hh12) rfl m9_167 m9_168 m9_169 m9_5 m9_170 kd_X6_save ⟨Nat.le_of_ble_eq_true rfl, Nat.le_of_ble_eq_true rfl⟩ ⟨Nat.zero_le _, Nat.zero_le _⟩ (Nat.le_of_ble_eq_true rfl) rfl rfl dX6_take_37 ?_
      refine G.aload_n C 0 dX6_take_40 rfl rfl ?_
      refine G.iload_n C 1 dX6_take_41 rfl rfl ?_
      refine G.iload_n C 2 dX6_take_42 rfl rfl ?_
      obtain ⟨v13, hv13, hf⟩ := bind_some hf
      try dsimp only at hf
      refine G.callV C (st := []) (st2 := [.int (v13)]) (ct_X6_placesOf hv13) (ko_X6_placesOf hv13) rfl m9_311 m9_312 m9_313 m9_5 m9_314 kd_X6_placesOf ⟨Nat.le_of_ble_eq_true rfl, Nat.le_of_ble_eq_true rfl⟩ ⟨Nat.zero_le _, Nat.zero_le _⟩ (Nat.le_of_ble_eq_true rfl) rfl rfl dX6_take_43 ?_
      refine G.istore_n (lv' := [(3, .int (v13)), (0, .ref (x0)), (1, .int (x1)), (2, .int (x2))]) C dX6_take_46 rfl (by decide) rfl ?_
      refine G.aload_n C 1 dX6_take_47 rfl rfl ?_
      refine G.iload_n C 2 dX6_take_48 rfl rfl ?_
      refine G.iload_n C 3 dX6_take_49 rfl rfl ?_
      obtain ⟨h14, hh14, hf⟩ := bind_some hf
      try dsimp only at hf
      refine G.callV C (st := []) (st2 := []) (ct_X6_takesOff hh14) (ko_X6_takesOff hh14) rfl m9_335 m9_336 m9_337 m9_5 m9_338 kd_X6_takesOff ⟨Nat.le_of_ble_eq_true rfl, Nat.le_of_ble_eq_true rfl⟩ ⟨Nat.zero_le _, Nat.zero_le _⟩ (Nat.le_of_ble_eq_true rfl) rfl rfl dX6_take_50 ?_
      refine G.iload_n C 0 dX6_take_53 rfl rfl ?_
      cases hf
      exact G.iret C rfl dX6_take_54
    · refine G.iconst (v := 0) C dX6_take_34 (by decide) ?_
      cases hf
      exact G.iret C rfl dX6_take_35
  refine G.sub C [0, 1, 2] (lv' := [(0, .ref (a0)), (1, .int (a1)), (2, .int (a2))]) rfl ?_
  refine G.aload_n C 0 dX6_take_0 rfl rfl ?_
  refine G.aload_n C 0 dX6_take_1 rfl rfl ?_
  refine G.iload_n C 1 dX6_take_2 rfl rfl ?_
  refine G.iload_n C 2 dX6_take_3 rfl rfl ?_
  obtain ⟨v1, hv1, hf⟩ := bind_some hf
  try dsimp only at hf
  refine G.callV C (st := [.ref (a0)]) (st2 := [.int (v1), .ref (a0)]) (ct_X6_areThere hv1) (ko_X6_areThere hv1) rfl m9_287 m9_288 m9_289 m9_5 m9_290 kd_X6_areThere ⟨Nat.le_of_ble_eq_true rfl, Nat.le_of_ble_eq_true rfl⟩ ⟨Nat.zero_le _, Nat.zero_le _⟩ (Nat.le_of_ble_eq_true rfl) rfl rfl dX6_take_4 ?_
  refine G.if_ne (tgt := 14) C dX6_take_7 (by decide) hf (fun c4 hf => ?_) (fun c4 hf => ?_)
  · refine G.aload_n C 0 dX6_take_14 rfl rfl ?_
    refine G.iload_n C 1 dX6_take_15 rfl rfl ?_
    refine G.iload_n C 2 dX6_take_16 rfl rfl ?_
    obtain ⟨v2, hv2, hf⟩ := bind_some hf
    try dsimp only at hf
    refine G.callV C (st := [.ref (a0)]) (st2 := [.int (v2), .ref (a0)]) (ct_X6_isLaid hv2) (ko_X6_isLaid hv2) rfl m9_151 m9_152 m9_153 m9_5 m9_154 kd_X6_isLaid ⟨Nat.le_of_ble_eq_true rfl, Nat.le_of_ble_eq_true rfl⟩ ⟨Nat.zero_le _, Nat.zero_le _⟩ (Nat.le_of_ble_eq_true rfl) rfl rfl dX6_take_17 ?_
    refine G.if_ne (tgt := 27) C dX6_take_20 (by decide) hf (fun c3 hf => ?_) (fun c3 hf => ?_)
    · refine G.iconst (v := 0) C dX6_take_27 (by decide) ?_
      refine G.sub C [0, 1, 2] (lv' := [(0, .ref (a0)), (1, .int (a1)), (2, .int (a2))]) rfl ?_
      exact hj28 _ _ _ _ _ hf
    · refine G.iconst (v := 2) C dX6_take_23 (by decide) ?_
      refine G.goto (tgt := 28) C dX6_take_24 (by decide) ?_
      refine G.sub C [0, 1, 2] (lv' := [(0, .ref (a0)), (1, .int (a1)), (2, .int (a2))]) rfl ?_
      exact hj28 _ _ _ _ _ hf
  · refine G.iconst (v := 1) C dX6_take_10 (by decide) ?_
    refine G.goto (tgt := 28) C dX6_take_11 (by decide) ?_
    refine G.sub C [0, 1, 2] (lv' := [(0, .ref (a0)), (1, .int (a1)), (2, .int (a2))]) rfl ?_
    exact hj28 _ _ _ _ _ hf
theorem ko_X6_stretch {h : PH} {a0 : Nat} {a1 : Int32} {a2 : Int32} {r : (Int32 × PH)} (hf : f_X6_stretch h a0 a1 a2 = some r) : kO h a0 5 := by
  unfold f_X6_stretch at hf
  exact okO_k (gd_ok hf).1
theorem kd_X6_stretch : yX6_stretch.cls = RX6 ∧ yX6_stretch.cls ≠ "java/lang/invoke/MethodHandle" ∧ yX6_stretch.cls ≠ "java/lang/invoke/VarHandle" ∧ (parseMethodDescriptor yX6_stretch.desc).map (fun d => d.parameters.length) = some 2 := by decide +kernel
set_option maxRecDepth 20000 in
set_option maxHeartbeats 4000000 in
theorem ct_X6_stretch {l : Launch} {h : PH} {a0 : Nat} {a1 : Int32} {a2 : Int32} {r : (Int32 × PH)} (hf : f_X6_stretch h a0 a1 a2 = some r) : CT l yX6_stretch cX6_stretch 3 (some .int) 5 113 [.ref (a0), .int (a1), .int (a2)] h (some (.int r.1)) r.2 := by
  refine CT.of (own := RX6) rfl (by decide) (Nat.le_of_ble_eq_true rfl) ?_
  intro p e R s m args below meth c g X hR C
  subst hR
  unfold f_X6_stretch at hf
  obtain ⟨hok, hf⟩ := gd_ok hf
  have hj41 : ∀ (x0 : Nat) (x1 : Int32) (x2 : Int32) (k0 : Nat) (k1 : Int32), f_X6_stretch_J41 h (x0) (x1) (x2) k0 k1 = some r → G p l e ({ frames := 5, cells := 0, slots := 0, locals := 113 } : Room) s m args below meth c 3 g X h 0 0 (MQ below (QW g X h s.heap.size (some (.int r.1)) r.2) args s 0 0 (AF X h s.heap.size)) 41 [(0, .ref (x0)), (1, .int (x1)), (2, .int (x2))] [.int (k1), .ref (k0)] h := by
    intro x0 x1 x2 k0 k1 hf
    unfold f_X6_stretch_J41 at hf
    obtain ⟨⟨v16, h17⟩, hv16, hf⟩ := bind_some hf
    try dsimp only at hf
    refine G.callV C (st := []) (st2 := [.int (v16)]) (ct_X6_holds hv16) (ko_X6_holds hv16) rfl m9_162 m9_163 m9_164 m9_5 m9_165 kd_X6_holds ⟨Nat.le_of_ble_eq_true rfl, Nat.le_of_ble_eq_true rfl⟩ ⟨Nat.zero_le _, Nat.zero_le _⟩ (Nat.le_of_ble_eq_true rfl) rfl rfl dX6_stretch_41 ?_
    refine G.if_ne (tgt := 49) C dX6_stretch_44 (by decide) hf (fun c28 hf => ?_) (fun c28 hf => ?_)
    · refine G.aload_n C 0 dX6_stretch_49 rfl rfl ?_
      obtain ⟨h19, hh19, hf⟩ := bind_some hf
      try dsimp only at hf
      refine G.callV C (st := []) (st2 := []) (ct_X6_save hh19) (ko_X6_save hh19) rfl m9_167 m9_168 m9_169 m9_5 m9_170 kd_X6_save ⟨Nat.le_of_ble_eq_true rfl, Nat.le_of_ble_eq_true rfl⟩ ⟨Nat.zero_le _, Nat.zero_le _⟩ (Nat.le_of_ble_eq_true rfl) rfl rfl dX6_stretch_50 ?_
      refine G.aload_n C 0 dX6_stretch_53 rfl rfl ?_
      refine G.iload_n C 1 dX6_stretch_54 rfl rfl ?_
      obtain ⟨h20, hh20, hf⟩ := bind_some hf
      try dsimp only at hf
      refine G.callV C (st := []) (st2 := []) (ct_X6_remembers hh20) (ko_X6_remembers hh20) rfl m9_339 m9_340 m9_341 m9_5 m9_342 kd_X6_remembers ⟨Nat.le_of_ble_eq_true rfl, Nat.le_of_ble_eq_true rfl⟩ ⟨Nat.zero_le _, Nat.zero_le _⟩ (Nat.le_of_ble_eq_true rfl) rfl rfl dX6_stretch_55 ?_
      refine G.aload_n C 0 dX6_stretch_58 rfl rfl ?_
      refine G.iload_n C 1 dX6_stretch_59 rfl rfl ?_
      refine G.iload_n C 2 dX6_stretch_60 rfl rfl ?_
      obtain ⟨h21, hh21, hf⟩ := bind_some hf
      try dsimp only at hf
      refine G.callV C (st := []) (st2 := []) (ct_X6_clears hh21) (ko_X6_clears hh21) rfl m9_218 m9_219 m9_220 m9_5 m9_221 kd_X6_clears ⟨Nat.le_of_ble_eq_true rfl, Nat.le_of_ble_eq_true rfl⟩ ⟨Nat.zero_le _, Nat.zero_le _⟩ (Nat.le_of_ble_eq_true rfl) rfl rfl dX6_stretch_61 ?_
      refine G.aload_n C 0 dX6_stretch_64 rfl rfl ?_
      refine G.iload_n C 1 dX6_stretch_65 rfl rfl ?_
      refine G.iconst (v := 0) C dX6_stretch_66 (by decide) ?_
      obtain ⟨h22, hh22, hf⟩ := bind_some hf
      try dsimp only at hf
      refine G.callV C (st := []) (st2 := []) (ct_X6_laysFrom hh22) (ko_X6_laysFrom hh22) rfl m9_397 m9_398 m9_399 m9_5 m9_400 kd_X6_laysFrom ⟨Nat.le_of_ble_eq_true rfl, Nat.le_of_ble_eq_true rfl⟩ ⟨Nat.zero_le _, Nat.zero_le _⟩ (Nat.le_of_ble_eq_true rfl) rfl rfl dX6_stretch_67 ?_
      refine G.aload_n C 0 dX6_stretch_70 rfl rfl ?_
      refine G.getR (ci := 5) (k := 9) C rfl inlX6 (by decide) m9_75 rfl hf dX6_stretch_71 (fun v23 hv23 hf => ?_)
      try dsimp only at hf
      refine G.iconst (v := 1) C dX6_stretch_74 (by decide) ?_
      refine G.iald C hf dX6_stretch_75 (fun v24 hv24 hf => ?_)
      try dsimp only at hf
      refine G.aload_n C 0 dX6_stretch_76 rfl rfl ?_
      refine G.getR (ci := 5) (k := 1) C rfl inlX6 (by decide) m9_70 rfl hf dX6_stretch_77 (fun v25 hv25 hf => ?_)
      try dsimp only at hf
      refine G.iload_n C 1 dX6_stretch_80 rfl rfl ?_
      refine G.iconst (v := 1) C dX6_stretch_81 (by decide) ?_
      obtain ⟨v26, hv26, hf⟩ := bind_some hf
      try dsimp only at hf
      refine G.callS C (st := [.ref (v25), .int (v24)]) (st2 := [.int (v26), .ref (v25), .int (v24)]) (ct_X6_of hv26) m9_159 m9_160 m9_5 m9_161 kd_X6_of ⟨Nat.le_of_ble_eq_true rfl, Nat.le_of_ble_eq_true rfl⟩ ⟨Nat.zero_le _, Nat.zero_le _⟩ (Nat.le_of_ble_eq_true rfl) rfl rfl dX6_stretch_82 ?_
      refine G.iald C hf dX6_stretch_85 (fun v27 hv27 hf => ?_)
      try dsimp only at hf
      refine G.isub C dX6_stretch_86 ?_
      cases hf
      exact G.iret C rfl dX6_stretch_87
    · refine G.iconst (v := 0) C dX6_stretch_47 (by decide) ?_
      cases hf
      exact G.iret C rfl dX6_stretch_48
  refine G.sub C [0, 1, 2] (lv' := [(0, .ref (a0)), (1, .int (a1)), (2, .int (a2))]) rfl ?_
  refine G.aload_n C 0 dX6_stretch_0 rfl rfl ?_
  refine G.aload_n C 0 dX6_stretch_1 rfl rfl ?_
  refine G.iload_n C 1 dX6_stretch_2 rfl rfl ?_
  obtain ⟨v1, hv1, hf⟩ := bind_some hf
  try dsimp only at hf
  refine G.callV C (st := [.ref (a0)]) (st2 := [.int (v1), .ref (a0)]) (ct_X6_isRope hv1) (ko_X6_isRope hv1) rfl m9_242 m9_243 m9_244 m9_5 m9_245 kd_X6_isRope ⟨Nat.le_of_ble_eq_true rfl, Nat.le_of_ble_eq_true rfl⟩ ⟨Nat.zero_le _, Nat.zero_le _⟩ (Nat.le_of_ble_eq_true rfl) rfl rfl dX6_stretch_3 ?_
  refine G.if_ne (tgt := 13) C dX6_stretch_6 (by decide) hf (fun c6 hf => ?_) (fun c6 hf => ?_)
  · refine G.iload_n C 2 dX6_stretch_13 rfl rfl ?_
    refine G.iconst (v := 1) C dX6_stretch_14 (by decide) ?_
    refine G.bipush (v := 60) C dX6_stretch_15 (by decide) ?_
    obtain ⟨v2, hv2, hf⟩ := bind_some hf
    try dsimp only at hf
    refine G.callS C (st := [.ref (a0)]) (st2 := [.int (v2), .ref (a0)]) (ct_X6_in hv2) m9_144 m9_145 m9_5 m9_146 kd_X6_in ⟨Nat.le_of_ble_eq_true rfl, Nat.le_of_ble_eq_true rfl⟩ ⟨Nat.zero_le _, Nat.zero_le _⟩ (Nat.le_of_ble_eq_true rfl) rfl rfl dX6_stretch_17 ?_
    refine G.if_ne (tgt := 27) C dX6_stretch_20 (by decide) hf (fun c5 hf => ?_) (fun c5 hf => ?_)
    · refine G.iload_n C 2 dX6_stretch_27 rfl rfl ?_
      refine G.aload_n C 0 dX6_stretch_28 rfl rfl ?_
      refine G.iload_n C 1 dX6_stretch_29 rfl rfl ?_
      obtain ⟨v3, hv3, hf⟩ := bind_some hf
      try dsimp only at hf
      refine G.callV C (st := [.int (a2), .ref (a0)]) (st2 := [.int (v3), .int (a2), .ref (a0)]) (ct_X6_clash hv3) (ko_X6_clash hv3) rfl m9_389 m9_390 m9_391 m9_5 m9_392 kd_X6_clash ⟨Nat.le_of_ble_eq_true rfl, Nat.le_of_ble_eq_true rfl⟩ ⟨Nat.zero_le _, Nat.zero_le _⟩ (Nat.le_of_ble_eq_true rfl) rfl rfl dX6_stretch_30 ?_
      refine G.icmp_le (tgt := 40) C dX6_stretch_33 (by decide) hf (fun c4 hf => ?_) (fun c4 hf => ?_)
      · refine G.iconst (v := 0) C dX6_stretch_40 (by decide) ?_
        refine G.sub C [0, 1, 2] (lv' := [(0, .ref (a0)), (1, .int (a1)), (2, .int (a2))]) rfl ?_
        exact hj41 _ _ _ _ _ hf
      · refine G.iconst (v := 3) C dX6_stretch_36 (by decide) ?_
        refine G.goto (tgt := 41) C dX6_stretch_37 (by decide) ?_
        refine G.sub C [0, 1, 2] (lv' := [(0, .ref (a0)), (1, .int (a1)), (2, .int (a2))]) rfl ?_
        exact hj41 _ _ _ _ _ hf
    · refine G.iconst (v := 2) C dX6_stretch_23 (by decide) ?_
      refine G.goto (tgt := 41) C dX6_stretch_24 (by decide) ?_
      refine G.sub C [0, 1, 2] (lv' := [(0, .ref (a0)), (1, .int (a1)), (2, .int (a2))]) rfl ?_
      exact hj41 _ _ _ _ _ hf
  · refine G.iconst (v := 1) C dX6_stretch_9 (by decide) ?_
    refine G.goto (tgt := 41) C dX6_stretch_10 (by decide) ?_
    refine G.sub C [0, 1, 2] (lv' := [(0, .ref (a0)), (1, .int (a1)), (2, .int (a2))]) rfl ?_
    exact hj41 _ _ _ _ _ hf
theorem ko_X6_cut {h : PH} {a0 : Nat} {a1 : Int32} {a2 : Int32} {r : (Int32 × PH)} (hf : f_X6_cut h a0 a1 a2 = some r) : kO h a0 5 := by
  unfold f_X6_cut at hf
  exact okO_k (gd_ok hf).1
theorem kd_X6_cut : yX6_cut.cls = RX6 ∧ yX6_cut.cls ≠ "java/lang/invoke/MethodHandle" ∧ yX6_cut.cls ≠ "java/lang/invoke/VarHandle" ∧ (parseMethodDescriptor yX6_cut.desc).map (fun d => d.parameters.length) = some 2 := by decide +kernel
set_option maxRecDepth 20000 in
set_option maxHeartbeats 4000000 in
theorem ct_X6_cut {l : Launch} {h : PH} {a0 : Nat} {a1 : Int32} {a2 : Int32} {r : (Int32 × PH)} (hf : f_X6_cut h a0 a1 a2 = some r) : CT l yX6_cut cX6_cut 4 (some .int) 3 69 [.ref (a0), .int (a1), .int (a2)] h (some (.int r.1)) r.2 := by
  refine CT.of (own := RX6) rfl (by decide) (Nat.le_of_ble_eq_true rfl) ?_
  intro p e R s m args below meth c g X hR C
  subst hR
  unfold f_X6_cut at hf
  obtain ⟨hok, hf⟩ := gd_ok hf
  have hj55 : ∀ (x0 : Nat) (x1 : Int32) (x2 : Int32) (k0 : Nat) (k1 : Int32), f_X6_cut_J55 h (x0) (x1) (x2) k0 k1 = some r → G p l e ({ frames := 3, cells := 0, slots := 0, locals := 69 } : Room) s m args below meth c 4 g X h 0 0 (MQ below (QW g X h s.heap.size (some (.int r.1)) r.2) args s 0 0 (AF X h s.heap.size)) 55 [(0, .ref (x0)), (1, .int (x1)), (2, .int (x2))] [.int (k1), .ref (k0)] h := by
    intro x0 x1 x2 k0 k1 hf
    unfold f_X6_cut_J55 at hf
    obtain ⟨⟨v26, h27⟩, hv26, hf⟩ := bind_some hf
    try dsimp only at hf
    refine G.callV C (st := []) (st2 := [.int (v26)]) (ct_X6_holds hv26) (ko_X6_holds hv26) rfl m9_162 m9_163 m9_164 m9_5 m9_165 kd_X6_holds ⟨Nat.le_of_ble_eq_true rfl, Nat.le_of_ble_eq_true rfl⟩ ⟨Nat.zero_le _, Nat.zero_le _⟩ (Nat.le_of_ble_eq_true rfl) rfl rfl dX6_cut_55 ?_
    refine G.if_ne (tgt := 63) C dX6_cut_58 (by decide) hf (fun c44 hf => ?_) (fun c44 hf => ?_)
    · refine G.aload_n C 0 dX6_cut_63 rfl rfl ?_
      obtain ⟨h29, hh29, hf⟩ := bind_some hf
      try dsimp only at hf
      refine G.callV C (st := []) (st2 := []) (ct_X6_save hh29) (ko_X6_save hh29) rfl m9_167 m9_168 m9_169 m9_5 m9_170 kd_X6_save ⟨Nat.le_of_ble_eq_true rfl, Nat.le_of_ble_eq_true rfl⟩ ⟨Nat.zero_le _, Nat.zero_le _⟩ (Nat.le_of_ble_eq_true rfl) rfl rfl dX6_cut_64 ?_
      refine G.aload_n C 0 dX6_cut_67 rfl rfl ?_
      refine G.iload_n C 1 dX6_cut_68 rfl rfl ?_
      obtain ⟨h30, hh30, hf⟩ := bind_some hf
      try dsimp only at hf
      refine G.callV C (st := []) (st2 := []) (ct_X6_remembers hh30) (ko_X6_remembers hh30) rfl m9_339 m9_340 m9_341 m9_5 m9_342 kd_X6_remembers ⟨Nat.le_of_ble_eq_true rfl, Nat.le_of_ble_eq_true rfl⟩ ⟨Nat.zero_le _, Nat.zero_le _⟩ (Nat.le_of_ble_eq_true rfl) rfl rfl dX6_cut_69 ?_
      refine G.aload_n C 0 dX6_cut_72 rfl rfl ?_
      refine G.aload_n C 0 dX6_cut_73 rfl rfl ?_
      refine G.getR (ci := 5) (k := 9) C rfl inlX6 (by decide) m9_75 rfl hf dX6_cut_74 (fun v31 hv31 hf => ?_)
      try dsimp only at hf
      refine G.iconst (v := 0) C dX6_cut_77 (by decide) ?_
      refine G.iald C hf dX6_cut_78 (fun v32 hv32 hf => ?_)
      try dsimp only at hf
      refine G.iload_n C 2 dX6_cut_79 rfl rfl ?_
      refine G.isub C dX6_cut_80 ?_
      obtain ⟨h33, hh33, hf⟩ := bind_some hf
      try dsimp only at hf
      refine G.callV C (st := []) (st2 := []) (ct_X6_adds hh33) (ko_X6_adds hh33) rfl m9_214 m9_215 m9_216 m9_5 m9_217 kd_X6_adds ⟨Nat.le_of_ble_eq_true rfl, Nat.le_of_ble_eq_true rfl⟩ ⟨Nat.zero_le _, Nat.zero_le _⟩ (Nat.le_of_ble_eq_true rfl) rfl rfl dX6_cut_81 ?_
      refine G.aload_n C 0 dX6_cut_84 rfl rfl ?_
      refine G.aload_n C 0 dX6_cut_85 rfl rfl ?_
      refine G.getR (ci := 5) (k := 1) C rfl inlX6 (by decide) m9_70 rfl hf dX6_cut_86 (fun v34 hv34 hf => ?_)
      try dsimp only at hf
      refine G.bipush (v := 8) C dX6_cut_89 (by decide) ?_
      refine G.iald C hf dX6_cut_91 (fun v35 hv35 hf => ?_)
      try dsimp only at hf
      refine G.iconst (v := 1) C dX6_cut_92 (by decide) ?_
      refine G.isub C dX6_cut_93 ?_
      refine G.iload_n C 2 dX6_cut_94 rfl rfl ?_
      obtain ⟨h36, hh36, hf⟩ := bind_some hf
      try dsimp only at hf
      refine G.callV C (st := []) (st2 := []) (ct_X6_laysFrom hh36) (ko_X6_laysFrom hh36) rfl m9_397 m9_398 m9_399 m9_5 m9_400 kd_X6_laysFrom ⟨Nat.le_of_ble_eq_true rfl, Nat.le_of_ble_eq_true rfl⟩ ⟨Nat.zero_le _, Nat.zero_le _⟩ (Nat.le_of_ble_eq_true rfl) rfl rfl dX6_cut_95 ?_
      refine G.aload_n C 0 dX6_cut_98 rfl rfl ?_
      refine G.iload_n C 1 dX6_cut_99 rfl rfl ?_
      refine G.iload_n C 2 dX6_cut_100 rfl rfl ?_
      obtain ⟨h37, hh37, hf⟩ := bind_some hf
      try dsimp only at hf
      refine G.callV C (st := []) (st2 := []) (ct_X6_clears hh37) (ko_X6_clears hh37) rfl m9_218 m9_219 m9_220 m9_5 m9_221 kd_X6_clears ⟨Nat.le_of_ble_eq_true rfl, Nat.le_of_ble_eq_true rfl⟩ ⟨Nat.zero_le _, Nat.zero_le _⟩ (Nat.le_of_ble_eq_true rfl) rfl rfl dX6_cut_101 ?_
      refine G.aload_n C 0 dX6_cut_104 rfl rfl ?_
      refine G.iload_n C 1 dX6_cut_105 rfl rfl ?_
      refine G.iconst (v := 0) C dX6_cut_106 (by decide) ?_
      obtain ⟨h38, hh38, hf⟩ := bind_some hf
      try dsimp only at hf
      refine G.callV C (st := []) (st2 := []) (ct_X6_laysFrom hh38) (ko_X6_laysFrom hh38) rfl m9_397 m9_398 m9_399 m9_5 m9_400 kd_X6_laysFrom ⟨Nat.le_of_ble_eq_true rfl, Nat.le_of_ble_eq_true rfl⟩ ⟨Nat.zero_le _, Nat.zero_le _⟩ (Nat.le_of_ble_eq_true rfl) rfl rfl dX6_cut_107 ?_
      refine G.aload_n C 0 dX6_cut_110 rfl rfl ?_
      refine G.getR (ci := 5) (k := 1) C rfl inlX6 (by decide) m9_70 rfl hf dX6_cut_111 (fun v39 hv39 hf => ?_)
      try dsimp only at hf
      refine G.bipush (v := 11) C dX6_cut_114 (by decide) ?_
      refine G.dup2 C dX6_cut_116 rfl rfl ?_
      refine G.iald C hf dX6_cut_117 (fun v40 hv40 hf => ?_)
      try dsimp only at hf
      refine G.iconst (v := 1) C dX6_cut_118 (by decide) ?_
      refine G.iadd C dX6_cut_119 ?_
      refine G.iast C hf dX6_cut_120 (fun h41 hh41 hf => ?_)
      try dsimp only at hf
      refine G.aload_n C 0 dX6_cut_121 rfl rfl ?_
      refine G.getR (ci := 5) (k := 1) C rfl inlX6 (by decide) m9_70 rfl hf dX6_cut_122 (fun v42 hv42 hf => ?_)
      try dsimp only at hf
      refine G.bipush (v := 8) C dX6_cut_125 (by decide) ?_
      refine G.iald C hf dX6_cut_127 (fun v43 hv43 hf => ?_)
      try dsimp only at hf
      refine G.iconst (v := 1) C dX6_cut_128 (by decide) ?_
      refine G.isub C dX6_cut_129 ?_
      cases hf
      exact G.iret C rfl dX6_cut_130
    · refine G.iconst (v := 0) C dX6_cut_61 (by decide) ?_
      cases hf
      exact G.iret C rfl dX6_cut_62
  refine G.sub C [0, 1, 2] (lv' := [(0, .ref (a0)), (1, .int (a1)), (2, .int (a2))]) rfl ?_
  refine G.aload_n C 0 dX6_cut_0 rfl rfl ?_
  refine G.iload_n C 1 dX6_cut_1 rfl rfl ?_
  obtain ⟨v1, hv1, hf⟩ := bind_some hf
  try dsimp only at hf
  refine G.callV C (st := []) (st2 := [.int (v1)]) (ct_X6_isRope hv1) (ko_X6_isRope hv1) rfl m9_242 m9_243 m9_244 m9_5 m9_245 kd_X6_isRope ⟨Nat.le_of_ble_eq_true rfl, Nat.le_of_ble_eq_true rfl⟩ ⟨Nat.zero_le _, Nat.zero_le _⟩ (Nat.le_of_ble_eq_true rfl) rfl rfl dX6_cut_2 ?_
  refine G.istore_n (lv' := [(3, .int (v1)), (0, .ref (a0)), (1, .int (a1)), (2, .int (a2))]) C dX6_cut_5 rfl (by decide) rfl ?_
  refine G.aload_n C 1 dX6_cut_6 rfl rfl ?_
  refine G.iload_n C 0 dX6_cut_7 rfl rfl ?_
  refine G.if_ne (tgt := 15) C dX6_cut_8 (by decide) hf (fun c10 hf => ?_) (fun c10 hf => ?_)
  · refine G.iload_n C 3 dX6_cut_15 rfl rfl ?_
    refine G.iconst (v := 1) C dX6_cut_16 (by decide) ?_
    refine G.aload_n C 1 dX6_cut_17 rfl rfl ?_
    refine G.getR (ci := 5) (k := 1) C rfl inlX6 (by decide) m9_70 rfl hf dX6_cut_18 (fun v2 hv2 hf => ?_)
    try dsimp only at hf
    refine G.iload_n C 2 dX6_cut_21 rfl rfl ?_
    refine G.iconst (v := 0) C dX6_cut_22 (by decide) ?_
    obtain ⟨v3, hv3, hf⟩ := bind_some hf
    try dsimp only at hf
    refine G.callS C (st := [.ref (v2), .int ((1 : Int32)), .int (a2), .ref (a0)]) (st2 := [.int (v3), .ref (v2), .int ((1 : Int32)), .int (a2), .ref (a0)]) (ct_X6_of hv3) m9_159 m9_160 m9_5 m9_161 kd_X6_of ⟨Nat.le_of_ble_eq_true rfl, Nat.le_of_ble_eq_true rfl⟩ ⟨Nat.zero_le _, Nat.zero_le _⟩ (Nat.le_of_ble_eq_true rfl) rfl rfl dX6_cut_23 ?_
    refine G.iald C hf dX6_cut_26 (fun v4 hv4 hf => ?_)
    try dsimp only at hf
    refine G.iconst (v := 1) C dX6_cut_27 (by decide) ?_
    refine G.isub C dX6_cut_28 ?_
    obtain ⟨v5, hv5, hf⟩ := bind_some hf
    try dsimp only at hf
    refine G.callS C (st := [.ref (a0)]) (st2 := [.int (v5), .ref (a0)]) (ct_X6_in hv5) m9_144 m9_145 m9_5 m9_146 kd_X6_in ⟨Nat.le_of_ble_eq_true rfl, Nat.le_of_ble_eq_true rfl⟩ ⟨Nat.zero_le _, Nat.zero_le _⟩ (Nat.le_of_ble_eq_true rfl) rfl rfl dX6_cut_29 ?_
    refine G.if_ne (tgt := 39) C dX6_cut_32 (by decide) hf (fun c9 hf => ?_) (fun c9 hf => ?_)
    · refine G.aload_n C 1 dX6_cut_39 rfl rfl ?_
      refine G.getR (ci := 5) (k := 1) C rfl inlX6 (by decide) m9_70 rfl hf dX6_cut_40 (fun v6 hv6 hf => ?_)
      try dsimp only at hf
      refine G.bipush (v := 8) C dX6_cut_43 (by decide) ?_
      refine G.iald C hf dX6_cut_45 (fun v7 hv7 hf => ?_)
      try dsimp only at hf
      refine G.iconst (v := 4) C dX6_cut_46 (by decide) ?_
      refine G.icmp_ne (tgt := 54) C dX6_cut_47 (by decide) hf (fun c8 hf => ?_) (fun c8 hf => ?_)
      · refine G.iconst (v := 0) C dX6_cut_54 (by decide) ?_
        refine G.sub C [1, 2, 3] (lv' := [(0, .ref (a0)), (1, .int (a1)), (2, .int (a2))]) rfl ?_
        exact hj55 _ _ _ _ _ hf
      · refine G.iconst (v := 3) C dX6_cut_50 (by decide) ?_
        refine G.goto (tgt := 55) C dX6_cut_51 (by decide) ?_
        refine G.sub C [1, 2, 3] (lv' := [(0, .ref (a0)), (1, .int (a1)), (2, .int (a2))]) rfl ?_
        exact hj55 _ _ _ _ _ hf
    · refine G.iconst (v := 2) C dX6_cut_35 (by decide) ?_
      refine G.goto (tgt := 55) C dX6_cut_36 (by decide) ?_
      refine G.sub C [1, 2, 3] (lv' := [(0, .ref (a0)), (1, .int (a1)), (2, .int (a2))]) rfl ?_
      exact hj55 _ _ _ _ _ hf
  · refine G.iconst (v := 1) C dX6_cut_11 (by decide) ?_
    refine G.goto (tgt := 55) C dX6_cut_12 (by decide) ?_
    refine G.sub C [1, 2, 3] (lv' := [(0, .ref (a0)), (1, .int (a1)), (2, .int (a2))]) rfl ?_
    exact hj55 _ _ _ _ _ hf
theorem ko_X6_turn {h : PH} {a0 : Nat} {a1 : Int32} {r : (Int32 × PH)} (hf : f_X6_turn h a0 a1 = some r) : kO h a0 5 := by
  unfold f_X6_turn at hf
  exact okO_k (gd_ok hf).1
theorem kd_X6_turn : yX6_turn.cls = RX6 ∧ yX6_turn.cls ≠ "java/lang/invoke/MethodHandle" ∧ yX6_turn.cls ≠ "java/lang/invoke/VarHandle" ∧ (parseMethodDescriptor yX6_turn.desc).map (fun d => d.parameters.length) = some 1 := by decide +kernel
set_option maxRecDepth 20000 in
set_option maxHeartbeats 4000000 in
theorem ct_X6_turn {l : Launch} {h : PH} {a0 : Nat} {a1 : Int32} {r : (Int32 × PH)} (hf : f_X6_turn h a0 a1 = some r) : CT l yX6_turn cX6_turn 3 (some .int) 5 114 [.ref (a0), .int (a1)] h (some (.int r.1)) r.2 := by
  refine CT.of (own := RX6) rfl (by decide) (Nat.le_of_ble_eq_true rfl) ?_
  intro p e R s m args below meth c g X hR C
  subst hR
  unfold f_X6_turn at hf
  obtain ⟨hok, hf⟩ := gd_ok hf
  have hj14 : ∀ (x0 : Nat) (x1 : Int32) (k0 : Nat) (k1 : Int32), f_X6_turn_J14 h (x0) (x1) k0 k1 = some r → G p l e ({ frames := 5, cells := 0, slots := 0, locals := 114 } : Room) s m args below meth c 3 g X h 0 0 (MQ below (QW g X h s.heap.size (some (.int r.1)) r.2) args s 0 0 (AF X h s.heap.size)) 14 [(0, .ref (x0)), (1, .int (x1))] [.int (k1), .ref (k0)] h := by
    intro x0 x1 k0 k1 hf
    unfold f_X6_turn_J14 at hf
    obtain ⟨⟨v8, h9⟩, hv8, hf⟩ := bind_some hf
    try dsimp only at hf
    refine G.callV C (st := []) (st2 := [.int (v8)]) (ct_X6_holds hv8) (ko_X6_holds hv8) rfl m9_162 m9_163 m9_164 m9_5 m9_165 kd_X6_holds ⟨Nat.le_of_ble_eq_true rfl, Nat.le_of_ble_eq_true rfl⟩ ⟨Nat.zero_le _, Nat.zero_le _⟩ (Nat.le_of_ble_eq_true rfl) rfl rfl dX6_turn_14 ?_
    refine G.if_ne (tgt := 22) C dX6_turn_17 (by decide) hf (fun c14 hf => ?_) (fun c14 hf => ?_)
    · refine G.aload_n C 0 dX6_turn_22 rfl rfl ?_
      obtain ⟨h11, hh11, hf⟩ := bind_some hf
      try dsimp only at hf
      refine G.callV C (st := []) (st2 := []) (ct_X6_save hh11) (ko_X6_save hh11) rfl m9_167 m9_168 m9_169 m9_5 m9_170 kd_X6_save ⟨Nat.le_of_ble_eq_true rfl, Nat.le_of_ble_eq_true rfl⟩ ⟨Nat.zero_le _, Nat.zero_le _⟩ (Nat.le_of_ble_eq_true rfl) rfl rfl dX6_turn_23 ?_
      refine G.aload_n C 0 dX6_turn_26 rfl rfl ?_
      refine G.iload_n C 1 dX6_turn_27 rfl rfl ?_
      obtain ⟨v12, hv12, hf⟩ := bind_some hf
      try dsimp only at hf
      refine G.callV C (st := []) (st2 := [.int (v12)]) (ct_X6_unlikeTurned hv12) (ko_X6_unlikeTurned hv12) rfl m9_443 m9_444 m9_445 m9_5 m9_446 kd_X6_unlikeTurned ⟨Nat.le_of_ble_eq_true rfl, Nat.le_of_ble_eq_true rfl⟩ ⟨Nat.zero_le _, Nat.zero_le _⟩ (Nat.le_of_ble_eq_true rfl) rfl rfl dX6_turn_28 ?_
      refine G.istore_n (lv' := [(2, .int (v12)), (0, .ref (x0)), (1, .int (x1))]) C dX6_turn_31 rfl (by decide) rfl ?_
      refine G.aload_n C 1 dX6_turn_32 rfl rfl ?_
      refine G.iload_n C 2 dX6_turn_33 rfl rfl ?_
      obtain ⟨h13, hh13, hf⟩ := bind_some hf
      try dsimp only at hf
      refine G.callV C (st := []) (st2 := []) (ct_X6_turns hh13) (ko_X6_turns hh13) rfl m9_447 m9_448 m9_449 m9_5 m9_450 kd_X6_turns ⟨Nat.le_of_ble_eq_true rfl, Nat.le_of_ble_eq_true rfl⟩ ⟨Nat.zero_le _, Nat.zero_le _⟩ (Nat.le_of_ble_eq_true rfl) rfl rfl dX6_turn_34 ?_
      refine G.iload_n C 0 dX6_turn_37 rfl rfl ?_
      cases hf
      exact G.iret C rfl dX6_turn_38
    · refine G.iconst (v := 0) C dX6_turn_20 (by decide) ?_
      cases hf
      exact G.iret C rfl dX6_turn_21
  refine G.sub C [0, 1] (lv' := [(0, .ref (a0)), (1, .int (a1))]) rfl ?_
  refine G.aload_n C 0 dX6_turn_0 rfl rfl ?_
  refine G.aload_n C 0 dX6_turn_1 rfl rfl ?_
  refine G.iload_n C 1 dX6_turn_2 rfl rfl ?_
  obtain ⟨v1, hv1, hf⟩ := bind_some hf
  try dsimp only at hf
  refine G.callV C (st := [.ref (a0)]) (st2 := [.int (v1), .ref (a0)]) (ct_X6_isRope hv1) (ko_X6_isRope hv1) rfl m9_242 m9_243 m9_244 m9_5 m9_245 kd_X6_isRope ⟨Nat.le_of_ble_eq_true rfl, Nat.le_of_ble_eq_true rfl⟩ ⟨Nat.zero_le _, Nat.zero_le _⟩ (Nat.le_of_ble_eq_true rfl) rfl rfl dX6_turn_3 ?_
  refine G.if_eq (tgt := 13) C dX6_turn_6 (by decide) hf (fun c2 hf => ?_) (fun c2 hf => ?_)
  · refine G.iconst (v := 1) C dX6_turn_13 (by decide) ?_
    refine G.sub C [0, 1] (lv' := [(0, .ref (a0)), (1, .int (a1))]) rfl ?_
    exact hj14 _ _ _ _ hf
  · refine G.iconst (v := 0) C dX6_turn_9 (by decide) ?_
    refine G.goto (tgt := 14) C dX6_turn_10 (by decide) ?_
    refine G.sub C [0, 1] (lv' := [(0, .ref (a0)), (1, .int (a1))]) rfl ?_
    exact hj14 _ _ _ _ hf
theorem ko_X6_phaseBehind {h : PH} {a0 : Nat} {a1 : Int32} {a2 : Int32} {a3 : Int32} {r : Int32} (hf : f_X6_phaseBehind h a0 a1 a2 a3 = some r) : kO h a0 5 := by
  unfold f_X6_phaseBehind at hf
  exact okO_k (gd_ok hf).1
theorem kd_X6_phaseBehind : yX6_phaseBehind.cls = RX6 ∧ yX6_phaseBehind.cls ≠ "java/lang/invoke/MethodHandle" ∧ yX6_phaseBehind.cls ≠ "java/lang/invoke/VarHandle" ∧ (parseMethodDescriptor yX6_phaseBehind.desc).map (fun d => d.parameters.length) = some 3 := by decide +kernel
set_option maxRecDepth 20000 in
set_option maxHeartbeats 4000000 in
theorem ct_X6_phaseBehind {l : Launch} {h : PH} {a0 : Nat} {a1 : Int32} {a2 : Int32} {a3 : Int32} {r : Int32} (hf : f_X6_phaseBehind h a0 a1 a2 a3 = some r) : CT l yX6_phaseBehind cX6_phaseBehind 4 (some .int) 2 43 [.ref (a0), .int (a1), .int (a2), .int (a3)] h (some (.int r)) h := by
  refine CT.of (own := RX6) rfl (by decide) (Nat.le_of_ble_eq_true rfl) ?_
  intro p e R s m args below meth c g X hR C
  subst hR
  unfold f_X6_phaseBehind at hf
  obtain ⟨hok, hf⟩ := gd_ok hf
  refine G.sub C [0, 1, 2, 3] (lv' := [(0, .ref (a0)), (1, .int (a1)), (2, .int (a2)), (3, .int (a3))]) rfl ?_
  refine G.aload_n C 0 dX6_phaseBehind_0 rfl rfl ?_
  refine G.getR (ci := 5) (k := 1) C rfl inlX6 (by decide) m9_70 rfl hf dX6_phaseBehind_1 (fun v1 hv1 hf => ?_)
  try dsimp only at hf
  refine G.iload_n C 1 dX6_phaseBehind_4 rfl rfl ?_
  refine G.iconst (v := 0) C dX6_phaseBehind_5 (by decide) ?_
  obtain ⟨v2, hv2, hf⟩ := bind_some hf
  try dsimp only at hf
  refine G.callS C (st := [.ref (v1)]) (st2 := [.int (v2), .ref (v1)]) (ct_X6_of hv2) m9_159 m9_160 m9_5 m9_161 kd_X6_of ⟨Nat.le_of_ble_eq_true rfl, Nat.le_of_ble_eq_true rfl⟩ ⟨Nat.zero_le _, Nat.zero_le _⟩ (Nat.le_of_ble_eq_true rfl) rfl rfl dX6_phaseBehind_6 ?_
  refine G.iald C hf dX6_phaseBehind_9 (fun v3 hv3 hf => ?_)
  try dsimp only at hf
  refine G.aload_n C 0 dX6_phaseBehind_10 rfl rfl ?_
  refine G.iload_n C 2 dX6_phaseBehind_11 rfl rfl ?_
  refine G.iload_n C 3 dX6_phaseBehind_12 rfl rfl ?_
  obtain ⟨v4, hv4, hf⟩ := bind_some hf
  try dsimp only at hf
  refine G.callV C (st := [.int (v3)]) (st2 := [.int (v4), .int (v3)]) (ct_X6_phaseOf hv4) (ko_X6_phaseOf hv4) rfl m9_155 m9_156 m9_157 m9_5 m9_158 kd_X6_phaseOf ⟨Nat.le_of_ble_eq_true rfl, Nat.le_of_ble_eq_true rfl⟩ ⟨Nat.zero_le _, Nat.zero_le _⟩ (Nat.le_of_ble_eq_true rfl) rfl rfl dX6_phaseBehind_13 ?_
  refine G.iadd C dX6_phaseBehind_16 ?_
  refine G.aload_n C 0 dX6_phaseBehind_17 rfl rfl ?_
  refine G.getR (ci := 5) (k := 1) C rfl inlX6 (by decide) m9_70 rfl hf dX6_phaseBehind_18 (fun v5 hv5 hf => ?_)
  try dsimp only at hf
  refine G.iconst (v := 0) C dX6_phaseBehind_21 (by decide) ?_
  refine G.iload_n C 3 dX6_phaseBehind_22 rfl rfl ?_
  refine G.iadd C dX6_phaseBehind_23 ?_
  refine G.iald C hf dX6_phaseBehind_24 (fun v6 hv6 hf => ?_)
  try dsimp only at hf
  obtain ⟨c7, hf⟩ := gd_ok hf
  refine G.irem C dX6_phaseBehind_25 c7 ?_
  cases hf
  exact G.iret C rfl dX6_phaseBehind_26
theorem ko_X6_joinsWith {h : PH} {a0 : Nat} {a1 : Int32} {a2 : Int32} {r : PH} (hf : f_X6_joinsWith h a0 a1 a2 = some r) : kO h a0 5 := by
  unfold f_X6_joinsWith at hf
  exact okO_k (gd_ok hf).1
theorem kd_X6_joinsWith : yX6_joinsWith.cls = RX6 ∧ yX6_joinsWith.cls ≠ "java/lang/invoke/MethodHandle" ∧ yX6_joinsWith.cls ≠ "java/lang/invoke/VarHandle" ∧ (parseMethodDescriptor yX6_joinsWith.desc).map (fun d => d.parameters.length) = some 2 := by decide +kernel
set_option maxRecDepth 20000 in
set_option maxHeartbeats 4000000 in
theorem ct_X6_joinsWith {l : Launch} {h : PH} {a0 : Nat} {a1 : Int32} {a2 : Int32} {r : PH} (hf : f_X6_joinsWith h a0 a1 a2 = some r) : CT l yX6_joinsWith cX6_joinsWith 5 none 3 66 [.ref (a0), .int (a1), .int (a2)] h none r := by
  refine CT.of (own := RX6) rfl (by decide) (Nat.le_of_ble_eq_true rfl) ?_
  intro p e R s m args below meth c g X hR C
  subst hR
  unfold f_X6_joinsWith at hf
  obtain ⟨hok, hf⟩ := gd_ok hf
  have hj61 : ∀ (hh : PH) (x0 : Nat) (x1 : Int32) (x2 : Int32), f_X6_joinsWith_J61 hh (x0) (x1) (x2) = some r → G p l e ({ frames := 3, cells := 0, slots := 0, locals := 66 } : Room) s m args below meth c 5 g X h 0 0 (MQ below (QW g X h s.heap.size none r) args s 0 0 (AF X h s.heap.size)) 61 [(0, .ref (x0)), (1, .int (x1)), (2, .int (x2))] [] hh := by
    intro hh x0 x1 x2 hf
    unfold f_X6_joinsWith_J61 at hf
    refine G.aload_n C 0 dX6_joinsWith_61 rfl rfl ?_
    refine G.getR (ci := 5) (k := 1) C rfl inlX6 (by decide) m9_70 rfl hf dX6_joinsWith_62 (fun v18 hv18 hf => ?_)
    try dsimp only at hf
    refine G.iload_n C 1 dX6_joinsWith_65 rfl rfl ?_
    refine G.iconst (v := 0) C dX6_joinsWith_66 (by decide) ?_
    obtain ⟨v19, hv19, hf⟩ := bind_some hf
    try dsimp only at hf
    refine G.callS C (st := [.ref (v18)]) (st2 := [.int (v19), .ref (v18)]) (ct_X6_of hv19) m9_159 m9_160 m9_5 m9_161 kd_X6_of ⟨Nat.le_of_ble_eq_true rfl, Nat.le_of_ble_eq_true rfl⟩ ⟨Nat.zero_le _, Nat.zero_le _⟩ (Nat.le_of_ble_eq_true rfl) rfl rfl dX6_joinsWith_67 ?_
    refine G.dup2 C dX6_joinsWith_70 rfl rfl ?_
    refine G.iald C hf dX6_joinsWith_71 (fun v20 hv20 hf => ?_)
    try dsimp only at hf
    refine G.aload_n C 0 dX6_joinsWith_72 rfl rfl ?_
    refine G.getR (ci := 5) (k := 1) C rfl inlX6 (by decide) m9_70 rfl hf dX6_joinsWith_73 (fun v21 hv21 hf => ?_)
    try dsimp only at hf
    refine G.iload_n C 2 dX6_joinsWith_76 rfl rfl ?_
    refine G.iconst (v := 0) C dX6_joinsWith_77 (by decide) ?_
    obtain ⟨v22, hv22, hf⟩ := bind_some hf
    try dsimp only at hf
    refine G.callS C (st := [.ref (v21), .int (v20), .int (v19), .ref (v18)]) (st2 := [.int (v22), .ref (v21), .int (v20), .int (v19), .ref (v18)]) (ct_X6_of hv22) m9_159 m9_160 m9_5 m9_161 kd_X6_of ⟨Nat.le_of_ble_eq_true rfl, Nat.le_of_ble_eq_true rfl⟩ ⟨Nat.zero_le _, Nat.zero_le _⟩ (Nat.le_of_ble_eq_true rfl) rfl rfl dX6_joinsWith_78 ?_
    refine G.iald C hf dX6_joinsWith_81 (fun v23 hv23 hf => ?_)
    try dsimp only at hf
    refine G.iadd C dX6_joinsWith_82 ?_
    refine G.iast C hf dX6_joinsWith_83 (fun h24 hh24 hf => ?_)
    try dsimp only at hf
    cases hf
    exact G.vret C rfl dX6_joinsWith_84
  refine G.sub C [0, 1, 2] (lv' := [(0, .ref (a0)), (1, .int (a1)), (2, .int (a2))]) rfl ?_
  refine G.iconst (v := 0) C dX6_joinsWith_0 (by decide) ?_
  refine G.istore_n (lv' := [(3, .int ((0 : Int32))), (0, .ref (a0)), (1, .int (a1)), (2, .int (a2))]) C dX6_joinsWith_1 rfl (by decide) rfl ?_
  obtain ⟨z1, hlp1, hfo1⟩ := bind_some hf
  clear hf
  have hloop1 : ∀ (k : Nat), ∀ (x3 : Int32) (hh : PH), (lpn (f_X6_joinsWith_L2 (a0) (a1) (a2)) k (x3, hh)) = some z1 → G p l e ({ frames := 3, cells := 0, slots := 0, locals := 66 } : Room) s m args below meth c 5 g X h 0 0 (MQ below (QW g X h s.heap.size none r) args s 0 0 (AF X h s.heap.size)) 2 [(0, .ref (a0)), (1, .int (a1)), (2, .int (a2)), (3, .int (x3))] [] hh := by
    intro k
    induction k with
    | zero => intro x3 hh hlp1; exact (lpn_0 hlp1).elim
    | succ k ih1 =>
      intro x3 hh hlp1
      obtain ⟨y1, hf, hlp1⟩ := lpn_s hlp1
      unfold f_X6_joinsWith_L2 at hf
      try dsimp only at hf
      have hj55 : ∀ (hh : PH) (x3 : Int32), f_X6_joinsWith_J55 hh (a0) (a1) (a2) (x3) = some y1 → G p l e ({ frames := 3, cells := 0, slots := 0, locals := 66 } : Room) s m args below meth c 5 g X h 0 0 (MQ below (QW g X h s.heap.size none r) args s 0 0 (AF X h s.heap.size)) 55 [(0, .ref (a0)), (1, .int (a1)), (2, .int (a2)), (3, .int (x3))] [] hh := by
        intro hh x3 hf
        unfold f_X6_joinsWith_J55 at hf
        refine G.iinc (k := 3) (v := (x3 + 1)) (lv' := [(3, .int ((x3 + 1))), (0, .ref (a0)), (1, .int (a1)), (2, .int (a2))]) C dX6_joinsWith_55 rfl rfl (by decide) rfl ?_
        refine G.goto (tgt := 2) C dX6_joinsWith_58 (by decide) ?_
        cases hf
        refine G.sub C [1, 2, 3, 0] (lv' := [(0, .ref (a0)), (1, .int (a1)), (2, .int (a2)), (3, .int ((x3 + 1)))]) rfl ?_
        exact ih1 _ _ hlp1
      refine G.iload_n C 3 dX6_joinsWith_2 rfl rfl ?_
      refine G.aload_n C 0 dX6_joinsWith_3 rfl rfl ?_
      refine G.getR (ci := 5) (k := 1) C rfl inlX6 (by decide) m9_70 rfl hf dX6_joinsWith_4 (fun v2 hv2 hf => ?_)
      try dsimp only at hf
      refine G.iload_n C 2 dX6_joinsWith_7 rfl rfl ?_
      refine G.iconst (v := 1) C dX6_joinsWith_8 (by decide) ?_
      obtain ⟨v3, hv3, hf⟩ := bind_some hf
      try dsimp only at hf
      refine G.callS C (st := [.ref (v2), .int (x3)]) (st2 := [.int (v3), .ref (v2), .int (x3)]) (ct_X6_of hv3) m9_159 m9_160 m9_5 m9_161 kd_X6_of ⟨Nat.le_of_ble_eq_true rfl, Nat.le_of_ble_eq_true rfl⟩ ⟨Nat.zero_le _, Nat.zero_le _⟩ (Nat.le_of_ble_eq_true rfl) rfl rfl dX6_joinsWith_9 ?_
      refine G.iald C hf dX6_joinsWith_12 (fun v4 hv4 hf => ?_)
      try dsimp only at hf
      refine G.icmp_ge (tgt := 61) C dX6_joinsWith_13 (by decide) hf (fun c12 hf => ?_) (fun c12 hf => ?_)
      · cases hf
        change some _ = some _ at hlp1
        have hf := hfo1
        try rw [← Option.some.inj hlp1] at hf
        try dsimp only at hf
        refine G.sub C [0, 1, 2] (lv' := [(0, .ref (a0)), (1, .int (a1)), (2, .int (a2))]) rfl ?_
        exact hj61 _ _ _ _ hf
      · refine G.aload_n C 0 dX6_joinsWith_16 rfl rfl ?_
        refine G.getR (ci := 5) (k := 1) C rfl inlX6 (by decide) m9_70 rfl hf dX6_joinsWith_17 (fun v5 hv5 hf => ?_)
        try dsimp only at hf
        refine G.iload_n C 2 dX6_joinsWith_20 rfl rfl ?_
        refine G.iconst (v := 2) C dX6_joinsWith_21 (by decide) ?_
        refine G.iload_n C 3 dX6_joinsWith_22 rfl rfl ?_
        refine G.iadd C dX6_joinsWith_23 ?_
        obtain ⟨v6, hv6, hf⟩ := bind_some hf
        try dsimp only at hf
        refine G.callS C (st := [.ref (v5)]) (st2 := [.int (v6), .ref (v5)]) (ct_X6_of hv6) m9_159 m9_160 m9_5 m9_161 kd_X6_of ⟨Nat.le_of_ble_eq_true rfl, Nat.le_of_ble_eq_true rfl⟩ ⟨Nat.zero_le _, Nat.zero_le _⟩ (Nat.le_of_ble_eq_true rfl) rfl rfl dX6_joinsWith_24 ?_
        refine G.iald C hf dX6_joinsWith_27 (fun v7 hv7 hf => ?_)
        try dsimp only at hf
        refine G.istore (lv' := [(4, .int (v7)), (0, .ref (a0)), (1, .int (a1)), (2, .int (a2)), (3, .int (x3))]) C dX6_joinsWith_28 (by decide) rfl ?_
        refine G.aload_n C 1 dX6_joinsWith_30 rfl rfl ?_
        refine G.iload_n C 2 dX6_joinsWith_31 rfl rfl ?_
        refine G.iload C 0 dX6_joinsWith_32 rfl ?_
        obtain ⟨v8, hv8, hf⟩ := bind_some hf
        try dsimp only at hf
        refine G.callV C (st := []) (st2 := [.int (v8)]) (ct_X6_isLaid hv8) (ko_X6_isLaid hv8) rfl m9_151 m9_152 m9_153 m9_5 m9_154 kd_X6_isLaid ⟨Nat.le_of_ble_eq_true rfl, Nat.le_of_ble_eq_true rfl⟩ ⟨Nat.zero_le _, Nat.zero_le _⟩ (Nat.le_of_ble_eq_true rfl) rfl rfl dX6_joinsWith_34 ?_
        refine G.if_ne (tgt := 55) C dX6_joinsWith_37 (by decide) hf (fun c11 hf => ?_) (fun c11 hf => ?_)
        · refine G.sub C [1, 2, 3, 4] (lv' := [(0, .ref (a0)), (1, .int (a1)), (2, .int (a2)), (3, .int (x3))]) rfl ?_
          exact hj55 _ _ hf
        · refine G.aload_n C 1 dX6_joinsWith_40 rfl rfl ?_
          refine G.iload_n C 2 dX6_joinsWith_41 rfl rfl ?_
          refine G.iload C 0 dX6_joinsWith_42 rfl ?_
          refine G.aload_n C 1 dX6_joinsWith_44 rfl rfl ?_
          refine G.iload_n C 2 dX6_joinsWith_45 rfl rfl ?_
          refine G.iload_n C 3 dX6_joinsWith_46 rfl rfl ?_
          refine G.iload C 0 dX6_joinsWith_47 rfl ?_
          obtain ⟨v9, hv9, hf⟩ := bind_some hf
          try dsimp only at hf
          refine G.callV C (st := [.int (v7), .int (a1), .ref (a0)]) (st2 := [.int (v9), .int (v7), .int (a1), .ref (a0)]) (ct_X6_phaseBehind hv9) (ko_X6_phaseBehind hv9) rfl m9_486 m9_487 m9_488 m9_5 m9_489 kd_X6_phaseBehind ⟨Nat.le_of_ble_eq_true rfl, Nat.le_of_ble_eq_true rfl⟩ ⟨Nat.zero_le _, Nat.zero_le _⟩ (Nat.le_of_ble_eq_true rfl) rfl rfl dX6_joinsWith_49 ?_
          obtain ⟨h10, hh10, hf⟩ := bind_some hf
          try dsimp only at hf
          refine G.callV C (st := []) (st2 := []) (ct_X6_lays hh10) (ko_X6_lays hh10) rfl m9_307 m9_308 m9_309 m9_5 m9_310 kd_X6_lays ⟨Nat.le_of_ble_eq_true rfl, Nat.le_of_ble_eq_true rfl⟩ ⟨Nat.zero_le _, Nat.zero_le _⟩ (Nat.le_of_ble_eq_true rfl) rfl rfl dX6_joinsWith_52 ?_
          refine G.sub C [1, 2, 3, 4] (lv' := [(0, .ref (a0)), (1, .int (a1)), (2, .int (a2)), (3, .int (x3))]) rfl ?_
          exact hj55 _ _ hf
  refine G.sub C [1, 2, 3, 0] (lv' := [(0, .ref (a0)), (1, .int (a1)), (2, .int (a2)), (3, .int ((0 : Int32)))]) rfl ?_
  exact hloop1 LF _ _ hlp1
theorem ko_X6_whyNotJoined {h : PH} {a0 : Nat} {a1 : Int32} {a2 : Int32} {r : (Int32 × PH)} (hf : f_X6_whyNotJoined h a0 a1 a2 = some r) : kO h a0 5 := by
  unfold f_X6_whyNotJoined at hf
  exact okO_k (gd_ok hf).1
theorem kd_X6_whyNotJoined : yX6_whyNotJoined.cls = RX6 ∧ yX6_whyNotJoined.cls ≠ "java/lang/invoke/MethodHandle" ∧ yX6_whyNotJoined.cls ≠ "java/lang/invoke/VarHandle" ∧ (parseMethodDescriptor yX6_whyNotJoined.desc).map (fun d => d.parameters.length) = some 2 := by decide +kernel
set_option maxRecDepth 20000 in
set_option maxHeartbeats 4000000 in
theorem ct_X6_whyNotJoined {l : Launch} {h : PH} {a0 : Nat} {a1 : Int32} {a2 : Int32} {r : (Int32 × PH)} (hf : f_X6_whyNotJoined h a0 a1 a2 = some r) : CT l yX6_whyNotJoined cX6_whyNotJoined 6 (some .int) 5 113 [.ref (a0), .int (a1), .int (a2)] h (some (.int r.1)) r.2 := by
  refine CT.of (own := RX6) rfl (by decide) (Nat.le_of_ble_eq_true rfl) ?_
  intro p e R s m args below meth c g X hR C
  subst hR
  unfold f_X6_whyNotJoined at hf
  obtain ⟨hok, hf⟩ := gd_ok hf
  have hj43 : ∀ (k0 : Int32), f_X6_whyNotJoined_J43 h k0 = some r → G p l e ({ frames := 5, cells := 0, slots := 0, locals := 113 } : Room) s m args below meth c 6 g X h 0 0 (MQ below (QW g X h s.heap.size (some (.int r.1)) r.2) args s 0 0 (AF X h s.heap.size)) 43 [] [.int (k0)] h := by
    intro k0 hf
    unfold f_X6_whyNotJoined_J43 at hf
    cases hf
    exact G.iret C rfl dX6_whyNotJoined_43
  have hj33 : ∀ (x1 : Int32) (x2 : Int32), f_X6_whyNotJoined_J33 h (x1) (x2) = some r → G p l e ({ frames := 5, cells := 0, slots := 0, locals := 113 } : Room) s m args below meth c 6 g X h 0 0 (MQ below (QW g X h s.heap.size (some (.int r.1)) r.2) args s 0 0 (AF X h s.heap.size)) 33 [(1, .int (x1)), (2, .int (x2))] [] h := by
    intro x1 x2 hf
    unfold f_X6_whyNotJoined_J33 at hf
    refine G.iload_n C 0 dX6_whyNotJoined_33 rfl rfl ?_
    refine G.iload_n C 1 dX6_whyNotJoined_34 rfl rfl ?_
    refine G.icmp_ne (tgt := 42) C dX6_whyNotJoined_35 (by decide) hf (fun c16 hf => ?_) (fun c16 hf => ?_)
    · refine G.iconst (v := 2) C dX6_whyNotJoined_42 (by decide) ?_
      refine G.sub C [] (lv' := []) rfl ?_
      exact hj43 _ hf
    · refine G.iconst (v := 1) C dX6_whyNotJoined_38 (by decide) ?_
      refine G.goto (tgt := 43) C dX6_whyNotJoined_39 (by decide) ?_
      refine G.sub C [] (lv' := []) rfl ?_
      exact hj43 _ hf
  have hj160 : ∀ (hh : PH) (k0 : Int32), f_X6_whyNotJoined_J160 hh k0 = some r → G p l e ({ frames := 5, cells := 0, slots := 0, locals := 113 } : Room) s m args below meth c 6 g X h 0 0 (MQ below (QW g X h s.heap.size (some (.int r.1)) r.2) args s 0 0 (AF X h s.heap.size)) 160 [] [.int (k0)] hh := by
    intro hh k0 hf
    unfold f_X6_whyNotJoined_J160 at hf
    cases hf
    exact G.iret C rfl dX6_whyNotJoined_160
  have hj144 : ∀ (hh : PH) (x0 : Nat) (k0 : Int32), f_X6_whyNotJoined_J144 hh (x0) k0 = some r → G p l e ({ frames := 5, cells := 0, slots := 0, locals := 113 } : Room) s m args below meth c 6 g X h 0 0 (MQ below (QW g X h s.heap.size (some (.int r.1)) r.2) args s 0 0 (AF X h s.heap.size)) 144 [(0, .ref (x0))] [.int (k0)] hh := by
    intro hh x0 k0 hf
    unfold f_X6_whyNotJoined_J144 at hf
    refine G.istore (lv' := [(5, .int (k0)), (0, .ref (x0))]) C dX6_whyNotJoined_144 (by decide) rfl ?_
    refine G.aload_n C 1 dX6_whyNotJoined_146 rfl rfl ?_
    obtain ⟨h17, hh17, hf⟩ := bind_some hf
    try dsimp only at hf
    refine G.callV C (st := []) (st2 := []) (ct_X6_putBack hh17) (ko_X6_putBack hh17) rfl m9_498 m9_499 m9_500 m9_5 m9_501 kd_X6_putBack ⟨Nat.le_of_ble_eq_true rfl, Nat.le_of_ble_eq_true rfl⟩ ⟨Nat.zero_le _, Nat.zero_le _⟩ (Nat.le_of_ble_eq_true rfl) rfl rfl dX6_whyNotJoined_147 ?_
    refine G.iload C 0 dX6_whyNotJoined_150 rfl ?_
    refine G.if_eq (tgt := 159) C dX6_whyNotJoined_152 (by decide) hf (fun c18 hf => ?_) (fun c18 hf => ?_)
    · refine G.iconst (v := 0) C dX6_whyNotJoined_159 (by decide) ?_
      refine G.sub C [] (lv' := []) rfl ?_
      exact hj160 _ _ hf
    · refine G.iconst (v := 4) C dX6_whyNotJoined_155 (by decide) ?_
      refine G.goto (tgt := 160) C dX6_whyNotJoined_156 (by decide) ?_
      refine G.sub C [] (lv' := []) rfl ?_
      exact hj160 _ _ hf
  have hj113 : ∀ (x0 : Nat) (x1 : Int32) (x2 : Int32) (x3 : Int32) (x4 : Int32), f_X6_whyNotJoined_J113 h (x0) (x1) (x2) (x3) (x4) = some r → G p l e ({ frames := 5, cells := 0, slots := 0, locals := 113 } : Room) s m args below meth c 6 g X h 0 0 (MQ below (QW g X h s.heap.size (some (.int r.1)) r.2) args s 0 0 (AF X h s.heap.size)) 113 [(0, .ref (x0)), (1, .int (x1)), (2, .int (x2)), (3, .int (x3)), (4, .int (x4))] [] h := by
    intro x0 x1 x2 x3 x4 hf
    unfold f_X6_whyNotJoined_J113 at hf
    refine G.iload C 4 dX6_whyNotJoined_113 rfl ?_
    refine G.if_ne (tgt := 120) C dX6_whyNotJoined_115 (by decide) hf (fun c23 hf => ?_) (fun c23 hf => ?_)
    · refine G.aload_n C 0 dX6_whyNotJoined_120 rfl rfl ?_
      obtain ⟨h19, hh19, hf⟩ := bind_some hf
      try dsimp only at hf
      refine G.callV C (st := []) (st2 := []) (ct_X6_putAside hh19) (ko_X6_putAside hh19) rfl m9_490 m9_491 m9_492 m9_5 m9_493 kd_X6_putAside ⟨Nat.le_of_ble_eq_true rfl, Nat.le_of_ble_eq_true rfl⟩ ⟨Nat.zero_le _, Nat.zero_le _⟩ (Nat.le_of_ble_eq_true rfl) rfl rfl dX6_whyNotJoined_121 ?_
      refine G.aload_n C 0 dX6_whyNotJoined_124 rfl rfl ?_
      refine G.iload_n C 1 dX6_whyNotJoined_125 rfl rfl ?_
      refine G.iload_n C 2 dX6_whyNotJoined_126 rfl rfl ?_
      obtain ⟨h20, hh20, hf⟩ := bind_some hf
      try dsimp only at hf
      refine G.callV C (st := []) (st2 := []) (ct_X6_joinsWith hh20) (ko_X6_joinsWith hh20) rfl m9_494 m9_495 m9_496 m9_5 m9_497 kd_X6_joinsWith ⟨Nat.le_of_ble_eq_true rfl, Nat.le_of_ble_eq_true rfl⟩ ⟨Nat.zero_le _, Nat.zero_le _⟩ (Nat.le_of_ble_eq_true rfl) rfl rfl dX6_whyNotJoined_127 ?_
      refine G.aload_n C 0 dX6_whyNotJoined_130 rfl rfl ?_
      refine G.iload_n C 1 dX6_whyNotJoined_131 rfl rfl ?_
      obtain ⟨v21, hv21, hf⟩ := bind_some hf
      try dsimp only at hf
      refine G.callV C (st := []) (st2 := [.int (v21)]) (ct_X6_clash hv21) (ko_X6_clash hv21) rfl m9_389 m9_390 m9_391 m9_5 m9_392 kd_X6_clash ⟨Nat.le_of_ble_eq_true rfl, Nat.le_of_ble_eq_true rfl⟩ ⟨Nat.zero_le _, Nat.zero_le _⟩ (Nat.le_of_ble_eq_true rfl) rfl rfl dX6_whyNotJoined_132 ?_
      refine G.iload_n C 3 dX6_whyNotJoined_135 rfl rfl ?_
      refine G.icmp_ge (tgt := 143) C dX6_whyNotJoined_136 (by decide) hf (fun c22 hf => ?_) (fun c22 hf => ?_)
      · refine G.iconst (v := 0) C dX6_whyNotJoined_143 (by decide) ?_
        refine G.sub C [0] (lv' := [(0, .ref (x0))]) rfl ?_
        exact hj144 _ _ _ hf
      · refine G.iconst (v := 1) C dX6_whyNotJoined_139 (by decide) ?_
        refine G.goto (tgt := 144) C dX6_whyNotJoined_140 (by decide) ?_
        refine G.sub C [0] (lv' := [(0, .ref (x0))]) rfl ?_
        exact hj144 _ _ _ hf
    · refine G.iconst (v := 3) C dX6_whyNotJoined_118 (by decide) ?_
      cases hf
      exact G.iret C rfl dX6_whyNotJoined_119
  refine G.sub C [0, 1, 2] (lv' := [(0, .ref (a0)), (1, .int (a1)), (2, .int (a2))]) rfl ?_
  refine G.aload_n C 0 dX6_whyNotJoined_0 rfl rfl ?_
  refine G.getR (ci := 5) (k := 1) C rfl inlX6 (by decide) m9_70 rfl hf dX6_whyNotJoined_1 (fun v1 hv1 hf => ?_)
  try dsimp only at hf
  refine G.iload_n C 1 dX6_whyNotJoined_4 rfl rfl ?_
  refine G.iconst (v := 0) C dX6_whyNotJoined_5 (by decide) ?_
  obtain ⟨v2, hv2, hf⟩ := bind_some hf
  try dsimp only at hf
  refine G.callS C (st := [.ref (v1)]) (st2 := [.int (v2), .ref (v1)]) (ct_X6_of hv2) m9_159 m9_160 m9_5 m9_161 kd_X6_of ⟨Nat.le_of_ble_eq_true rfl, Nat.le_of_ble_eq_true rfl⟩ ⟨Nat.zero_le _, Nat.zero_le _⟩ (Nat.le_of_ble_eq_true rfl) rfl rfl dX6_whyNotJoined_6 ?_
  refine G.iald C hf dX6_whyNotJoined_9 (fun v3 hv3 hf => ?_)
  try dsimp only at hf
  refine G.aload_n C 0 dX6_whyNotJoined_10 rfl rfl ?_
  refine G.getR (ci := 5) (k := 1) C rfl inlX6 (by decide) m9_70 rfl hf dX6_whyNotJoined_11 (fun v4 hv4 hf => ?_)
  try dsimp only at hf
  refine G.iload_n C 2 dX6_whyNotJoined_14 rfl rfl ?_
  refine G.iconst (v := 0) C dX6_whyNotJoined_15 (by decide) ?_
  obtain ⟨v5, hv5, hf⟩ := bind_some hf
  try dsimp only at hf
  refine G.callS C (st := [.ref (v4), .int (v3)]) (st2 := [.int (v5), .ref (v4), .int (v3)]) (ct_X6_of hv5) m9_159 m9_160 m9_5 m9_161 kd_X6_of ⟨Nat.le_of_ble_eq_true rfl, Nat.le_of_ble_eq_true rfl⟩ ⟨Nat.zero_le _, Nat.zero_le _⟩ (Nat.le_of_ble_eq_true rfl) rfl rfl dX6_whyNotJoined_16 ?_
  refine G.iald C hf dX6_whyNotJoined_19 (fun v6 hv6 hf => ?_)
  try dsimp only at hf
  refine G.iadd C dX6_whyNotJoined_20 ?_
  refine G.istore_n (lv' := [(3, .int ((v3 + v6))), (0, .ref (a0)), (1, .int (a1)), (2, .int (a2))]) C dX6_whyNotJoined_21 rfl (by decide) rfl ?_
  refine G.iload_n C 2 dX6_whyNotJoined_22 rfl rfl ?_
  refine G.iload_n C 3 dX6_whyNotJoined_23 rfl rfl ?_
  refine G.icmp_eq (tgt := 33) C dX6_whyNotJoined_24 (by decide) hf (fun c18 hf => ?_) (fun c18 hf => ?_)
  · refine G.sub C [2, 3] (lv' := [(1, .int (a1)), (2, .int (a2))]) rfl ?_
    exact hj33 _ _ hf
  · refine G.iload_n C 0 dX6_whyNotJoined_27 rfl rfl ?_
    refine G.bipush (v := 60) C dX6_whyNotJoined_28 (by decide) ?_
    refine G.icmp_le (tgt := 44) C dX6_whyNotJoined_30 (by decide) hf (fun c17 hf => ?_) (fun c17 hf => ?_)
    · refine G.iconst (v := 1) C dX6_whyNotJoined_44 (by decide) ?_
      refine G.istore (lv' := [(4, .int ((1 : Int32))), (3, .int ((v3 + v6))), (0, .ref (a0)), (1, .int (a1)), (2, .int (a2))]) C dX6_whyNotJoined_45 (by decide) rfl ?_
      refine G.iconst (v := 0) C dX6_whyNotJoined_47 (by decide) ?_
      refine G.istore (lv' := [(5, .int ((0 : Int32))), (4, .int ((1 : Int32))), (3, .int ((v3 + v6))), (0, .ref (a0)), (1, .int (a1)), (2, .int (a2))]) C dX6_whyNotJoined_48 (by decide) rfl ?_
      obtain ⟨z7, hlp7, hfo7⟩ := bind_some hf
      clear hf
      have hloop7 : ∀ (k : Nat), ∀ (x4 : Int32) (x5 : Int32), (lpn (f_X6_whyNotJoined_L50 (h) (a0) (a1) (a2) ((v3 + v6))) k (x4, x5)) = some z7 → G p l e ({ frames := 5, cells := 0, slots := 0, locals := 113 } : Room) s m args below meth c 6 g X h 0 0 (MQ below (QW g X h s.heap.size (some (.int r.1)) r.2) args s 0 0 (AF X h s.heap.size)) 50 [(0, .ref (a0)), (1, .int (a1)), (2, .int (a2)), (3, .int ((v3 + v6))), (4, .int (x4)), (5, .int (x5))] [] h := by
        intro k
        induction k with
        | zero => intro x4 x5 hlp7; exact (lpn_0 hlp7).elim
        | succ k ih7 =>
          intro x4 x5 hlp7
          obtain ⟨y7, hf, hlp7⟩ := lpn_s hlp7
          unfold f_X6_whyNotJoined_L50 at hf
          try dsimp only at hf
          have hj105 : ∀ (x5 : Int32) (k0 : Int32), f_X6_whyNotJoined_J105 h (a0) (a1) (a2) ((v3 + v6)) (x5) k0 = some y7 → G p l e ({ frames := 5, cells := 0, slots := 0, locals := 113 } : Room) s m args below meth c 6 g X h 0 0 (MQ below (QW g X h s.heap.size (some (.int r.1)) r.2) args s 0 0 (AF X h s.heap.size)) 105 [(0, .ref (a0)), (1, .int (a1)), (2, .int (a2)), (3, .int ((v3 + v6))), (5, .int (x5))] [.int (k0)] h := by
            intro x5 k0 hf
            unfold f_X6_whyNotJoined_J105 at hf
            refine G.istore (lv' := [(4, .int (k0)), (0, .ref (a0)), (1, .int (a1)), (2, .int (a2)), (3, .int ((v3 + v6))), (5, .int (x5))]) C dX6_whyNotJoined_105 (by decide) rfl ?_
            refine G.iinc (k := 5) (v := (x5 + 1)) (lv' := [(5, .int ((x5 + 1))), (4, .int (k0)), (0, .ref (a0)), (1, .int (a1)), (2, .int (a2)), (3, .int ((v3 + v6)))]) C dX6_whyNotJoined_107 rfl rfl (by decide) rfl ?_
            refine G.goto (tgt := 50) C dX6_whyNotJoined_110 (by decide) ?_
            cases hf
            refine G.sub C [2, 3, 4, 5, 1, 0] (lv' := [(0, .ref (a0)), (1, .int (a1)), (2, .int (a2)), (3, .int ((v3 + v6))), (4, .int (k0)), (5, .int ((x5 + 1)))]) rfl ?_
            exact ih7 _ _ hlp7
          have hj100 : ∀ (x5 : Int32), f_X6_whyNotJoined_J100 h (a0) (a1) (a2) ((v3 + v6)) (x5) = some y7 → G p l e ({ frames := 5, cells := 0, slots := 0, locals := 113 } : Room) s m args below meth c 6 g X h 0 0 (MQ below (QW g X h s.heap.size (some (.int r.1)) r.2) args s 0 0 (AF X h s.heap.size)) 100 [(0, .ref (a0)), (1, .int (a1)), (2, .int (a2)), (3, .int ((v3 + v6))), (5, .int (x5))] [] h := by
            intro x5 hf
            unfold f_X6_whyNotJoined_J100 at hf
            refine G.iconst (v := 1) C dX6_whyNotJoined_100 (by decide) ?_
            refine G.goto (tgt := 105) C dX6_whyNotJoined_101 (by decide) ?_
            refine G.sub C [0, 1, 2, 3, 4] (lv' := [(0, .ref (a0)), (1, .int (a1)), (2, .int (a2)), (3, .int ((v3 + v6))), (5, .int (x5))]) rfl ?_
            exact hj105 _ _ hf
          have hj104 : ∀ (x5 : Int32), f_X6_whyNotJoined_J104 h (a0) (a1) (a2) ((v3 + v6)) (x5) = some y7 → G p l e ({ frames := 5, cells := 0, slots := 0, locals := 113 } : Room) s m args below meth c 6 g X h 0 0 (MQ below (QW g X h s.heap.size (some (.int r.1)) r.2) args s 0 0 (AF X h s.heap.size)) 104 [(0, .ref (a0)), (1, .int (a1)), (2, .int (a2)), (3, .int ((v3 + v6))), (5, .int (x5))] [] h := by
            intro x5 hf
            unfold f_X6_whyNotJoined_J104 at hf
            refine G.iconst (v := 0) C dX6_whyNotJoined_104 (by decide) ?_
            refine G.sub C [0, 1, 2, 3, 4] (lv' := [(0, .ref (a0)), (1, .int (a1)), (2, .int (a2)), (3, .int ((v3 + v6))), (5, .int (x5))]) rfl ?_
            exact hj105 _ _ hf
          refine G.iload C 5 dX6_whyNotJoined_50 rfl ?_
          refine G.bipush (v := 8) C dX6_whyNotJoined_52 (by decide) ?_
          refine G.icmp_ge (tgt := 113) C dX6_whyNotJoined_54 (by decide) hf (fun c16 hf => ?_) (fun c16 hf => ?_)
          · cases hf
            change some _ = some _ at hlp7
            have hf := hfo7
            try rw [← Option.some.inj hlp7] at hf
            try dsimp only at hf
            refine G.sub C [0, 1, 2, 3, 4] (lv' := [(0, .ref (a0)), (1, .int (a1)), (2, .int (a2)), (3, .int ((v3 + v6))), (4, .int (x4))]) rfl ?_
            exact hj113 _ _ _ _ _ hf
          · refine G.iload C 4 dX6_whyNotJoined_57 rfl ?_
            refine G.if_eq (tgt := 104) C dX6_whyNotJoined_59 (by decide) hf (fun c15 hf => ?_) (fun c15 hf => ?_)
            · refine G.sub C [0, 1, 2, 3, 5] (lv' := [(0, .ref (a0)), (1, .int (a1)), (2, .int (a2)), (3, .int ((v3 + v6))), (5, .int (x5))]) rfl ?_
              exact hj104 _ hf
            · refine G.aload_n C 0 dX6_whyNotJoined_62 rfl rfl ?_
              refine G.iload_n C 1 dX6_whyNotJoined_63 rfl rfl ?_
              refine G.iload C 5 dX6_whyNotJoined_64 rfl ?_
              obtain ⟨v8, hv8, hf⟩ := bind_some hf
              try dsimp only at hf
              refine G.callV C (st := []) (st2 := [.int (v8)]) (ct_X6_isLaid hv8) (ko_X6_isLaid hv8) rfl m9_151 m9_152 m9_153 m9_5 m9_154 kd_X6_isLaid ⟨Nat.le_of_ble_eq_true rfl, Nat.le_of_ble_eq_true rfl⟩ ⟨Nat.zero_le _, Nat.zero_le _⟩ (Nat.le_of_ble_eq_true rfl) rfl rfl dX6_whyNotJoined_66 ?_
              refine G.if_eq (tgt := 100) C dX6_whyNotJoined_69 (by decide) hf (fun c14 hf => ?_) (fun c14 hf => ?_)
              · refine G.sub C [0, 1, 2, 3, 5] (lv' := [(0, .ref (a0)), (1, .int (a1)), (2, .int (a2)), (3, .int ((v3 + v6))), (5, .int (x5))]) rfl ?_
                exact hj100 _ hf
              · refine G.aload_n C 0 dX6_whyNotJoined_72 rfl rfl ?_
                refine G.iload_n C 2 dX6_whyNotJoined_73 rfl rfl ?_
                refine G.iload C 5 dX6_whyNotJoined_74 rfl ?_
                obtain ⟨v9, hv9, hf⟩ := bind_some hf
                try dsimp only at hf
                refine G.callV C (st := []) (st2 := [.int (v9)]) (ct_X6_isLaid hv9) (ko_X6_isLaid hv9) rfl m9_151 m9_152 m9_153 m9_5 m9_154 kd_X6_isLaid ⟨Nat.le_of_ble_eq_true rfl, Nat.le_of_ble_eq_true rfl⟩ ⟨Nat.zero_le _, Nat.zero_le _⟩ (Nat.le_of_ble_eq_true rfl) rfl rfl dX6_whyNotJoined_76 ?_
                refine G.if_eq (tgt := 100) C dX6_whyNotJoined_79 (by decide) hf (fun c13 hf => ?_) (fun c13 hf => ?_)
                · refine G.sub C [0, 1, 2, 3, 5] (lv' := [(0, .ref (a0)), (1, .int (a1)), (2, .int (a2)), (3, .int ((v3 + v6))), (5, .int (x5))]) rfl ?_
                  exact hj100 _ hf
                · refine G.aload_n C 0 dX6_whyNotJoined_82 rfl rfl ?_
                  refine G.iload_n C 1 dX6_whyNotJoined_83 rfl rfl ?_
                  refine G.iload C 5 dX6_whyNotJoined_84 rfl ?_
                  obtain ⟨v10, hv10, hf⟩ := bind_some hf
                  try dsimp only at hf
                  refine G.callV C (st := []) (st2 := [.int (v10)]) (ct_X6_phaseOf hv10) (ko_X6_phaseOf hv10) rfl m9_155 m9_156 m9_157 m9_5 m9_158 kd_X6_phaseOf ⟨Nat.le_of_ble_eq_true rfl, Nat.le_of_ble_eq_true rfl⟩ ⟨Nat.zero_le _, Nat.zero_le _⟩ (Nat.le_of_ble_eq_true rfl) rfl rfl dX6_whyNotJoined_86 ?_
                  refine G.aload_n C 0 dX6_whyNotJoined_89 rfl rfl ?_
                  refine G.iload_n C 1 dX6_whyNotJoined_90 rfl rfl ?_
                  refine G.iload_n C 2 dX6_whyNotJoined_91 rfl rfl ?_
                  refine G.iload C 5 dX6_whyNotJoined_92 rfl ?_
                  obtain ⟨v11, hv11, hf⟩ := bind_some hf
                  try dsimp only at hf
                  refine G.callV C (st := [.int (v10)]) (st2 := [.int (v11), .int (v10)]) (ct_X6_phaseBehind hv11) (ko_X6_phaseBehind hv11) rfl m9_486 m9_487 m9_488 m9_5 m9_489 kd_X6_phaseBehind ⟨Nat.le_of_ble_eq_true rfl, Nat.le_of_ble_eq_true rfl⟩ ⟨Nat.zero_le _, Nat.zero_le _⟩ (Nat.le_of_ble_eq_true rfl) rfl rfl dX6_whyNotJoined_94 ?_
                  refine G.icmp_ne (tgt := 104) C dX6_whyNotJoined_97 (by decide) hf (fun c12 hf => ?_) (fun c12 hf => ?_)
                  · refine G.sub C [0, 1, 2, 3, 5] (lv' := [(0, .ref (a0)), (1, .int (a1)), (2, .int (a2)), (3, .int ((v3 + v6))), (5, .int (x5))]) rfl ?_
                    exact hj104 _ hf
                  · refine G.sub C [0, 1, 2, 3, 5] (lv' := [(0, .ref (a0)), (1, .int (a1)), (2, .int (a2)), (3, .int ((v3 + v6))), (5, .int (x5))]) rfl ?_
                    exact hj100 _ hf
      refine G.sub C [3, 4, 5, 2, 1, 0] (lv' := [(0, .ref (a0)), (1, .int (a1)), (2, .int (a2)), (3, .int ((v3 + v6))), (4, .int ((1 : Int32))), (5, .int ((0 : Int32)))]) rfl ?_
      exact hloop7 LF _ _ hlp7
    · refine G.sub C [2, 3] (lv' := [(1, .int (a1)), (2, .int (a2))]) rfl ?_
      exact hj33 _ _ hf
theorem ko_X6_join {h : PH} {a0 : Nat} {a1 : Int32} {a2 : Int32} {r : (Int32 × PH)} (hf : f_X6_join h a0 a1 a2 = some r) : kO h a0 5 := by
  unfold f_X6_join at hf
  exact okO_k (gd_ok hf).1
theorem kd_X6_join : yX6_join.cls = RX6 ∧ yX6_join.cls ≠ "java/lang/invoke/MethodHandle" ∧ yX6_join.cls ≠ "java/lang/invoke/VarHandle" ∧ (parseMethodDescriptor yX6_join.desc).map (fun d => d.parameters.length) = some 2 := by decide +kernel
set_option maxRecDepth 20000 in
set_option maxHeartbeats 4000000 in
theorem ct_X6_join {l : Launch} {h : PH} {a0 : Nat} {a1 : Int32} {a2 : Int32} {r : (Int32 × PH)} (hf : f_X6_join h a0 a1 a2 = some r) : CT l yX6_join cX6_join 4 (some .int) 6 138 [.ref (a0), .int (a1), .int (a2)] h (some (.int r.1)) r.2 := by
  refine CT.of (own := RX6) rfl (by decide) (Nat.le_of_ble_eq_true rfl) ?_
  intro p e R s m args below meth c g X hR C
  subst hR
  unfold f_X6_join at hf
  obtain ⟨hok, hf⟩ := gd_ok hf
  have hj35 : ∀ (hh : PH) (x0 : Nat) (x1 : Int32) (x2 : Int32) (k0 : Nat) (k1 : Int32), f_X6_join_J35 hh (x0) (x1) (x2) k0 k1 = some r → G p l e ({ frames := 6, cells := 0, slots := 0, locals := 138 } : Room) s m args below meth c 4 g X h 0 0 (MQ below (QW g X h s.heap.size (some (.int r.1)) r.2) args s 0 0 (AF X h s.heap.size)) 35 [(0, .ref (x0)), (1, .int (x1)), (2, .int (x2))] [.int (k1), .ref (k0)] hh := by
    intro hh x0 x1 x2 k0 k1 hf
    unfold f_X6_join_J35 at hf
    obtain ⟨⟨v18, h19⟩, hv18, hf⟩ := bind_some hf
    try dsimp only at hf
    refine G.callV C (st := []) (st2 := [.int (v18)]) (ct_X6_holds hv18) (ko_X6_holds hv18) rfl m9_162 m9_163 m9_164 m9_5 m9_165 kd_X6_holds ⟨Nat.le_of_ble_eq_true rfl, Nat.le_of_ble_eq_true rfl⟩ ⟨Nat.zero_le _, Nat.zero_le _⟩ (Nat.le_of_ble_eq_true rfl) rfl rfl dX6_join_35 ?_
    refine G.if_ne (tgt := 43) C dX6_join_38 (by decide) hf (fun c30 hf => ?_) (fun c30 hf => ?_)
    · refine G.aload_n C 0 dX6_join_43 rfl rfl ?_
      obtain ⟨h21, hh21, hf⟩ := bind_some hf
      try dsimp only at hf
      refine G.callV C (st := []) (st2 := []) (ct_X6_save hh21) (ko_X6_save hh21) rfl m9_167 m9_168 m9_169 m9_5 m9_170 kd_X6_save ⟨Nat.le_of_ble_eq_true rfl, Nat.le_of_ble_eq_true rfl⟩ ⟨Nat.zero_le _, Nat.zero_le _⟩ (Nat.le_of_ble_eq_true rfl) rfl rfl dX6_join_44 ?_
      refine G.aload_n C 0 dX6_join_47 rfl rfl ?_
      refine G.iload_n C 1 dX6_join_48 rfl rfl ?_
      refine G.iload_n C 2 dX6_join_49 rfl rfl ?_
      obtain ⟨h22, hh22, hf⟩ := bind_some hf
      try dsimp only at hf
      refine G.callV C (st := []) (st2 := []) (ct_X6_joinsWith hh22) (ko_X6_joinsWith hh22) rfl m9_494 m9_495 m9_496 m9_5 m9_497 kd_X6_joinsWith ⟨Nat.le_of_ble_eq_true rfl, Nat.le_of_ble_eq_true rfl⟩ ⟨Nat.zero_le _, Nat.zero_le _⟩ (Nat.le_of_ble_eq_true rfl) rfl rfl dX6_join_50 ?_
      refine G.aload_n C 0 dX6_join_53 rfl rfl ?_
      refine G.getR (ci := 5) (k := 1) C rfl inlX6 (by decide) m9_70 rfl hf dX6_join_54 (fun v23 hv23 hf => ?_)
      try dsimp only at hf
      refine G.iload_n C 1 dX6_join_57 rfl rfl ?_
      refine G.iconst (v := 0) C dX6_join_58 (by decide) ?_
      obtain ⟨v24, hv24, hf⟩ := bind_some hf
      try dsimp only at hf
      refine G.callS C (st := [.ref (v23)]) (st2 := [.int (v24), .ref (v23)]) (ct_X6_of hv24) m9_159 m9_160 m9_5 m9_161 kd_X6_of ⟨Nat.le_of_ble_eq_true rfl, Nat.le_of_ble_eq_true rfl⟩ ⟨Nat.zero_le _, Nat.zero_le _⟩ (Nat.le_of_ble_eq_true rfl) rfl rfl dX6_join_59 ?_
      refine G.iald C hf dX6_join_62 (fun v25 hv25 hf => ?_)
      try dsimp only at hf
      refine G.istore_n (lv' := [(3, .int (v25)), (0, .ref (x0)), (1, .int (x1)), (2, .int (x2))]) C dX6_join_63 rfl (by decide) rfl ?_
      refine G.aload_n C 1 dX6_join_64 rfl rfl ?_
      refine G.iload_n C 3 dX6_join_65 rfl rfl ?_
      obtain ⟨h26, hh26, hf⟩ := bind_some hf
      try dsimp only at hf
      refine G.callV C (st := []) (st2 := []) (ct_X6_drops hh26) (ko_X6_drops hh26) rfl m9_246 m9_247 m9_248 m9_5 m9_249 kd_X6_drops ⟨Nat.le_of_ble_eq_true rfl, Nat.le_of_ble_eq_true rfl⟩ ⟨Nat.zero_le _, Nat.zero_le _⟩ (Nat.le_of_ble_eq_true rfl) rfl rfl dX6_join_66 ?_
      refine G.aload_n C 1 dX6_join_69 rfl rfl ?_
      refine G.getR (ci := 5) (k := 1) C rfl inlX6 (by decide) m9_70 rfl hf dX6_join_70 (fun v27 hv27 hf => ?_)
      try dsimp only at hf
      refine G.bipush (v := 10) C dX6_join_73 (by decide) ?_
      refine G.dup2 C dX6_join_75 rfl rfl ?_
      refine G.iald C hf dX6_join_76 (fun v28 hv28 hf => ?_)
      try dsimp only at hf
      refine G.iconst (v := 1) C dX6_join_77 (by decide) ?_
      refine G.iadd C dX6_join_78 ?_
      refine G.iast C hf dX6_join_79 (fun h29 hh29 hf => ?_)
      try dsimp only at hf
      refine G.iload_n C 0 dX6_join_80 rfl rfl ?_
      cases hf
      exact G.iret C rfl dX6_join_81
    · refine G.iconst (v := 0) C dX6_join_41 (by decide) ?_
      cases hf
      exact G.iret C rfl dX6_join_42
  have hj17 : ∀ (x0 : Nat) (x1 : Int32) (x2 : Int32) (k0 : Nat), f_X6_join_J17 h (x0) (x1) (x2) k0 = some r → G p l e ({ frames := 6, cells := 0, slots := 0, locals := 138 } : Room) s m args below meth c 4 g X h 0 0 (MQ below (QW g X h s.heap.size (some (.int r.1)) r.2) args s 0 0 (AF X h s.heap.size)) 17 [(0, .ref (x0)), (1, .int (x1)), (2, .int (x2))] [.ref (k0)] h := by
    intro x0 x1 x2 k0 hf
    unfold f_X6_join_J17 at hf
    refine G.iconst (v := 1) C dX6_join_17 (by decide) ?_
    refine G.goto (tgt := 35) C dX6_join_18 (by decide) ?_
    refine G.sub C [0, 1, 2] (lv' := [(0, .ref (x0)), (1, .int (x1)), (2, .int (x2))]) rfl ?_
    exact hj35 _ _ _ _ _ _ hf
  refine G.sub C [0, 1, 2] (lv' := [(0, .ref (a0)), (1, .int (a1)), (2, .int (a2))]) rfl ?_
  refine G.aload_n C 0 dX6_join_0 rfl rfl ?_
  refine G.aload_n C 0 dX6_join_1 rfl rfl ?_
  refine G.iload_n C 1 dX6_join_2 rfl rfl ?_
  obtain ⟨v1, hv1, hf⟩ := bind_some hf
  try dsimp only at hf
  refine G.callV C (st := [.ref (a0)]) (st2 := [.int (v1), .ref (a0)]) (ct_X6_isRope hv1) (ko_X6_isRope hv1) rfl m9_242 m9_243 m9_244 m9_5 m9_245 kd_X6_isRope ⟨Nat.le_of_ble_eq_true rfl, Nat.le_of_ble_eq_true rfl⟩ ⟨Nat.zero_le _, Nat.zero_le _⟩ (Nat.le_of_ble_eq_true rfl) rfl rfl dX6_join_3 ?_
  refine G.if_eq (tgt := 17) C dX6_join_6 (by decide) hf (fun c8 hf => ?_) (fun c8 hf => ?_)
  · refine G.sub C [0, 1, 2] (lv' := [(0, .ref (a0)), (1, .int (a1)), (2, .int (a2))]) rfl ?_
    exact hj17 _ _ _ _ hf
  · refine G.aload_n C 0 dX6_join_9 rfl rfl ?_
    refine G.iload_n C 2 dX6_join_10 rfl rfl ?_
    obtain ⟨v2, hv2, hf⟩ := bind_some hf
    try dsimp only at hf
    refine G.callV C (st := [.ref (a0)]) (st2 := [.int (v2), .ref (a0)]) (ct_X6_isRope hv2) (ko_X6_isRope hv2) rfl m9_242 m9_243 m9_244 m9_5 m9_245 kd_X6_isRope ⟨Nat.le_of_ble_eq_true rfl, Nat.le_of_ble_eq_true rfl⟩ ⟨Nat.zero_le _, Nat.zero_le _⟩ (Nat.le_of_ble_eq_true rfl) rfl rfl dX6_join_11 ?_
    refine G.if_ne (tgt := 21) C dX6_join_14 (by decide) hf (fun c7 hf => ?_) (fun c7 hf => ?_)
    · refine G.aload_n C 0 dX6_join_21 rfl rfl ?_
      refine G.iload_n C 1 dX6_join_22 rfl rfl ?_
      refine G.iload_n C 2 dX6_join_23 rfl rfl ?_
      obtain ⟨⟨v3, h4⟩, hv3, hf⟩ := bind_some hf
      try dsimp only at hf
      refine G.callV C (st := [.ref (a0)]) (st2 := [.int (v3), .ref (a0)]) (ct_X6_whyNotJoined hv3) (ko_X6_whyNotJoined hv3) rfl m9_482 m9_483 m9_484 m9_5 m9_485 kd_X6_whyNotJoined ⟨Nat.le_of_ble_eq_true rfl, Nat.le_of_ble_eq_true rfl⟩ ⟨Nat.zero_le _, Nat.zero_le _⟩ (Nat.le_of_ble_eq_true rfl) rfl rfl dX6_join_24 ?_
      refine G.if_le (tgt := 34) C dX6_join_27 (by decide) hf (fun c6 hf => ?_) (fun c6 hf => ?_)
      · refine G.iconst (v := 0) C dX6_join_34 (by decide) ?_
        refine G.sub C [0, 1, 2] (lv' := [(0, .ref (a0)), (1, .int (a1)), (2, .int (a2))]) rfl ?_
        exact hj35 _ _ _ _ _ _ hf
      · refine G.iconst (v := 2) C dX6_join_30 (by decide) ?_
        refine G.goto (tgt := 35) C dX6_join_31 (by decide) ?_
        refine G.sub C [0, 1, 2] (lv' := [(0, .ref (a0)), (1, .int (a1)), (2, .int (a2))]) rfl ?_
        exact hj35 _ _ _ _ _ _ hf
    · refine G.sub C [0, 1, 2] (lv' := [(0, .ref (a0)), (1, .int (a1)), (2, .int (a2))]) rfl ?_
      exact hj17 _ _ _ _ hf
theorem ko_X6_append {h : PH} {a0 : Nat} {a1 : Int32} {r : (Int32 × PH)} (hf : f_X6_append h a0 a1 = some r) : kO h a0 5 := by
  unfold f_X6_append at hf
  exact okO_k (gd_ok hf).1
theorem kd_X6_append : yX6_append.cls = RX6 ∧ yX6_append.cls ≠ "java/lang/invoke/MethodHandle" ∧ yX6_append.cls ≠ "java/lang/invoke/VarHandle" ∧ (parseMethodDescriptor yX6_append.desc).map (fun d => d.parameters.length) = some 1 := by decide +kernel
set_option maxRecDepth 20000 in
set_option maxHeartbeats 4000000 in
theorem ct_X6_append {l : Launch} {h : PH} {a0 : Nat} {a1 : Int32} {r : (Int32 × PH)} (hf : f_X6_append h a0 a1 = some r) : CT l yX6_append cX6_append 2 (some .int) 1 22 [.ref (a0), .int (a1)] h (some (.int r.1)) r.2 := by
  refine CT.of (own := RX6) rfl (by decide) (Nat.le_of_ble_eq_true rfl) ?_
  intro p e R s m args below meth c g X hR C
  subst hR
  unfold f_X6_append at hf
  obtain ⟨hok, hf⟩ := gd_ok hf
  have hj30 : ∀ (x0 : Nat) (x1 : Int32) (k0 : Nat) (k1 : Int32), f_X6_append_J30 h (x0) (x1) k0 k1 = some r → G p l e ({ frames := 1, cells := 0, slots := 0, locals := 22 } : Room) s m args below meth c 2 g X h 0 0 (MQ below (QW g X h s.heap.size (some (.int r.1)) r.2) args s 0 0 (AF X h s.heap.size)) 30 [(0, .ref (x0)), (1, .int (x1))] [.int (k1), .ref (k0)] h := by
    intro x0 x1 k0 k1 hf
    unfold f_X6_append_J30 at hf
    obtain ⟨⟨v12, h13⟩, hv12, hf⟩ := bind_some hf
    try dsimp only at hf
    refine G.callV C (st := []) (st2 := [.int (v12)]) (ct_X6_holds hv12) (ko_X6_holds hv12) rfl m9_162 m9_163 m9_164 m9_5 m9_165 kd_X6_holds ⟨Nat.le_of_ble_eq_true rfl, Nat.le_of_ble_eq_true rfl⟩ ⟨Nat.zero_le _, Nat.zero_le _⟩ (Nat.le_of_ble_eq_true rfl) rfl rfl dX6_append_30 ?_
    refine G.if_ne (tgt := 38) C dX6_append_33 (by decide) hf (fun c21 hf => ?_) (fun c21 hf => ?_)
    · refine G.aload_n C 0 dX6_append_38 rfl rfl ?_
      refine G.getR (ci := 5) (k := 7) C rfl inlX6 (by decide) m9_74 rfl hf dX6_append_39 (fun v15 hv15 hf => ?_)
      try dsimp only at hf
      refine G.aload_n C 0 dX6_append_42 rfl rfl ?_
      refine G.getI (ci := 5) (k := 8) C rfl inlX6 (by decide) m9_525 rfl hf dX6_append_43 (fun v16 hv16 hf => ?_)
      try dsimp only at hf
      refine G.iload_n C 1 dX6_append_46 rfl rfl ?_
      refine G.iast C hf dX6_append_47 (fun h17 hh17 hf => ?_)
      try dsimp only at hf
      refine G.aload_n C 0 dX6_append_48 rfl rfl ?_
      refine G.dup C dX6_append_49 rfl ?_
      refine G.getI (ci := 5) (k := 8) C rfl inlX6 (by decide) m9_525 rfl hf dX6_append_50 (fun v18 hv18 hf => ?_)
      try dsimp only at hf
      refine G.iconst (v := 1) C dX6_append_53 (by decide) ?_
      refine G.iadd C dX6_append_54 ?_
      refine G.put (ci := 5) (k := 8) C rfl inlX6 (by decide) m9_525 rfl tyX6 tyX6_ok nmX6 rfl rfl rfl hf dX6_append_55 (fun h19 hh19 hf => ?_)
      try dsimp only at hf
      refine G.aload_n C 0 dX6_append_58 rfl rfl ?_
      refine G.getI (ci := 5) (k := 8) C rfl inlX6 (by decide) m9_525 rfl hf dX6_append_59 (fun v20 hv20 hf => ?_)
      try dsimp only at hf
      cases hf
      exact G.iret C rfl dX6_append_62
    · refine G.iconst (v := 0) C dX6_append_36 (by decide) ?_
      cases hf
      exact G.iret C rfl dX6_append_37
  refine G.sub C [0, 1] (lv' := [(0, .ref (a0)), (1, .int (a1))]) rfl ?_
  refine G.aload_n C 0 dX6_append_0 rfl rfl ?_
  refine G.iload_n C 1 dX6_append_1 rfl rfl ?_
  refine G.bipush (v := 33) C dX6_append_2 (by decide) ?_
  refine G.bipush (v := 126) C dX6_append_4 (by decide) ?_
  obtain ⟨v1, hv1, hf⟩ := bind_some hf
  try dsimp only at hf
  refine G.callS C (st := [.ref (a0)]) (st2 := [.int (v1), .ref (a0)]) (ct_X6_in hv1) m9_144 m9_145 m9_5 m9_146 kd_X6_in ⟨Nat.le_of_ble_eq_true rfl, Nat.le_of_ble_eq_true rfl⟩ ⟨Nat.zero_le _, Nat.zero_le _⟩ (Nat.le_of_ble_eq_true rfl) rfl rfl dX6_append_6 ?_
  refine G.if_ne (tgt := 16) C dX6_append_9 (by decide) hf (fun c4 hf => ?_) (fun c4 hf => ?_)
  · refine G.aload_n C 0 dX6_append_16 rfl rfl ?_
    refine G.getI (ci := 5) (k := 8) C rfl inlX6 (by decide) m9_525 rfl hf dX6_append_17 (fun v2 hv2 hf => ?_)
    try dsimp only at hf
    refine G.bipush (v := 60) C dX6_append_20 (by decide) ?_
    refine G.icmp_ne (tgt := 29) C dX6_append_22 (by decide) hf (fun c3 hf => ?_) (fun c3 hf => ?_)
    · refine G.iconst (v := 0) C dX6_append_29 (by decide) ?_
      refine G.sub C [0, 1] (lv' := [(0, .ref (a0)), (1, .int (a1))]) rfl ?_
      exact hj30 _ _ _ _ hf
    · refine G.iconst (v := 2) C dX6_append_25 (by decide) ?_
      refine G.goto (tgt := 30) C dX6_append_26 (by decide) ?_
      refine G.sub C [0, 1] (lv' := [(0, .ref (a0)), (1, .int (a1))]) rfl ?_
      exact hj30 _ _ _ _ hf
  · refine G.iconst (v := 1) C dX6_append_12 (by decide) ?_
    refine G.goto (tgt := 30) C dX6_append_13 (by decide) ?_
    refine G.sub C [0, 1] (lv' := [(0, .ref (a0)), (1, .int (a1))]) rfl ?_
    exact hj30 _ _ _ _ hf
theorem ko_X6_clearBuffer {h : PH} {a0 : Nat} {r : (Int32 × PH)} (hf : f_X6_clearBuffer h a0 = some r) : kO h a0 5 := by
  unfold f_X6_clearBuffer at hf
  exact okO_k (gd_ok hf).1
theorem kd_X6_clearBuffer : yX6_clearBuffer.cls = RX6 ∧ yX6_clearBuffer.cls ≠ "java/lang/invoke/MethodHandle" ∧ yX6_clearBuffer.cls ≠ "java/lang/invoke/VarHandle" ∧ (parseMethodDescriptor yX6_clearBuffer.desc).map (fun d => d.parameters.length) = some 0 := by decide +kernel
set_option maxRecDepth 20000 in
set_option maxHeartbeats 4000000 in
theorem ct_X6_clearBuffer {l : Launch} {h : PH} {a0 : Nat} {r : (Int32 × PH)} (hf : f_X6_clearBuffer h a0 = some r) : CT l yX6_clearBuffer cX6_clearBuffer 2 (some .int) 0 0 [.ref (a0)] h (some (.int r.1)) r.2 := by
  refine CT.of (own := RX6) rfl (by decide) (Nat.le_of_ble_eq_true rfl) ?_
  intro p e R s m args below meth c g X hR C
  subst hR
  unfold f_X6_clearBuffer at hf
  obtain ⟨hok, hf⟩ := gd_ok hf
  refine G.sub C [0] (lv' := [(0, .ref (a0))]) rfl ?_
  refine G.aload_n C 0 dX6_clearBuffer_0 rfl rfl ?_
  refine G.iconst (v := 0) C dX6_clearBuffer_1 (by decide) ?_
  refine G.put (ci := 5) (k := 0) C rfl inlX6 (by decide) m9_166 rfl tyX6 tyX6_ok nmX6 rfl rfl rfl hf dX6_clearBuffer_2 (fun h1 hh1 hf => ?_)
  try dsimp only at hf
  refine G.aload_n C 0 dX6_clearBuffer_5 rfl rfl ?_
  refine G.getI (ci := 5) (k := 8) C rfl inlX6 (by decide) m9_525 rfl hf dX6_clearBuffer_6 (fun v2 hv2 hf => ?_)
  try dsimp only at hf
  refine G.istore_n (lv' := [(1, .int (v2)), (0, .ref (a0))]) C dX6_clearBuffer_9 rfl (by decide) rfl ?_
  refine G.aload_n C 1 dX6_clearBuffer_10 rfl rfl ?_
  refine G.iconst (v := 0) C dX6_clearBuffer_11 (by decide) ?_
  refine G.put (ci := 5) (k := 8) C rfl inlX6 (by decide) m9_525 rfl tyX6 tyX6_ok nmX6 rfl rfl rfl hf dX6_clearBuffer_12 (fun h3 hh3 hf => ?_)
  try dsimp only at hf
  refine G.iload_n C 0 dX6_clearBuffer_15 rfl rfl ?_
  cases hf
  exact G.iret C rfl dX6_clearBuffer_16
theorem ko_X6_isNext {h : PH} {a0 : Nat} {a1 : Int32} {a2 : Int32} {r : Int32} (hf : f_X6_isNext h a0 a1 a2 = some r) : kO h a0 5 := by
  unfold f_X6_isNext at hf
  exact okO_k (gd_ok hf).1
theorem kd_X6_isNext : yX6_isNext.cls = RX6 ∧ yX6_isNext.cls ≠ "java/lang/invoke/MethodHandle" ∧ yX6_isNext.cls ≠ "java/lang/invoke/VarHandle" ∧ (parseMethodDescriptor yX6_isNext.desc).map (fun d => d.parameters.length) = some 2 := by decide +kernel
set_option maxRecDepth 20000 in
set_option maxHeartbeats 4000000 in
theorem ct_X6_isNext {l : Launch} {h : PH} {a0 : Nat} {a1 : Int32} {a2 : Int32} {r : Int32} (hf : f_X6_isNext h a0 a1 a2 = some r) : CT l yX6_isNext cX6_isNext 3 (some .boolean) 1 22 [.ref (a0), .int (a1), .int (a2)] h (some (.int r)) h := by
  refine CT.of (own := RX6) rfl (by decide) (Nat.le_of_ble_eq_true rfl) ?_
  intro p e R s m args below meth c g X hR C
  subst hR
  unfold f_X6_isNext at hf
  obtain ⟨hok, hf⟩ := gd_ok hf
  have hj40 : ∀ (k0 : Int32), f_X6_isNext_J40 h k0 = some r → G p l e ({ frames := 1, cells := 0, slots := 0, locals := 22 } : Room) s m args below meth c 3 g X h 0 0 (MQ below (QW g X h s.heap.size (some (.int r)) h) args s 0 0 (AF X h s.heap.size)) 40 [] [.int (k0)] h := by
    intro k0 hf
    unfold f_X6_isNext_J40 at hf
    obtain ⟨c9, hf⟩ := gd_ok hf
    cases hf
    exact G.zret C rfl (z01_n c9) dX6_isNext_40
  have hj39 : f_X6_isNext_J39 h = some r → G p l e ({ frames := 1, cells := 0, slots := 0, locals := 22 } : Room) s m args below meth c 3 g X h 0 0 (MQ below (QW g X h s.heap.size (some (.int r)) h) args s 0 0 (AF X h s.heap.size)) 39 [] [] h := by
    intro hf
    unfold f_X6_isNext_J39 at hf
    refine G.iconst (v := 0) C dX6_isNext_39 (by decide) ?_
    refine G.sub C [] (lv' := []) rfl ?_
    exact hj40 _ hf
  refine G.sub C [0, 1, 2] (lv' := [(0, .ref (a0)), (1, .int (a1)), (2, .int (a2))]) rfl ?_
  refine G.aload_n C 0 dX6_isNext_0 rfl rfl ?_
  refine G.getI (ci := 5) (k := 11) C rfl inlX6 (by decide) m9_575 rfl hf dX6_isNext_1 (fun v1 hv1 hf => ?_)
  try dsimp only at hf
  refine G.if_ne (tgt := 39) C dX6_isNext_4 (by decide) hf (fun c10 hf => ?_) (fun c10 hf => ?_)
  · refine G.sub C [] (lv' := []) rfl ?_
    exact hj39  hf
  · refine G.aload_n C 0 dX6_isNext_7 rfl rfl ?_
    refine G.getI (ci := 5) (k := 10) C rfl inlX6 (by decide) m9_576 rfl hf dX6_isNext_8 (fun v2 hv2 hf => ?_)
    try dsimp only at hf
    refine G.aload_n C 0 dX6_isNext_11 rfl rfl ?_
    refine G.getI (ci := 5) (k := 8) C rfl inlX6 (by decide) m9_525 rfl hf dX6_isNext_12 (fun v3 hv3 hf => ?_)
    try dsimp only at hf
    refine G.icmp_ge (tgt := 39) C dX6_isNext_15 (by decide) hf (fun c9 hf => ?_) (fun c9 hf => ?_)
    · refine G.sub C [] (lv' := []) rfl ?_
      exact hj39  hf
    · refine G.aload_n C 0 dX6_isNext_18 rfl rfl ?_
      refine G.getR (ci := 5) (k := 7) C rfl inlX6 (by decide) m9_74 rfl hf dX6_isNext_19 (fun v4 hv4 hf => ?_)
      try dsimp only at hf
      refine G.aload_n C 0 dX6_isNext_22 rfl rfl ?_
      refine G.getI (ci := 5) (k := 10) C rfl inlX6 (by decide) m9_576 rfl hf dX6_isNext_23 (fun v5 hv5 hf => ?_)
      try dsimp only at hf
      refine G.iald C hf dX6_isNext_26 (fun v6 hv6 hf => ?_)
      try dsimp only at hf
      refine G.iload_n C 1 dX6_isNext_27 rfl rfl ?_
      refine G.iload_n C 2 dX6_isNext_28 rfl rfl ?_
      obtain ⟨v7, hv7, hf⟩ := bind_some hf
      try dsimp only at hf
      refine G.callS C (st := []) (st2 := [.int (v7)]) (ct_X6_in hv7) m9_144 m9_145 m9_5 m9_146 kd_X6_in ⟨Nat.le_of_ble_eq_true rfl, Nat.le_of_ble_eq_true rfl⟩ ⟨Nat.zero_le _, Nat.zero_le _⟩ (Nat.le_of_ble_eq_true rfl) rfl rfl dX6_isNext_29 ?_
      refine G.if_eq (tgt := 39) C dX6_isNext_32 (by decide) hf (fun c8 hf => ?_) (fun c8 hf => ?_)
      · refine G.sub C [] (lv' := []) rfl ?_
        exact hj39  hf
      · refine G.iconst (v := 1) C dX6_isNext_35 (by decide) ?_
        refine G.goto (tgt := 40) C dX6_isNext_36 (by decide) ?_
        refine G.sub C [] (lv' := []) rfl ?_
        exact hj40 _ hf
theorem ko_X6_reads {h : PH} {a0 : Nat} {a1 : Int32} {a2 : Int32} {r : (Int32 × PH)} (hf : f_X6_reads h a0 a1 a2 = some r) : kO h a0 5 := by
  unfold f_X6_reads at hf
  exact okO_k (gd_ok hf).1
theorem kd_X6_reads : yX6_reads.cls = RX6 ∧ yX6_reads.cls ≠ "java/lang/invoke/MethodHandle" ∧ yX6_reads.cls ≠ "java/lang/invoke/VarHandle" ∧ (parseMethodDescriptor yX6_reads.desc).map (fun d => d.parameters.length) = some 2 := by decide +kernel
set_option maxRecDepth 20000 in
set_option maxHeartbeats 4000000 in
theorem ct_X6_reads {l : Launch} {h : PH} {a0 : Nat} {a1 : Int32} {a2 : Int32} {r : (Int32 × PH)} (hf : f_X6_reads h a0 a1 a2 = some r) : CT l yX6_reads cX6_reads 4 (some .int) 1 22 [.ref (a0), .int (a1), .int (a2)] h (some (.int r.1)) r.2 := by
  refine CT.of (own := RX6) rfl (by decide) (Nat.le_of_ble_eq_true rfl) ?_
  intro p e R s m args below meth c g X hR C
  subst hR
  unfold f_X6_reads at hf
  obtain ⟨hok, hf⟩ := gd_ok hf
  have hj67 : ∀ (hh : PH) (x1 : Int32) (x3 : Int32) (k0 : Nat) (k1 : Int32) (k2 : Int32), f_X6_reads_J67 hh (x1) (x3) k0 k1 k2 = some r → G p l e ({ frames := 1, cells := 0, slots := 0, locals := 22 } : Room) s m args below meth c 4 g X h 0 0 (MQ below (QW g X h s.heap.size (some (.int r.1)) r.2) args s 0 0 (AF X h s.heap.size)) 67 [(1, .int (x1)), (3, .int (x3))] [.int (k2), .int (k1), .ref (k0)] hh := by
    intro hh x1 x3 k0 k1 k2 hf
    unfold f_X6_reads_J67 at hf
    refine G.iadd C dX6_reads_67 ?_
    refine G.put (ci := 5) (k := 10) C rfl inlX6 (by decide) m9_576 rfl tyX6 tyX6_ok nmX6 rfl rfl rfl hf dX6_reads_68 (fun h13 hh13 hf => ?_)
    try dsimp only at hf
    refine G.iload_n C 1 dX6_reads_71 rfl rfl ?_
    refine G.iload_n C 0 dX6_reads_72 rfl rfl ?_
    refine G.isub C dX6_reads_73 ?_
    cases hf
    exact G.iret C rfl dX6_reads_74
  have hj47 : ∀ (x0 : Nat) (x1 : Int32) (x3 : Int32) (k0 : Nat) (k1 : Int32), f_X6_reads_J47 h (x0) (x1) (x3) k0 k1 = some r → G p l e ({ frames := 1, cells := 0, slots := 0, locals := 22 } : Room) s m args below meth c 4 g X h 0 0 (MQ below (QW g X h s.heap.size (some (.int r.1)) r.2) args s 0 0 (AF X h s.heap.size)) 47 [(0, .ref (x0)), (1, .int (x1)), (3, .int (x3))] [.int (k1), .ref (k0)] h := by
    intro x0 x1 x3 k0 k1 hf
    unfold f_X6_reads_J47 at hf
    obtain ⟨c15, hf⟩ := gd_ok hf
    refine G.put (ci := 5) (k := 11) C rfl inlX6 (by decide) m9_575 rfl tyX6 tyX6_ok nmX6 rfl (z01_n c15) (z01_f c15) hf dX6_reads_47 (fun h14 hh14 hf => ?_)
    try dsimp only at hf
    refine G.aload_n C 0 dX6_reads_50 rfl rfl ?_
    refine G.dup C dX6_reads_51 rfl ?_
    refine G.getI (ci := 5) (k := 10) C rfl inlX6 (by decide) m9_576 rfl hf dX6_reads_52 (fun v16 hv16 hf => ?_)
    try dsimp only at hf
    refine G.aload_n C 0 dX6_reads_55 rfl rfl ?_
    refine G.getI (ci := 5) (k := 11) C rfl inlX6 (by decide) m9_575 rfl hf dX6_reads_56 (fun v17 hv17 hf => ?_)
    try dsimp only at hf
    refine G.if_eq (tgt := 66) C dX6_reads_59 (by decide) hf (fun c18 hf => ?_) (fun c18 hf => ?_)
    · refine G.iconst (v := 1) C dX6_reads_66 (by decide) ?_
      refine G.sub C [1, 2] (lv' := [(1, .int (x1)), (3, .int (x3))]) rfl ?_
      exact hj67 _ _ _ _ _ _ hf
    · refine G.iconst (v := 0) C dX6_reads_62 (by decide) ?_
      refine G.goto (tgt := 67) C dX6_reads_63 (by decide) ?_
      refine G.sub C [1, 2] (lv' := [(1, .int (x1)), (3, .int (x3))]) rfl ?_
      exact hj67 _ _ _ _ _ _ hf
  have hj42 : ∀ (x0 : Nat) (x1 : Int32) (x3 : Int32) (k0 : Nat), f_X6_reads_J42 h (x0) (x1) (x3) k0 = some r → G p l e ({ frames := 1, cells := 0, slots := 0, locals := 22 } : Room) s m args below meth c 4 g X h 0 0 (MQ below (QW g X h s.heap.size (some (.int r.1)) r.2) args s 0 0 (AF X h s.heap.size)) 42 [(0, .ref (x0)), (1, .int (x1)), (3, .int (x3))] [.ref (k0)] h := by
    intro x0 x1 x3 k0 hf
    unfold f_X6_reads_J42 at hf
    refine G.iconst (v := 1) C dX6_reads_42 (by decide) ?_
    refine G.goto (tgt := 47) C dX6_reads_43 (by decide) ?_
    refine G.sub C [0, 1, 2] (lv' := [(0, .ref (x0)), (1, .int (x1)), (3, .int (x3))]) rfl ?_
    exact hj47 _ _ _ _ _ hf
  have hj24 : ∀ (x0 : Nat) (x1 : Int32) (x2 : Int32) (k0 : Int32), f_X6_reads_J24 h (x0) (x1) (x2) k0 = some r → G p l e ({ frames := 1, cells := 0, slots := 0, locals := 22 } : Room) s m args below meth c 4 g X h 0 0 (MQ below (QW g X h s.heap.size (some (.int r.1)) r.2) args s 0 0 (AF X h s.heap.size)) 24 [(0, .ref (x0)), (1, .int (x1)), (2, .int (x2))] [.int (k0)] h := by
    intro x0 x1 x2 k0 hf
    unfold f_X6_reads_J24 at hf
    refine G.istore_n (lv' := [(3, .int (k0)), (0, .ref (x0)), (1, .int (x1)), (2, .int (x2))]) C dX6_reads_24 rfl (by decide) rfl ?_
    refine G.aload_n C 1 dX6_reads_25 rfl rfl ?_
    refine G.aload_n C 1 dX6_reads_26 rfl rfl ?_
    refine G.getI (ci := 5) (k := 11) C rfl inlX6 (by decide) m9_575 rfl hf dX6_reads_27 (fun v19 hv19 hf => ?_)
    try dsimp only at hf
    refine G.if_ne (tgt := 42) C dX6_reads_30 (by decide) hf (fun c22 hf => ?_) (fun c22 hf => ?_)
    · refine G.sub C [1, 2, 0] (lv' := [(0, .ref (x0)), (1, .int (x1)), (3, .int (k0))]) rfl ?_
      exact hj42 _ _ _ _ hf
    · refine G.iload_n C 0 dX6_reads_33 rfl rfl ?_
      refine G.iload_n C 2 dX6_reads_34 rfl rfl ?_
      refine G.iload_n C 3 dX6_reads_35 rfl rfl ?_
      obtain ⟨v20, hv20, hf⟩ := bind_some hf
      try dsimp only at hf
      refine G.callS C (st := [.ref (x0)]) (st2 := [.int (v20), .ref (x0)]) (ct_X6_in hv20) m9_144 m9_145 m9_5 m9_146 kd_X6_in ⟨Nat.le_of_ble_eq_true rfl, Nat.le_of_ble_eq_true rfl⟩ ⟨Nat.zero_le _, Nat.zero_le _⟩ (Nat.le_of_ble_eq_true rfl) rfl rfl dX6_reads_36 ?_
      refine G.if_ne (tgt := 46) C dX6_reads_39 (by decide) hf (fun c21 hf => ?_) (fun c21 hf => ?_)
      · refine G.iconst (v := 0) C dX6_reads_46 (by decide) ?_
        refine G.sub C [1, 2, 0] (lv' := [(0, .ref (x0)), (1, .int (x1)), (3, .int (k0))]) rfl ?_
        exact hj47 _ _ _ _ _ hf
      · refine G.sub C [1, 2, 0] (lv' := [(0, .ref (x0)), (1, .int (x1)), (3, .int (k0))]) rfl ?_
        exact hj42 _ _ _ _ hf
  refine G.sub C [0, 1, 2] (lv' := [(0, .ref (a0)), (1, .int (a1)), (2, .int (a2))]) rfl ?_
  refine G.aload_n C 0 dX6_reads_0 rfl rfl ?_
  refine G.getI (ci := 5) (k := 10) C rfl inlX6 (by decide) m9_576 rfl hf dX6_reads_1 (fun v1 hv1 hf => ?_)
  try dsimp only at hf
  refine G.aload_n C 0 dX6_reads_4 rfl rfl ?_
  refine G.getI (ci := 5) (k := 8) C rfl inlX6 (by decide) m9_525 rfl hf dX6_reads_5 (fun v2 hv2 hf => ?_)
  try dsimp only at hf
  refine G.icmp_ge (tgt := 23) C dX6_reads_8 (by decide) hf (fun c6 hf => ?_) (fun c6 hf => ?_)
  · refine G.iconst (v := 0) C dX6_reads_23 (by decide) ?_
    refine G.sub C [0, 1, 2] (lv' := [(0, .ref (a0)), (1, .int (a1)), (2, .int (a2))]) rfl ?_
    exact hj24 _ _ _ _ hf
  · refine G.aload_n C 0 dX6_reads_11 rfl rfl ?_
    refine G.getR (ci := 5) (k := 7) C rfl inlX6 (by decide) m9_74 rfl hf dX6_reads_12 (fun v3 hv3 hf => ?_)
    try dsimp only at hf
    refine G.aload_n C 0 dX6_reads_15 rfl rfl ?_
    refine G.getI (ci := 5) (k := 10) C rfl inlX6 (by decide) m9_576 rfl hf dX6_reads_16 (fun v4 hv4 hf => ?_)
    try dsimp only at hf
    refine G.iald C hf dX6_reads_19 (fun v5 hv5 hf => ?_)
    try dsimp only at hf
    refine G.goto (tgt := 24) C dX6_reads_20 (by decide) ?_
    refine G.sub C [0, 1, 2] (lv' := [(0, .ref (a0)), (1, .int (a1)), (2, .int (a2))]) rfl ?_
    exact hj24 _ _ _ _ hf
theorem ko_X6_readsNumber {h : PH} {a0 : Nat} {a1 : Int32} {a2 : Int32} {r : (Int32 × PH)} (hf : f_X6_readsNumber h a0 a1 a2 = some r) : kO h a0 5 := by
  unfold f_X6_readsNumber at hf
  exact okO_k (gd_ok hf).1
theorem kd_X6_readsNumber : yX6_readsNumber.cls = RX6 ∧ yX6_readsNumber.cls ≠ "java/lang/invoke/MethodHandle" ∧ yX6_readsNumber.cls ≠ "java/lang/invoke/VarHandle" ∧ (parseMethodDescriptor yX6_readsNumber.desc).map (fun d => d.parameters.length) = some 2 := by decide +kernel
set_option maxRecDepth 20000 in
set_option maxHeartbeats 4000000 in
theorem ct_X6_readsNumber {l : Launch} {h : PH} {a0 : Nat} {a1 : Int32} {a2 : Int32} {r : (Int32 × PH)} (hf : f_X6_readsNumber h a0 a1 a2 = some r) : CT l yX6_readsNumber cX6_readsNumber 5 (some .int) 2 45 [.ref (a0), .int (a1), .int (a2)] h (some (.int r.1)) r.2 := by
  refine CT.of (own := RX6) rfl (by decide) (Nat.le_of_ble_eq_true rfl) ?_
  intro p e R s m args below meth c g X hR C
  subst hR
  unfold f_X6_readsNumber at hf
  obtain ⟨hok, hf⟩ := gd_ok hf
  have hj94 : ∀ (hh : PH) (x3 : Int32), f_X6_readsNumber_J94 hh (x3) = some r → G p l e ({ frames := 2, cells := 0, slots := 0, locals := 45 } : Room) s m args below meth c 5 g X h 0 0 (MQ below (QW g X h s.heap.size (some (.int r.1)) r.2) args s 0 0 (AF X h s.heap.size)) 94 [(3, .int (x3))] [] hh := by
    intro hh x3 hf
    unfold f_X6_readsNumber_J94 at hf
    refine G.iload_n C 0 dX6_readsNumber_94 rfl rfl ?_
    cases hf
    exact G.iret C rfl dX6_readsNumber_95
  have hj22 : ∀ (hh : PH) (x0 : Nat) (x2 : Int32) (x3 : Int32) (k0 : Int32), f_X6_readsNumber_J22 hh (x0) (x2) (x3) k0 = some r → G p l e ({ frames := 2, cells := 0, slots := 0, locals := 45 } : Room) s m args below meth c 5 g X h 0 0 (MQ below (QW g X h s.heap.size (some (.int r.1)) r.2) args s 0 0 (AF X h s.heap.size)) 22 [(0, .ref (x0)), (2, .int (x2)), (3, .int (x3))] [.int (k0)] hh := by
    intro hh x0 x2 x3 k0 hf
    unfold f_X6_readsNumber_J22 at hf
    refine G.istore (lv' := [(4, .int (k0)), (0, .ref (x0)), (2, .int (x2)), (3, .int (x3))]) C dX6_readsNumber_22 (by decide) rfl ?_
    obtain ⟨z12, hlp12, hfo12⟩ := bind_some hf
    clear hf
    have hloop12 : ∀ (k : Nat), ∀ (x3 : Int32) (x4 : Int32) (hh : PH), (lpn (f_X6_readsNumber_L24 (x0) (x2)) k (x3, x4, hh)) = some z12 → G p l e ({ frames := 2, cells := 0, slots := 0, locals := 45 } : Room) s m args below meth c 5 g X h 0 0 (MQ below (QW g X h s.heap.size (some (.int r.1)) r.2) args s 0 0 (AF X h s.heap.size)) 24 [(0, .ref (x0)), (2, .int (x2)), (3, .int (x3)), (4, .int (x4))] [] hh := by
      intro k
      induction k with
      | zero => intro x3 x4 hh hlp12; exact (lpn_0 hlp12).elim
      | succ k ih12 =>
        intro x3 x4 hh hlp12
        obtain ⟨y12, hf, hlp12⟩ := lpn_s hlp12
        unfold f_X6_readsNumber_L24 at hf
        try dsimp only at hf
        have hj90 : ∀ (hh : PH) (x4 : Int32) (k0 : Int32), f_X6_readsNumber_J90 hh (x0) (x2) (x4) k0 = some y12 → G p l e ({ frames := 2, cells := 0, slots := 0, locals := 45 } : Room) s m args below meth c 5 g X h 0 0 (MQ below (QW g X h s.heap.size (some (.int r.1)) r.2) args s 0 0 (AF X h s.heap.size)) 90 [(0, .ref (x0)), (2, .int (x2)), (4, .int (x4))] [.int (k0)] hh := by
          intro hh x4 k0 hf
          unfold f_X6_readsNumber_J90 at hf
          refine G.istore_n (lv' := [(3, .int (k0)), (0, .ref (x0)), (2, .int (x2)), (4, .int (x4))]) C dX6_readsNumber_90 rfl (by decide) rfl ?_
          refine G.goto (tgt := 24) C dX6_readsNumber_91 (by decide) ?_
          cases hf
          refine G.sub C [1, 2, 0, 3] (lv' := [(0, .ref (x0)), (2, .int (x2)), (3, .int (k0)), (4, .int (x4))]) rfl ?_
          exact ih12 _ _ _ hlp12
        have hj66 : ∀ (hh : PH) (x3 : Int32) (k0 : Int32), f_X6_readsNumber_J66 hh (x0) (x2) (x3) k0 = some y12 → G p l e ({ frames := 2, cells := 0, slots := 0, locals := 45 } : Room) s m args below meth c 5 g X h 0 0 (MQ below (QW g X h s.heap.size (some (.int r.1)) r.2) args s 0 0 (AF X h s.heap.size)) 66 [(0, .ref (x0)), (2, .int (x2)), (3, .int (x3))] [.int (k0)] hh := by
          intro hh x3 k0 hf
          unfold f_X6_readsNumber_J66 at hf
          refine G.istore (lv' := [(4, .int (k0)), (0, .ref (x0)), (2, .int (x2)), (3, .int (x3))]) C dX6_readsNumber_66 (by decide) rfl ?_
          refine G.iload C 0 dX6_readsNumber_68 rfl ?_
          refine G.if_eq (tgt := 89) C dX6_readsNumber_70 (by decide) hf (fun c16 hf => ?_) (fun c16 hf => ?_)
          · refine G.iload_n C 3 dX6_readsNumber_89 rfl rfl ?_
            refine G.sub C [1, 2, 0] (lv' := [(0, .ref (x0)), (2, .int (x2)), (4, .int (k0))]) rfl ?_
            exact hj90 _ _ _ hf
          · refine G.bipush (v := 10) C dX6_readsNumber_73 (by decide) ?_
            refine G.iload_n C 3 dX6_readsNumber_75 rfl rfl ?_
            refine G.imul C dX6_readsNumber_76 ?_
            refine G.aload_n C 1 dX6_readsNumber_77 rfl rfl ?_
            refine G.bipush (v := 48) C dX6_readsNumber_78 (by decide) ?_
            refine G.bipush (v := 57) C dX6_readsNumber_80 (by decide) ?_
            obtain ⟨⟨v13, h14⟩, hv13, hf⟩ := bind_some hf
            try dsimp only at hf
            refine G.callV C (st := [.int (((10 : Int32) * x3))]) (st2 := [.int (v13), .int (((10 : Int32) * x3))]) (ct_X6_reads hv13) (ko_X6_reads hv13) rfl m9_592 m9_593 m9_594 m9_5 m9_595 kd_X6_reads ⟨Nat.le_of_ble_eq_true rfl, Nat.le_of_ble_eq_true rfl⟩ ⟨Nat.zero_le _, Nat.zero_le _⟩ (Nat.le_of_ble_eq_true rfl) rfl rfl dX6_readsNumber_82 ?_
            refine G.iadd C dX6_readsNumber_85 ?_
            refine G.goto (tgt := 90) C dX6_readsNumber_86 (by decide) ?_
            refine G.sub C [1, 2, 0] (lv' := [(0, .ref (x0)), (2, .int (x2)), (4, .int (k0))]) rfl ?_
            exact hj90 _ _ _ hf
        have hj65 : ∀ (hh : PH) (x3 : Int32), f_X6_readsNumber_J65 hh (x0) (x2) (x3) = some y12 → G p l e ({ frames := 2, cells := 0, slots := 0, locals := 45 } : Room) s m args below meth c 5 g X h 0 0 (MQ below (QW g X h s.heap.size (some (.int r.1)) r.2) args s 0 0 (AF X h s.heap.size)) 65 [(0, .ref (x0)), (2, .int (x2)), (3, .int (x3))] [] hh := by
          intro hh x3 hf
          unfold f_X6_readsNumber_J65 at hf
          refine G.iconst (v := 0) C dX6_readsNumber_65 (by decide) ?_
          refine G.sub C [0, 1, 2] (lv' := [(0, .ref (x0)), (2, .int (x2)), (3, .int (x3))]) rfl ?_
          exact hj66 _ _ _ hf
        refine G.iload C 3 dX6_readsNumber_24 rfl ?_
        refine G.if_eq (tgt := 94) C dX6_readsNumber_26 (by decide) hf (fun c23 hf => ?_) (fun c23 hf => ?_)
        · cases hf
          change some _ = some _ at hlp12
          have hf := hfo12
          try rw [← Option.some.inj hlp12] at hf
          try dsimp only at hf
          refine G.sub C [2] (lv' := [(3, .int (x3))]) rfl ?_
          exact hj94 _ _ hf
        · refine G.aload_n C 0 dX6_readsNumber_29 rfl rfl ?_
          refine G.bipush (v := 48) C dX6_readsNumber_30 (by decide) ?_
          refine G.bipush (v := 57) C dX6_readsNumber_32 (by decide) ?_
          obtain ⟨v17, hv17, hf⟩ := bind_some hf
          try dsimp only at hf
          refine G.callV C (st := []) (st2 := [.int (v17)]) (ct_X6_isNext hv17) (ko_X6_isNext hv17) rfl m9_596 m9_597 m9_598 m9_5 m9_599 kd_X6_isNext ⟨Nat.le_of_ble_eq_true rfl, Nat.le_of_ble_eq_true rfl⟩ ⟨Nat.zero_le _, Nat.zero_le _⟩ (Nat.le_of_ble_eq_true rfl) rfl rfl dX6_readsNumber_34 ?_
          refine G.if_eq (tgt := 65) C dX6_readsNumber_37 (by decide) hf (fun c22 hf => ?_) (fun c22 hf => ?_)
          · refine G.sub C [0, 1, 2] (lv' := [(0, .ref (x0)), (2, .int (x2)), (3, .int (x3))]) rfl ?_
            exact hj65 _ _ hf
          · refine G.bipush (v := 10) C dX6_readsNumber_40 (by decide) ?_
            refine G.iload_n C 2 dX6_readsNumber_42 rfl rfl ?_
            refine G.imul C dX6_readsNumber_43 ?_
            refine G.aload_n C 0 dX6_readsNumber_44 rfl rfl ?_
            refine G.getR (ci := 5) (k := 7) C rfl inlX6 (by decide) m9_74 rfl hf dX6_readsNumber_45 (fun v18 hv18 hf => ?_)
            try dsimp only at hf
            refine G.aload_n C 0 dX6_readsNumber_48 rfl rfl ?_
            refine G.getI (ci := 5) (k := 10) C rfl inlX6 (by decide) m9_576 rfl hf dX6_readsNumber_49 (fun v19 hv19 hf => ?_)
            try dsimp only at hf
            refine G.iald C hf dX6_readsNumber_52 (fun v20 hv20 hf => ?_)
            try dsimp only at hf
            refine G.iadd C dX6_readsNumber_53 ?_
            refine G.bipush (v := 48) C dX6_readsNumber_54 (by decide) ?_
            refine G.isub C dX6_readsNumber_56 ?_
            refine G.iload_n C 1 dX6_readsNumber_57 rfl rfl ?_
            refine G.icmp_gt (tgt := 65) C dX6_readsNumber_58 (by decide) hf (fun c21 hf => ?_) (fun c21 hf => ?_)
            · refine G.sub C [0, 1, 2] (lv' := [(0, .ref (x0)), (2, .int (x2)), (3, .int (x3))]) rfl ?_
              exact hj65 _ _ hf
            · refine G.iconst (v := 1) C dX6_readsNumber_61 (by decide) ?_
              refine G.goto (tgt := 66) C dX6_readsNumber_62 (by decide) ?_
              refine G.sub C [0, 1, 2] (lv' := [(0, .ref (x0)), (2, .int (x2)), (3, .int (x3))]) rfl ?_
              exact hj66 _ _ _ hf
    refine G.sub C [1, 2, 3, 0] (lv' := [(0, .ref (x0)), (2, .int (x2)), (3, .int (x3)), (4, .int (k0))]) rfl ?_
    exact hloop12 LF _ _ _ hlp12
  refine G.sub C [0, 1, 2] (lv' := [(0, .ref (a0)), (1, .int (a1)), (2, .int (a2))]) rfl ?_
  refine G.iload_n C 1 dX6_readsNumber_0 rfl rfl ?_
  refine G.aload_n C 0 dX6_readsNumber_1 rfl rfl ?_
  refine G.bipush (v := 48) C dX6_readsNumber_2 (by decide) ?_
  refine G.iload_n C 1 dX6_readsNumber_4 rfl rfl ?_
  refine G.iadd C dX6_readsNumber_5 ?_
  refine G.bipush (v := 57) C dX6_readsNumber_6 (by decide) ?_
  obtain ⟨⟨v1, h2⟩, hv1, hf⟩ := bind_some hf
  try dsimp only at hf
  refine G.callV C (st := [.int (a1)]) (st2 := [.int (v1), .int (a1)]) (ct_X6_reads hv1) (ko_X6_reads hv1) rfl m9_592 m9_593 m9_594 m9_5 m9_595 kd_X6_reads ⟨Nat.le_of_ble_eq_true rfl, Nat.le_of_ble_eq_true rfl⟩ ⟨Nat.zero_le _, Nat.zero_le _⟩ (Nat.le_of_ble_eq_true rfl) rfl rfl dX6_readsNumber_8 ?_
  refine G.iadd C dX6_readsNumber_11 ?_
  refine G.istore_n (lv' := [(3, .int ((a1 + v1))), (0, .ref (a0)), (1, .int (a1)), (2, .int (a2))]) C dX6_readsNumber_12 rfl (by decide) rfl ?_
  refine G.iload_n C 0 dX6_readsNumber_13 rfl rfl ?_
  refine G.if_le (tgt := 21) C dX6_readsNumber_14 (by decide) hf (fun c4 hf => ?_) (fun c4 hf => ?_)
  · refine G.iconst (v := 0) C dX6_readsNumber_21 (by decide) ?_
    refine G.sub C [1, 3, 0] (lv' := [(0, .ref (a0)), (2, .int (a2)), (3, .int ((a1 + v1)))]) rfl ?_
    exact hj22 _ _ _ _ _ hf
  · refine G.iconst (v := 1) C dX6_readsNumber_17 (by decide) ?_
    refine G.goto (tgt := 22) C dX6_readsNumber_18 (by decide) ?_
    refine G.sub C [1, 3, 0] (lv' := [(0, .ref (a0)), (2, .int (a2)), (3, .int ((a1 + v1)))]) rfl ?_
    exact hj22 _ _ _ _ _ hf
theorem ko_X6_readsPart {h : PH} {a0 : Nat} {r : PH} (hf : f_X6_readsPart h a0 = some r) : kO h a0 5 := by
  unfold f_X6_readsPart at hf
  exact okO_k (gd_ok hf).1
theorem kd_X6_readsPart : yX6_readsPart.cls = RX6 ∧ yX6_readsPart.cls ≠ "java/lang/invoke/MethodHandle" ∧ yX6_readsPart.cls ≠ "java/lang/invoke/VarHandle" ∧ (parseMethodDescriptor yX6_readsPart.desc).map (fun d => d.parameters.length) = some 0 := by decide +kernel
set_option maxRecDepth 20000 in
set_option maxHeartbeats 4000000 in
theorem ct_X6_readsPart {l : Launch} {h : PH} {a0 : Nat} {r : PH} (hf : f_X6_readsPart h a0 = some r) : CT l yX6_readsPart cX6_readsPart 2 none 3 69 [.ref (a0)] h none r := by
  refine CT.of (own := RX6) rfl (by decide) (Nat.le_of_ble_eq_true rfl) ?_
  intro p e R s m args below meth c g X hR C
  subst hR
  unfold f_X6_readsPart at hf
  obtain ⟨hok, hf⟩ := gd_ok hf
  have hj174 : ∀ (hh : PH) (k0 : Nat) (k1 : Int32), f_X6_readsPart_J174 hh k0 k1 = some r → G p l e ({ frames := 3, cells := 0, slots := 0, locals := 69 } : Room) s m args below meth c 2 g X h 0 0 (MQ below (QW g X h s.heap.size none r) args s 0 0 (AF X h s.heap.size)) 174 [] [.int (k1), .ref (k0)] hh := by
    intro hh k0 k1 hf
    unfold f_X6_readsPart_J174 at hf
    refine G.put (ci := 5) (k := 14) C rfl inlX6 (by decide) m9_587 rfl tyX6 tyX6_ok nmX6 rfl rfl rfl hf dX6_readsPart_174 (fun h27 hh27 hf => ?_)
    try dsimp only at hf
    cases hf
    exact G.vret C rfl dX6_readsPart_177
  have hj150 : ∀ (hh : PH) (x0 : Nat) (k0 : Nat) (k1 : Int32), f_X6_readsPart_J150 hh (x0) k0 k1 = some r → G p l e ({ frames := 3, cells := 0, slots := 0, locals := 69 } : Room) s m args below meth c 2 g X h 0 0 (MQ below (QW g X h s.heap.size none r) args s 0 0 (AF X h s.heap.size)) 150 [(0, .ref (x0))] [.int (k1), .ref (k0)] hh := by
    intro hh x0 k0 k1 hf
    unfold f_X6_readsPart_J150 at hf
    refine G.put (ci := 5) (k := 13) C rfl inlX6 (by decide) m9_586 rfl tyX6 tyX6_ok nmX6 rfl rfl rfl hf dX6_readsPart_150 (fun h28 hh28 hf => ?_)
    try dsimp only at hf
    refine G.aload_n C 0 dX6_readsPart_153 rfl rfl ?_
    refine G.aload_n C 0 dX6_readsPart_154 rfl rfl ?_
    refine G.getI (ci := 5) (k := 12) C rfl inlX6 (by decide) m9_585 rfl hf dX6_readsPart_155 (fun v29 hv29 hf => ?_)
    try dsimp only at hf
    refine G.bipush (v := 97) C dX6_readsPart_158 (by decide) ?_
    refine G.icmp_ne (tgt := 173) C dX6_readsPart_160 (by decide) hf (fun c33 hf => ?_) (fun c33 hf => ?_)
    · refine G.iconst (v := 0) C dX6_readsPart_173 (by decide) ?_
      refine G.sub C [] (lv' := []) rfl ?_
      exact hj174 _ _ _ hf
    · refine G.aload_n C 0 dX6_readsPart_163 rfl rfl ?_
      refine G.iconst (v := 0) C dX6_readsPart_164 (by decide) ?_
      refine G.bipush (v := 19) C dX6_readsPart_165 (by decide) ?_
      obtain ⟨⟨v30, h31⟩, hv30, hf⟩ := bind_some hf
      try dsimp only at hf
      refine G.callV C (st := [.ref (x0)]) (st2 := [.int (v30), .ref (x0)]) (ct_X6_readsNumber hv30) (ko_X6_readsNumber hv30) rfl m9_588 m9_589 m9_590 m9_5 m9_591 kd_X6_readsNumber ⟨Nat.le_of_ble_eq_true rfl, Nat.le_of_ble_eq_true rfl⟩ ⟨Nat.zero_le _, Nat.zero_le _⟩ (Nat.le_of_ble_eq_true rfl) rfl rfl dX6_readsPart_167 ?_
      refine G.goto (tgt := 174) C dX6_readsPart_170 (by decide) ?_
      refine G.sub C [] (lv' := []) rfl ?_
      exact hj174 _ _ _ hf
  have hj109 : ∀ (hh : PH) (x0 : Nat) (x1 : Int32) (k0 : Nat) (k1 : Int32), f_X6_readsPart_J109 hh (x0) (x1) k0 k1 = some r → G p l e ({ frames := 3, cells := 0, slots := 0, locals := 69 } : Room) s m args below meth c 2 g X h 0 0 (MQ below (QW g X h s.heap.size none r) args s 0 0 (AF X h s.heap.size)) 109 [(0, .ref (x0)), (1, .int (x1))] [.int (k1), .ref (k0)] hh := by
    intro hh x0 x1 k0 k1 hf
    unfold f_X6_readsPart_J109 at hf
    refine G.put (ci := 5) (k := 12) C rfl inlX6 (by decide) m9_585 rfl tyX6 tyX6_ok nmX6 rfl rfl rfl hf dX6_readsPart_109 (fun h34 hh34 hf => ?_)
    try dsimp only at hf
    refine G.aload_n C 0 dX6_readsPart_112 rfl rfl ?_
    refine G.iload_n C 1 dX6_readsPart_113 rfl rfl ?_
    refine G.bipush (v := 114) C dX6_readsPart_114 (by decide) ?_
    refine G.icmp_ne (tgt := 129) C dX6_readsPart_116 (by decide) hf (fun c42 hf => ?_) (fun c42 hf => ?_)
    · refine G.iload_n C 1 dX6_readsPart_129 rfl rfl ?_
      refine G.bipush (v := 45) C dX6_readsPart_130 (by decide) ?_
      refine G.icmp_ne (tgt := 146) C dX6_readsPart_132 (by decide) hf (fun c38 hf => ?_) (fun c38 hf => ?_)
      · refine G.iload_n C 1 dX6_readsPart_146 rfl rfl ?_
        refine G.bipush (v := 97) C dX6_readsPart_147 (by decide) ?_
        refine G.isub C dX6_readsPart_149 ?_
        refine G.sub C [0] (lv' := [(0, .ref (x0))]) rfl ?_
        exact hj150 _ _ _ _ hf
      · refine G.aload_n C 0 dX6_readsPart_135 rfl rfl ?_
        refine G.bipush (v := 97) C dX6_readsPart_136 (by decide) ?_
        refine G.bipush (v := 104) C dX6_readsPart_138 (by decide) ?_
        obtain ⟨⟨v35, h36⟩, hv35, hf⟩ := bind_some hf
        try dsimp only at hf
        refine G.callV C (st := [.ref (x0)]) (st2 := [.int (v35), .ref (x0)]) (ct_X6_reads hv35) (ko_X6_reads hv35) rfl m9_592 m9_593 m9_594 m9_5 m9_595 kd_X6_reads ⟨Nat.le_of_ble_eq_true rfl, Nat.le_of_ble_eq_true rfl⟩ ⟨Nat.zero_le _, Nat.zero_le _⟩ (Nat.le_of_ble_eq_true rfl) rfl rfl dX6_readsPart_140 ?_
        refine G.goto (tgt := 150) C dX6_readsPart_143 (by decide) ?_
        refine G.sub C [0] (lv' := [(0, .ref (x0))]) rfl ?_
        exact hj150 _ _ _ _ hf
    · refine G.aload_n C 0 dX6_readsPart_119 rfl rfl ?_
      refine G.iconst (v := 1) C dX6_readsPart_120 (by decide) ?_
      refine G.bipush (v := 60) C dX6_readsPart_121 (by decide) ?_
      obtain ⟨⟨v39, h40⟩, hv39, hf⟩ := bind_some hf
      try dsimp only at hf
      refine G.callV C (st := [.ref (x0)]) (st2 := [.int (v39), .ref (x0)]) (ct_X6_readsNumber hv39) (ko_X6_readsNumber hv39) rfl m9_588 m9_589 m9_590 m9_5 m9_591 kd_X6_readsNumber ⟨Nat.le_of_ble_eq_true rfl, Nat.le_of_ble_eq_true rfl⟩ ⟨Nat.zero_le _, Nat.zero_le _⟩ (Nat.le_of_ble_eq_true rfl) rfl rfl dX6_readsPart_123 ?_
      refine G.goto (tgt := 150) C dX6_readsPart_126 (by decide) ?_
      refine G.sub C [0] (lv' := [(0, .ref (x0))]) rfl ?_
      exact hj150 _ _ _ _ hf
  have hj87 : ∀ (hh : PH) (x0 : Nat) (x1 : Int32) (k0 : Nat) (k1 : Int32) (k2 : Int32), f_X6_readsPart_J87 hh (x0) (x1) k0 k1 k2 = some r → G p l e ({ frames := 3, cells := 0, slots := 0, locals := 69 } : Room) s m args below meth c 2 g X h 0 0 (MQ below (QW g X h s.heap.size none r) args s 0 0 (AF X h s.heap.size)) 87 [(0, .ref (x0)), (1, .int (x1))] [.int (k2), .int (k1), .ref (k0)] hh := by
    intro hh x0 x1 k0 k1 k2 hf
    unfold f_X6_readsPart_J87 at hf
    refine G.iadd C dX6_readsPart_87 ?_
    refine G.put (ci := 5) (k := 10) C rfl inlX6 (by decide) m9_576 rfl tyX6 tyX6_ok nmX6 rfl rfl rfl hf dX6_readsPart_88 (fun h43 hh43 hf => ?_)
    try dsimp only at hf
    refine G.aload_n C 0 dX6_readsPart_91 rfl rfl ?_
    refine G.iload_n C 1 dX6_readsPart_92 rfl rfl ?_
    refine G.bipush (v := 97) C dX6_readsPart_93 (by decide) ?_
    refine G.bipush (v := 104) C dX6_readsPart_95 (by decide) ?_
    obtain ⟨v44, hv44, hf⟩ := bind_some hf
    try dsimp only at hf
    refine G.callS C (st := [.ref (x0)]) (st2 := [.int (v44), .ref (x0)]) (ct_X6_in hv44) m9_144 m9_145 m9_5 m9_146 kd_X6_in ⟨Nat.le_of_ble_eq_true rfl, Nat.le_of_ble_eq_true rfl⟩ ⟨Nat.zero_le _, Nat.zero_le _⟩ (Nat.le_of_ble_eq_true rfl) rfl rfl dX6_readsPart_97 ?_
    refine G.if_eq (tgt := 108) C dX6_readsPart_100 (by decide) hf (fun c45 hf => ?_) (fun c45 hf => ?_)
    · refine G.iload_n C 1 dX6_readsPart_108 rfl rfl ?_
      refine G.sub C [0, 1] (lv' := [(0, .ref (x0)), (1, .int (x1))]) rfl ?_
      exact hj109 _ _ _ _ _ hf
    · refine G.bipush (v := 97) C dX6_readsPart_103 (by decide) ?_
      refine G.goto (tgt := 109) C dX6_readsPart_105 (by decide) ?_
      refine G.sub C [0, 1] (lv' := [(0, .ref (x0)), (1, .int (x1))]) rfl ?_
      exact hj109 _ _ _ _ _ hf
  have hj67 : ∀ (x0 : Nat) (x1 : Int32) (k0 : Nat) (k1 : Int32), f_X6_readsPart_J67 h (x0) (x1) k0 k1 = some r → G p l e ({ frames := 3, cells := 0, slots := 0, locals := 69 } : Room) s m args below meth c 2 g X h 0 0 (MQ below (QW g X h s.heap.size none r) args s 0 0 (AF X h s.heap.size)) 67 [(0, .ref (x0)), (1, .int (x1))] [.int (k1), .ref (k0)] h := by
    intro x0 x1 k0 k1 hf
    unfold f_X6_readsPart_J67 at hf
    obtain ⟨c47, hf⟩ := gd_ok hf
    refine G.put (ci := 5) (k := 11) C rfl inlX6 (by decide) m9_575 rfl tyX6 tyX6_ok nmX6 rfl (z01_n c47) (z01_f c47) hf dX6_readsPart_67 (fun h46 hh46 hf => ?_)
    try dsimp only at hf
    refine G.aload_n C 0 dX6_readsPart_70 rfl rfl ?_
    refine G.dup C dX6_readsPart_71 rfl ?_
    refine G.getI (ci := 5) (k := 10) C rfl inlX6 (by decide) m9_576 rfl hf dX6_readsPart_72 (fun v48 hv48 hf => ?_)
    try dsimp only at hf
    refine G.aload_n C 0 dX6_readsPart_75 rfl rfl ?_
    refine G.getI (ci := 5) (k := 11) C rfl inlX6 (by decide) m9_575 rfl hf dX6_readsPart_76 (fun v49 hv49 hf => ?_)
    try dsimp only at hf
    refine G.if_eq (tgt := 86) C dX6_readsPart_79 (by decide) hf (fun c50 hf => ?_) (fun c50 hf => ?_)
    · refine G.iconst (v := 1) C dX6_readsPart_86 (by decide) ?_
      refine G.sub C [0, 1] (lv' := [(0, .ref (x0)), (1, .int (x1))]) rfl ?_
      exact hj87 _ _ _ _ _ _ hf
    · refine G.iconst (v := 0) C dX6_readsPart_82 (by decide) ?_
      refine G.goto (tgt := 87) C dX6_readsPart_83 (by decide) ?_
      refine G.sub C [0, 1] (lv' := [(0, .ref (x0)), (1, .int (x1))]) rfl ?_
      exact hj87 _ _ _ _ _ _ hf
  have hj62 : ∀ (x0 : Nat) (x1 : Int32) (k0 : Nat), f_X6_readsPart_J62 h (x0) (x1) k0 = some r → G p l e ({ frames := 3, cells := 0, slots := 0, locals := 69 } : Room) s m args below meth c 2 g X h 0 0 (MQ below (QW g X h s.heap.size none r) args s 0 0 (AF X h s.heap.size)) 62 [(0, .ref (x0)), (1, .int (x1))] [.ref (k0)] h := by
    intro x0 x1 k0 hf
    unfold f_X6_readsPart_J62 at hf
    refine G.iconst (v := 1) C dX6_readsPart_62 (by decide) ?_
    refine G.goto (tgt := 67) C dX6_readsPart_63 (by decide) ?_
    refine G.sub C [0, 1] (lv' := [(0, .ref (x0)), (1, .int (x1))]) rfl ?_
    exact hj67 _ _ _ _ hf
  have hj66 : ∀ (x0 : Nat) (x1 : Int32) (k0 : Nat), f_X6_readsPart_J66 h (x0) (x1) k0 = some r → G p l e ({ frames := 3, cells := 0, slots := 0, locals := 69 } : Room) s m args below meth c 2 g X h 0 0 (MQ below (QW g X h s.heap.size none r) args s 0 0 (AF X h s.heap.size)) 66 [(0, .ref (x0)), (1, .int (x1))] [.ref (k0)] h := by
    intro x0 x1 k0 hf
    unfold f_X6_readsPart_J66 at hf
    refine G.iconst (v := 0) C dX6_readsPart_66 (by decide) ?_
    refine G.sub C [0, 1] (lv' := [(0, .ref (x0)), (1, .int (x1))]) rfl ?_
    exact hj67 _ _ _ _ hf
  have hj24 : ∀ (x0 : Nat) (k0 : Int32), f_X6_readsPart_J24 h (x0) k0 = some r → G p l e ({ frames := 3, cells := 0, slots := 0, locals := 69 } : Room) s m args below meth c 2 g X h 0 0 (MQ below (QW g X h s.heap.size none r) args s 0 0 (AF X h s.heap.size)) 24 [(0, .ref (x0))] [.int (k0)] h := by
    intro x0 k0 hf
    unfold f_X6_readsPart_J24 at hf
    refine G.istore_n (lv' := [(1, .int (k0)), (0, .ref (x0))]) C dX6_readsPart_24 rfl (by decide) rfl ?_
    refine G.aload_n C 1 dX6_readsPart_25 rfl rfl ?_
    refine G.aload_n C 1 dX6_readsPart_26 rfl rfl ?_
    refine G.getI (ci := 5) (k := 11) C rfl inlX6 (by decide) m9_575 rfl hf dX6_readsPart_27 (fun v51 hv51 hf => ?_)
    try dsimp only at hf
    refine G.if_ne (tgt := 62) C dX6_readsPart_30 (by decide) hf (fun c57 hf => ?_) (fun c57 hf => ?_)
    · refine G.sub C [1, 0] (lv' := [(0, .ref (x0)), (1, .int (k0))]) rfl ?_
      exact hj62 _ _ _ hf
    · refine G.iload_n C 0 dX6_readsPart_33 rfl rfl ?_
      refine G.bipush (v := 114) C dX6_readsPart_34 (by decide) ?_
      refine G.icmp_eq (tgt := 66) C dX6_readsPart_36 (by decide) hf (fun c56 hf => ?_) (fun c56 hf => ?_)
      · refine G.sub C [1, 0] (lv' := [(0, .ref (x0)), (1, .int (k0))]) rfl ?_
        exact hj66 _ _ _ hf
      · refine G.iload_n C 0 dX6_readsPart_39 rfl rfl ?_
        refine G.bipush (v := 45) C dX6_readsPart_40 (by decide) ?_
        refine G.icmp_eq (tgt := 66) C dX6_readsPart_42 (by decide) hf (fun c55 hf => ?_) (fun c55 hf => ?_)
        · refine G.sub C [1, 0] (lv' := [(0, .ref (x0)), (1, .int (k0))]) rfl ?_
          exact hj66 _ _ _ hf
        · refine G.iload_n C 0 dX6_readsPart_45 rfl rfl ?_
          refine G.bipush (v := 60) C dX6_readsPart_46 (by decide) ?_
          refine G.icmp_eq (tgt := 66) C dX6_readsPart_48 (by decide) hf (fun c54 hf => ?_) (fun c54 hf => ?_)
          · refine G.sub C [1, 0] (lv' := [(0, .ref (x0)), (1, .int (k0))]) rfl ?_
            exact hj66 _ _ _ hf
          · refine G.iload_n C 0 dX6_readsPart_51 rfl rfl ?_
            refine G.bipush (v := 97) C dX6_readsPart_52 (by decide) ?_
            refine G.bipush (v := 104) C dX6_readsPart_54 (by decide) ?_
            obtain ⟨v52, hv52, hf⟩ := bind_some hf
            try dsimp only at hf
            refine G.callS C (st := [.ref (x0)]) (st2 := [.int (v52), .ref (x0)]) (ct_X6_in hv52) m9_144 m9_145 m9_5 m9_146 kd_X6_in ⟨Nat.le_of_ble_eq_true rfl, Nat.le_of_ble_eq_true rfl⟩ ⟨Nat.zero_le _, Nat.zero_le _⟩ (Nat.le_of_ble_eq_true rfl) rfl rfl dX6_readsPart_56 ?_
            refine G.if_ne (tgt := 66) C dX6_readsPart_59 (by decide) hf (fun c53 hf => ?_) (fun c53 hf => ?_)
            · refine G.sub C [1, 0] (lv' := [(0, .ref (x0)), (1, .int (k0))]) rfl ?_
              exact hj66 _ _ _ hf
            · refine G.sub C [1, 0] (lv' := [(0, .ref (x0)), (1, .int (k0))]) rfl ?_
              exact hj62 _ _ _ hf
  refine G.sub C [0] (lv' := [(0, .ref (a0))]) rfl ?_
  refine G.aload_n C 0 dX6_readsPart_0 rfl rfl ?_
  refine G.getI (ci := 5) (k := 10) C rfl inlX6 (by decide) m9_576 rfl hf dX6_readsPart_1 (fun v1 hv1 hf => ?_)
  try dsimp only at hf
  refine G.aload_n C 0 dX6_readsPart_4 rfl rfl ?_
  refine G.getI (ci := 5) (k := 8) C rfl inlX6 (by decide) m9_525 rfl hf dX6_readsPart_5 (fun v2 hv2 hf => ?_)
  try dsimp only at hf
  refine G.icmp_ge (tgt := 23) C dX6_readsPart_8 (by decide) hf (fun c6 hf => ?_) (fun c6 hf => ?_)
  · refine G.iconst (v := 0) C dX6_readsPart_23 (by decide) ?_
    refine G.sub C [0] (lv' := [(0, .ref (a0))]) rfl ?_
    exact hj24 _ _ hf
  · refine G.aload_n C 0 dX6_readsPart_11 rfl rfl ?_
    refine G.getR (ci := 5) (k := 7) C rfl inlX6 (by decide) m9_74 rfl hf dX6_readsPart_12 (fun v3 hv3 hf => ?_)
    try dsimp only at hf
    refine G.aload_n C 0 dX6_readsPart_15 rfl rfl ?_
    refine G.getI (ci := 5) (k := 10) C rfl inlX6 (by decide) m9_576 rfl hf dX6_readsPart_16 (fun v4 hv4 hf => ?_)
    try dsimp only at hf
    refine G.iald C hf dX6_readsPart_19 (fun v5 hv5 hf => ?_)
    try dsimp only at hf
    refine G.goto (tgt := 24) C dX6_readsPart_20 (by decide) ?_
    refine G.sub C [0] (lv' := [(0, .ref (a0))]) rfl ?_
    exact hj24 _ _ hf
theorem ko_X6_does {h : PH} {a0 : Nat} {r : (Int32 × PH)} (hf : f_X6_does h a0 = some r) : kO h a0 5 := by
  unfold f_X6_does at hf
  exact okO_k (gd_ok hf).1
theorem kd_X6_does : yX6_does.cls = RX6 ∧ yX6_does.cls ≠ "java/lang/invoke/MethodHandle" ∧ yX6_does.cls ≠ "java/lang/invoke/VarHandle" ∧ (parseMethodDescriptor yX6_does.desc).map (fun d => d.parameters.length) = some 0 := by decide +kernel
set_option maxRecDepth 20000 in
set_option maxHeartbeats 4000000 in
theorem ct_X6_does {l : Launch} {h : PH} {a0 : Nat} {r : (Int32 × PH)} (hf : f_X6_does h a0 = some r) : CT l yX6_does cX6_does 2 (some .boolean) 5 116 [.ref (a0)] h (some (.int r.1)) r.2 := by
  refine CT.of (own := RX6) rfl (by decide) (Nat.le_of_ble_eq_true rfl) ?_
  intro p e R s m args below meth c g X hR C
  subst hR
  unfold f_X6_does at hf
  obtain ⟨hok, hf⟩ := gd_ok hf
  have hj37 : f_X6_does_J37 h = some r → G p l e ({ frames := 5, cells := 0, slots := 0, locals := 116 } : Room) s m args below meth c 2 g X h 0 0 (MQ below (QW g X h s.heap.size (some (.int r.1)) r.2) args s 0 0 (AF X h s.heap.size)) 37 [] [] h := by
    intro hf
    unfold f_X6_does_J37 at hf
    refine G.iconst (v := 0) C dX6_does_37 (by decide) ?_
    cases hf
    exact G.zret (v := (0 : Int32)) C rfl rfl dX6_does_38
  have hj117 : f_X6_does_J117 h = some r → G p l e ({ frames := 5, cells := 0, slots := 0, locals := 116 } : Room) s m args below meth c 2 g X h 0 0 (MQ below (QW g X h s.heap.size (some (.int r.1)) r.2) args s 0 0 (AF X h s.heap.size)) 117 [] [] h := by
    intro hf
    unfold f_X6_does_J117 at hf
    refine G.iconst (v := 0) C dX6_does_117 (by decide) ?_
    cases hf
    exact G.zret (v := (0 : Int32)) C rfl rfl dX6_does_118
  have hj39 : ∀ (x0 : Nat) (x1 : Int32), f_X6_does_J39 h (x0) (x1) = some r → G p l e ({ frames := 5, cells := 0, slots := 0, locals := 116 } : Room) s m args below meth c 2 g X h 0 0 (MQ below (QW g X h s.heap.size (some (.int r.1)) r.2) args s 0 0 (AF X h s.heap.size)) 39 [(0, .ref (x0)), (1, .int (x1))] [] h := by
    intro x0 x1 hf
    unfold f_X6_does_J39 at hf
    refine G.aload_n C 0 dX6_does_39 rfl rfl ?_
    refine G.getI (ci := 5) (k := 12) C rfl inlX6 (by decide) m9_585 rfl hf dX6_does_40 (fun v26 hv26 hf => ?_)
    try dsimp only at hf
    by_cases c27 : v26 = 45
    · rw [if_pos c27] at hf
      refine G.lsw (off := 102) (tgt := 145) C dX6_does_43 (by decide) (by rw [c27]; rfl) (by decide) ?_
      refine G.aload_n C 0 dX6_does_145 rfl rfl ?_
      refine G.iload_n C 1 dX6_does_146 rfl rfl ?_
      refine G.aload_n C 0 dX6_does_147 rfl rfl ?_
      refine G.getI (ci := 5) (k := 13) C rfl inlX6 (by decide) m9_586 rfl hf dX6_does_148 (fun v28 hv28 hf => ?_)
      try dsimp only at hf
      obtain ⟨v29, hv29, hf⟩ := bind_some hf
      try dsimp only at hf
      refine G.callV C (st := []) (st2 := [.int (v29)]) (ct_X6_isLaid hv29) (ko_X6_isLaid hv29) rfl m9_151 m9_152 m9_153 m9_5 m9_154 kd_X6_isLaid ⟨Nat.le_of_ble_eq_true rfl, Nat.le_of_ble_eq_true rfl⟩ ⟨Nat.zero_le _, Nat.zero_le _⟩ (Nat.le_of_ble_eq_true rfl) rfl rfl dX6_does_151 ?_
      refine G.if_ne (tgt := 159) C dX6_does_154 (by decide) hf (fun c32 hf => ?_) (fun c32 hf => ?_)
      · refine G.aload_n C 0 dX6_does_159 rfl rfl ?_
        refine G.iload_n C 1 dX6_does_160 rfl rfl ?_
        refine G.aload_n C 0 dX6_does_161 rfl rfl ?_
        refine G.getI (ci := 5) (k := 13) C rfl inlX6 (by decide) m9_586 rfl hf dX6_does_162 (fun v30 hv30 hf => ?_)
        try dsimp only at hf
        obtain ⟨h31, hh31, hf⟩ := bind_some hf
        try dsimp only at hf
        refine G.callV C (st := []) (st2 := []) (ct_X6_takesOff hh31) (ko_X6_takesOff hh31) rfl m9_335 m9_336 m9_337 m9_5 m9_338 kd_X6_takesOff ⟨Nat.le_of_ble_eq_true rfl, Nat.le_of_ble_eq_true rfl⟩ ⟨Nat.zero_le _, Nat.zero_le _⟩ (Nat.le_of_ble_eq_true rfl) rfl rfl dX6_does_165 ?_
        refine G.iconst (v := 1) C dX6_does_168 (by decide) ?_
        cases hf
        exact G.zret (v := (1 : Int32)) C rfl rfl dX6_does_169
      · refine G.iconst (v := 0) C dX6_does_157 (by decide) ?_
        cases hf
        exact G.zret (v := (0 : Int32)) C rfl rfl dX6_does_158
    · rw [if_neg c27] at hf
      by_cases c33 : v26 = 97
      · rw [if_pos c33] at hf
        refine G.lsw (off := 43) (tgt := 86) C dX6_does_43 (by decide) (by rw [c33]; rfl) (by decide) ?_
        refine G.aload_n C 0 dX6_does_86 rfl rfl ?_
        refine G.aload_n C 0 dX6_does_87 rfl rfl ?_
        refine G.getI (ci := 5) (k := 13) C rfl inlX6 (by decide) m9_586 rfl hf dX6_does_88 (fun v34 hv34 hf => ?_)
        try dsimp only at hf
        refine G.aload_n C 0 dX6_does_91 rfl rfl ?_
        refine G.getI (ci := 5) (k := 14) C rfl inlX6 (by decide) m9_587 rfl hf dX6_does_92 (fun v35 hv35 hf => ?_)
        try dsimp only at hf
        obtain ⟨v36, hv36, hf⟩ := bind_some hf
        try dsimp only at hf
        refine G.callV C (st := []) (st2 := [.int (v36)]) (ct_X6_isPhase hv36) (ko_X6_isPhase hv36) rfl m9_291 m9_292 m9_293 m9_5 m9_294 kd_X6_isPhase ⟨Nat.le_of_ble_eq_true rfl, Nat.le_of_ble_eq_true rfl⟩ ⟨Nat.zero_le _, Nat.zero_le _⟩ (Nat.le_of_ble_eq_true rfl) rfl rfl dX6_does_95 ?_
        refine G.if_eq (tgt := 117) C dX6_does_98 (by decide) hf (fun c47 hf => ?_) (fun c47 hf => ?_)
        · refine G.sub C [] (lv' := []) rfl ?_
          exact hj117  hf
        · refine G.aload_n C 0 dX6_does_101 rfl rfl ?_
          refine G.iload_n C 1 dX6_does_102 rfl rfl ?_
          refine G.aload_n C 0 dX6_does_103 rfl rfl ?_
          refine G.getI (ci := 5) (k := 13) C rfl inlX6 (by decide) m9_586 rfl hf dX6_does_104 (fun v37 hv37 hf => ?_)
          try dsimp only at hf
          refine G.aload_n C 0 dX6_does_107 rfl rfl ?_
          refine G.getI (ci := 5) (k := 14) C rfl inlX6 (by decide) m9_587 rfl hf dX6_does_108 (fun v38 hv38 hf => ?_)
          try dsimp only at hf
          obtain ⟨v39, hv39, hf⟩ := bind_some hf
          try dsimp only at hf
          refine G.callV C (st := []) (st2 := [.int (v39)]) (ct_X6_why hv39) (ko_X6_why hv39) rfl m9_295 m9_296 m9_297 m9_5 m9_298 kd_X6_why ⟨Nat.le_of_ble_eq_true rfl, Nat.le_of_ble_eq_true rfl⟩ ⟨Nat.zero_le _, Nat.zero_le _⟩ (Nat.le_of_ble_eq_true rfl) rfl rfl dX6_does_111 ?_
          refine G.if_le (tgt := 119) C dX6_does_114 (by decide) hf (fun c46 hf => ?_) (fun c46 hf => ?_)
          · refine G.aload_n C 0 dX6_does_119 rfl rfl ?_
            refine G.iload_n C 1 dX6_does_120 rfl rfl ?_
            refine G.aload_n C 0 dX6_does_121 rfl rfl ?_
            refine G.getI (ci := 5) (k := 13) C rfl inlX6 (by decide) m9_586 rfl hf dX6_does_122 (fun v40 hv40 hf => ?_)
            try dsimp only at hf
            refine G.aload_n C 0 dX6_does_125 rfl rfl ?_
            refine G.getI (ci := 5) (k := 14) C rfl inlX6 (by decide) m9_587 rfl hf dX6_does_126 (fun v41 hv41 hf => ?_)
            try dsimp only at hf
            obtain ⟨h42, hh42, hf⟩ := bind_some hf
            try dsimp only at hf
            refine G.callV C (st := []) (st2 := []) (ct_X6_lays hh42) (ko_X6_lays hh42) rfl m9_307 m9_308 m9_309 m9_5 m9_310 kd_X6_lays ⟨Nat.le_of_ble_eq_true rfl, Nat.le_of_ble_eq_true rfl⟩ ⟨Nat.zero_le _, Nat.zero_le _⟩ (Nat.le_of_ble_eq_true rfl) rfl rfl dX6_does_129 ?_
            refine G.aload_n C 0 dX6_does_132 rfl rfl ?_
            refine G.getR (ci := 5) (k := 1) C rfl inlX6 (by decide) m9_70 rfl hf dX6_does_133 (fun v43 hv43 hf => ?_)
            try dsimp only at hf
            refine G.bipush (v := 9) C dX6_does_136 (by decide) ?_
            refine G.dup2 C dX6_does_138 rfl rfl ?_
            refine G.iald C hf dX6_does_139 (fun v44 hv44 hf => ?_)
            try dsimp only at hf
            refine G.iconst (v := 1) C dX6_does_140 (by decide) ?_
            refine G.iadd C dX6_does_141 ?_
            refine G.iast C hf dX6_does_142 (fun h45 hh45 hf => ?_)
            try dsimp only at hf
            refine G.iconst (v := 1) C dX6_does_143 (by decide) ?_
            cases hf
            exact G.zret (v := (1 : Int32)) C rfl rfl dX6_does_144
          · refine G.sub C [] (lv' := []) rfl ?_
            exact hj117  hf
      · rw [if_neg c33] at hf
        by_cases c48 : v26 = 114
        · rw [if_pos c48] at hf
          refine G.lsw (off := 33) (tgt := 76) C dX6_does_43 (by decide) (by rw [c48]; rfl) (by decide) ?_
          refine G.aload_n C 0 dX6_does_76 rfl rfl ?_
          refine G.aload_n C 0 dX6_does_77 rfl rfl ?_
          refine G.getI (ci := 5) (k := 13) C rfl inlX6 (by decide) m9_586 rfl hf dX6_does_78 (fun v49 hv49 hf => ?_)
          try dsimp only at hf
          obtain ⟨h50, hh50, hf⟩ := bind_some hf
          try dsimp only at hf
          refine G.callV C (st := []) (st2 := []) (ct_X6_adds hh50) (ko_X6_adds hh50) rfl m9_214 m9_215 m9_216 m9_5 m9_217 kd_X6_adds ⟨Nat.le_of_ble_eq_true rfl, Nat.le_of_ble_eq_true rfl⟩ ⟨Nat.zero_le _, Nat.zero_le _⟩ (Nat.le_of_ble_eq_true rfl) rfl rfl dX6_does_81 ?_
          refine G.iconst (v := 1) C dX6_does_84 (by decide) ?_
          cases hf
          exact G.zret (v := (1 : Int32)) C rfl rfl dX6_does_85
        · rw [if_neg c48] at hf
          refine G.lsw (off := 127) (tgt := 170) C dX6_does_43 (by decide) (by show Op.lookupswitch.offset [(45, 102), (97, 43), (114, 33)] 127 _ = _; rw [lv_osw (a := 45) c27 (by decide), lv_osw (a := 97) c33 (by decide), lv_osw (a := 114) c48 (by decide)]; rfl) (by decide) ?_
          refine G.aload_n C 0 dX6_does_170 rfl rfl ?_
          refine G.iload_n C 1 dX6_does_171 rfl rfl ?_
          obtain ⟨h51, hh51, hf⟩ := bind_some hf
          try dsimp only at hf
          refine G.callV C (st := []) (st2 := []) (ct_X6_turns hh51) (ko_X6_turns hh51) rfl m9_447 m9_448 m9_449 m9_5 m9_450 kd_X6_turns ⟨Nat.le_of_ble_eq_true rfl, Nat.le_of_ble_eq_true rfl⟩ ⟨Nat.zero_le _, Nat.zero_le _⟩ (Nat.le_of_ble_eq_true rfl) rfl rfl dX6_does_172 ?_
          refine G.iconst (v := 1) C dX6_does_175 (by decide) ?_
          cases hf
          exact G.zret (v := (1 : Int32)) C rfl rfl dX6_does_176
  refine G.sub C [0] (lv' := [(0, .ref (a0))]) rfl ?_
  refine G.aload_n C 0 dX6_does_0 rfl rfl ?_
  refine G.getR (ci := 5) (k := 1) C rfl inlX6 (by decide) m9_70 rfl hf dX6_does_1 (fun v1 hv1 hf => ?_)
  try dsimp only at hf
  refine G.bipush (v := 8) C dX6_does_4 (by decide) ?_
  refine G.iald C hf dX6_does_6 (fun v2 hv2 hf => ?_)
  try dsimp only at hf
  refine G.iconst (v := 1) C dX6_does_7 (by decide) ?_
  refine G.isub C dX6_does_8 ?_
  refine G.istore_n (lv' := [(1, .int ((v2 - (1 : Int32)))), (0, .ref (a0))]) C dX6_does_9 rfl (by decide) rfl ?_
  refine G.aload_n C 1 dX6_does_10 rfl rfl ?_
  refine G.getI (ci := 5) (k := 12) C rfl inlX6 (by decide) m9_585 rfl hf dX6_does_11 (fun v3 hv3 hf => ?_)
  try dsimp only at hf
  refine G.bipush (v := 114) C dX6_does_14 (by decide) ?_
  refine G.icmp_ne (tgt := 33) C dX6_does_16 (by decide) hf (fun c8 hf => ?_) (fun c8 hf => ?_)
  · refine G.iload_n C 0 dX6_does_33 rfl rfl ?_
    refine G.if_ge (tgt := 39) C dX6_does_34 (by decide) hf (fun c4 hf => ?_) (fun c4 hf => ?_)
    · refine G.sub C [1, 0] (lv' := [(0, .ref (a0)), (1, .int ((v2 - (1 : Int32))))]) rfl ?_
      exact hj39 _ _ hf
    · refine G.sub C [] (lv' := []) rfl ?_
      exact hj37  hf
  · refine G.aload_n C 1 dX6_does_19 rfl rfl ?_
    refine G.getR (ci := 5) (k := 1) C rfl inlX6 (by decide) m9_70 rfl hf dX6_does_20 (fun v5 hv5 hf => ?_)
    try dsimp only at hf
    refine G.bipush (v := 8) C dX6_does_23 (by decide) ?_
    refine G.iald C hf dX6_does_25 (fun v6 hv6 hf => ?_)
    try dsimp only at hf
    refine G.iconst (v := 4) C dX6_does_26 (by decide) ?_
    refine G.icmp_ne (tgt := 39) C dX6_does_27 (by decide) hf (fun c7 hf => ?_) (fun c7 hf => ?_)
    · refine G.sub C [1, 0] (lv' := [(0, .ref (a0)), (1, .int ((v2 - (1 : Int32))))]) rfl ?_
      exact hj39 _ _ hf
    · refine G.goto (tgt := 37) C dX6_does_30 (by decide) ?_
      refine G.sub C [] (lv' := []) rfl ?_
      exact hj37  hf
theorem ko_X6_goes {h : PH} {a0 : Nat} {a1 : Int32} {r : (Int32 × PH)} (hf : f_X6_goes h a0 a1 = some r) : kO h a0 5 := by
  unfold f_X6_goes at hf
  exact okO_k (gd_ok hf).1
theorem kd_X6_goes : yX6_goes.cls = RX6 ∧ yX6_goes.cls ≠ "java/lang/invoke/MethodHandle" ∧ yX6_goes.cls ≠ "java/lang/invoke/VarHandle" ∧ (parseMethodDescriptor yX6_goes.desc).map (fun d => d.parameters.length) = some 1 := by decide +kernel
set_option maxRecDepth 20000 in
set_option maxHeartbeats 4000000 in
theorem ct_X6_goes {l : Launch} {h : PH} {a0 : Nat} {a1 : Int32} {r : (Int32 × PH)} (hf : f_X6_goes h a0 a1 = some r) : CT l yX6_goes cX6_goes 6 (some .int) 6 137 [.ref (a0), .int (a1)] h (some (.int r.1)) r.2 := by
  refine CT.of (own := RX6) rfl (by decide) (Nat.le_of_ble_eq_true rfl) ?_
  intro p e R s m args below meth c g X hR C
  subst hR
  unfold f_X6_goes at hf
  obtain ⟨hok, hf⟩ := gd_ok hf
  have hj112 : ∀ (hh : PH) (x2 : Int32), f_X6_goes_J112 hh (x2) = some r → G p l e ({ frames := 6, cells := 0, slots := 0, locals := 137 } : Room) s m args below meth c 6 g X h 0 0 (MQ below (QW g X h s.heap.size (some (.int r.1)) r.2) args s 0 0 (AF X h s.heap.size)) 112 [(2, .int (x2))] [] hh := by
    intro hh x2 hf
    unfold f_X6_goes_J112 at hf
    refine G.iload_n C 0 dX6_goes_112 rfl rfl ?_
    cases hf
    exact G.iret C rfl dX6_goes_113
  refine G.sub C [0, 1] (lv' := [(0, .ref (a0)), (1, .int (a1))]) rfl ?_
  refine G.aload_n C 0 dX6_goes_0 rfl rfl ?_
  refine G.iconst (v := 0) C dX6_goes_1 (by decide) ?_
  refine G.put (ci := 5) (k := 10) C rfl inlX6 (by decide) m9_576 rfl tyX6 tyX6_ok nmX6 rfl rfl rfl hf dX6_goes_2 (fun h1 hh1 hf => ?_)
  try dsimp only at hf
  refine G.aload_n C 0 dX6_goes_5 rfl rfl ?_
  refine G.iconst (v := 0) C dX6_goes_6 (by decide) ?_
  refine G.put (ci := 5) (k := 11) C rfl inlX6 (by decide) m9_575 rfl tyX6 tyX6_ok nmX6 rfl rfl rfl hf dX6_goes_7 (fun h2 hh2 hf => ?_)
  try dsimp only at hf
  refine G.iconst (v := 0) C dX6_goes_10 (by decide) ?_
  refine G.istore_n (lv' := [(2, .int ((0 : Int32))), (0, .ref (a0)), (1, .int (a1))]) C dX6_goes_11 rfl (by decide) rfl ?_
  refine G.iconst (v := 1) C dX6_goes_12 (by decide) ?_
  refine G.istore_n (lv' := [(3, .int ((1 : Int32))), (2, .int ((0 : Int32))), (0, .ref (a0)), (1, .int (a1))]) C dX6_goes_13 rfl (by decide) rfl ?_
  obtain ⟨z3, hlp3, hfo3⟩ := bind_some hf
  clear hf
  have hloop3 : ∀ (k : Nat), ∀ (x2 : Int32) (x3 : Int32) (hh : PH), (lpn (f_X6_goes_L14 (a0) (a1)) k (x2, x3, hh)) = some z3 → G p l e ({ frames := 6, cells := 0, slots := 0, locals := 137 } : Room) s m args below meth c 6 g X h 0 0 (MQ below (QW g X h s.heap.size (some (.int r.1)) r.2) args s 0 0 (AF X h s.heap.size)) 14 [(0, .ref (a0)), (1, .int (a1)), (2, .int (x2)), (3, .int (x3))] [] hh := by
    intro k
    induction k with
    | zero => intro x2 x3 hh hlp3; exact (lpn_0 hlp3).elim
    | succ k ih3 =>
      intro x2 x3 hh hlp3
      obtain ⟨y3, hf, hlp3⟩ := lpn_s hlp3
      unfold f_X6_goes_L14 at hf
      try dsimp only at hf
      have hj109 : ∀ (hh : PH) (x2 : Int32) (x3 : Int32), f_X6_goes_J109 hh (a0) (a1) (x2) (x3) = some y3 → G p l e ({ frames := 6, cells := 0, slots := 0, locals := 137 } : Room) s m args below meth c 6 g X h 0 0 (MQ below (QW g X h s.heap.size (some (.int r.1)) r.2) args s 0 0 (AF X h s.heap.size)) 109 [(0, .ref (a0)), (1, .int (a1)), (2, .int (x2)), (3, .int (x3))] [] hh := by
        intro hh x2 x3 hf
        unfold f_X6_goes_J109 at hf
        refine G.goto (tgt := 14) C dX6_goes_109 (by decide) ?_
        cases hf
        refine G.sub C [0, 1, 2, 3] (lv' := [(0, .ref (a0)), (1, .int (a1)), (2, .int (x2)), (3, .int (x3))]) rfl ?_
        exact ih3 _ _ _ hlp3
      have hj108 : ∀ (hh : PH) (x2 : Int32) (k0 : Int32), f_X6_goes_J108 hh (a0) (a1) (x2) k0 = some y3 → G p l e ({ frames := 6, cells := 0, slots := 0, locals := 137 } : Room) s m args below meth c 6 g X h 0 0 (MQ below (QW g X h s.heap.size (some (.int r.1)) r.2) args s 0 0 (AF X h s.heap.size)) 108 [(0, .ref (a0)), (1, .int (a1)), (2, .int (x2))] [.int (k0)] hh := by
        intro hh x2 k0 hf
        unfold f_X6_goes_J108 at hf
        refine G.istore_n (lv' := [(3, .int (k0)), (0, .ref (a0)), (1, .int (a1)), (2, .int (x2))]) C dX6_goes_108 rfl (by decide) rfl ?_
        refine G.sub C [1, 2, 3, 0] (lv' := [(0, .ref (a0)), (1, .int (a1)), (2, .int (x2)), (3, .int (k0))]) rfl ?_
        exact hj109 _ _ _ hf
      have hj81 : ∀ (hh : PH) (x2 : Int32) (k0 : Int32), f_X6_goes_J81 hh (a0) (a1) (x2) k0 = some y3 → G p l e ({ frames := 6, cells := 0, slots := 0, locals := 137 } : Room) s m args below meth c 6 g X h 0 0 (MQ below (QW g X h s.heap.size (some (.int r.1)) r.2) args s 0 0 (AF X h s.heap.size)) 81 [(0, .ref (a0)), (1, .int (a1)), (2, .int (x2))] [.int (k0)] hh := by
        intro hh x2 k0 hf
        unfold f_X6_goes_J81 at hf
        refine G.istore_n (lv' := [(3, .int (k0)), (0, .ref (a0)), (1, .int (a1)), (2, .int (x2))]) C dX6_goes_81 rfl (by decide) rfl ?_
        refine G.iload_n C 0 dX6_goes_82 rfl rfl ?_
        refine G.if_eq (tgt := 109) C dX6_goes_83 (by decide) hf (fun c9 hf => ?_) (fun c9 hf => ?_)
        · refine G.sub C [1, 2, 3, 0] (lv' := [(0, .ref (a0)), (1, .int (a1)), (2, .int (x2)), (3, .int (k0))]) rfl ?_
          exact hj109 _ _ _ hf
        · refine G.aload_n C 1 dX6_goes_86 rfl rfl ?_
          refine G.bipush (v := 44) C dX6_goes_87 (by decide) ?_
          refine G.bipush (v := 44) C dX6_goes_89 (by decide) ?_
          obtain ⟨⟨v4, h5⟩, hv4, hf⟩ := bind_some hf
          try dsimp only at hf
          refine G.callV C (st := []) (st2 := [.int (v4)]) (ct_X6_reads hv4) (ko_X6_reads hv4) rfl m9_592 m9_593 m9_594 m9_5 m9_595 kd_X6_reads ⟨Nat.le_of_ble_eq_true rfl, Nat.le_of_ble_eq_true rfl⟩ ⟨Nat.zero_le _, Nat.zero_le _⟩ (Nat.le_of_ble_eq_true rfl) rfl rfl dX6_goes_91 ?_
          refine G.istore (lv' := [(5, .int (v4)), (3, .int (k0)), (0, .ref (a0)), (1, .int (a1)), (2, .int (x2))]) C dX6_goes_94 (by decide) rfl ?_
          refine G.aload_n C 2 dX6_goes_96 rfl rfl ?_
          refine G.getI (ci := 5) (k := 11) C rfl inlX6 (by decide) m9_575 rfl hf dX6_goes_97 (fun v7 hv7 hf => ?_)
          try dsimp only at hf
          refine G.if_ne (tgt := 107) C dX6_goes_100 (by decide) hf (fun c8 hf => ?_) (fun c8 hf => ?_)
          · refine G.iconst (v := 0) C dX6_goes_107 (by decide) ?_
            refine G.sub C [2, 3, 4] (lv' := [(0, .ref (a0)), (1, .int (a1)), (2, .int (x2))]) rfl ?_
            exact hj108 _ _ _ hf
          · refine G.iconst (v := 1) C dX6_goes_103 (by decide) ?_
            refine G.goto (tgt := 108) C dX6_goes_104 (by decide) ?_
            refine G.sub C [2, 3, 4] (lv' := [(0, .ref (a0)), (1, .int (a1)), (2, .int (x2))]) rfl ?_
            exact hj108 _ _ _ hf
      have hj80 : ∀ (hh : PH) (x2 : Int32), f_X6_goes_J80 hh (a0) (a1) (x2) = some y3 → G p l e ({ frames := 6, cells := 0, slots := 0, locals := 137 } : Room) s m args below meth c 6 g X h 0 0 (MQ below (QW g X h s.heap.size (some (.int r.1)) r.2) args s 0 0 (AF X h s.heap.size)) 80 [(0, .ref (a0)), (1, .int (a1)), (2, .int (x2))] [] hh := by
        intro hh x2 hf
        unfold f_X6_goes_J80 at hf
        refine G.iconst (v := 0) C dX6_goes_80 (by decide) ?_
        refine G.sub C [0, 1, 2] (lv' := [(0, .ref (a0)), (1, .int (a1)), (2, .int (x2))]) rfl ?_
        exact hj81 _ _ _ hf
      have hj51 : ∀ (hh : PH) (x4 : Int32) (k0 : Int32) (k1 : Int32), f_X6_goes_J51 hh (a0) (a1) (x4) k0 k1 = some y3 → G p l e ({ frames := 6, cells := 0, slots := 0, locals := 137 } : Room) s m args below meth c 6 g X h 0 0 (MQ below (QW g X h s.heap.size (some (.int r.1)) r.2) args s 0 0 (AF X h s.heap.size)) 51 [(0, .ref (a0)), (1, .int (a1)), (4, .int (x4))] [.int (k1), .int (k0)] hh := by
        intro hh x4 k0 k1 hf
        unfold f_X6_goes_J51 at hf
        refine G.iadd C dX6_goes_51 ?_
        refine G.istore_n (lv' := [(2, .int ((k0 + k1))), (0, .ref (a0)), (1, .int (a1)), (4, .int (x4))]) C dX6_goes_52 rfl (by decide) rfl ?_
        refine G.iload C 3 dX6_goes_53 rfl ?_
        refine G.if_eq (tgt := 80) C dX6_goes_55 (by decide) hf (fun c15 hf => ?_) (fun c15 hf => ?_)
        · refine G.sub C [1, 2, 0] (lv' := [(0, .ref (a0)), (1, .int (a1)), (2, .int ((k0 + k1)))]) rfl ?_
          exact hj80 _ _ hf
        · refine G.aload_n C 1 dX6_goes_58 rfl rfl ?_
          refine G.getI (ci := 5) (k := 11) C rfl inlX6 (by decide) m9_575 rfl hf dX6_goes_59 (fun v10 hv10 hf => ?_)
          try dsimp only at hf
          refine G.if_ne (tgt := 80) C dX6_goes_62 (by decide) hf (fun c14 hf => ?_) (fun c14 hf => ?_)
          · refine G.sub C [1, 2, 0] (lv' := [(0, .ref (a0)), (1, .int (a1)), (2, .int ((k0 + k1)))]) rfl ?_
            exact hj80 _ _ hf
          · refine G.aload_n C 1 dX6_goes_65 rfl rfl ?_
            refine G.getI (ci := 5) (k := 10) C rfl inlX6 (by decide) m9_576 rfl hf dX6_goes_66 (fun v11 hv11 hf => ?_)
            try dsimp only at hf
            refine G.aload_n C 1 dX6_goes_69 rfl rfl ?_
            refine G.getI (ci := 5) (k := 8) C rfl inlX6 (by decide) m9_525 rfl hf dX6_goes_70 (fun v12 hv12 hf => ?_)
            try dsimp only at hf
            refine G.icmp_ge (tgt := 80) C dX6_goes_73 (by decide) hf (fun c13 hf => ?_) (fun c13 hf => ?_)
            · refine G.sub C [1, 2, 0] (lv' := [(0, .ref (a0)), (1, .int (a1)), (2, .int ((k0 + k1)))]) rfl ?_
              exact hj80 _ _ hf
            · refine G.iconst (v := 1) C dX6_goes_76 (by decide) ?_
              refine G.goto (tgt := 81) C dX6_goes_77 (by decide) ?_
              refine G.sub C [1, 2, 0] (lv' := [(0, .ref (a0)), (1, .int (a1)), (2, .int ((k0 + k1)))]) rfl ?_
              exact hj81 _ _ _ hf
      have hj38 : ∀ (hh : PH) (x2 : Int32) (k0 : Int32), f_X6_goes_J38 hh (a0) (a1) (x2) k0 = some y3 → G p l e ({ frames := 6, cells := 0, slots := 0, locals := 137 } : Room) s m args below meth c 6 g X h 0 0 (MQ below (QW g X h s.heap.size (some (.int r.1)) r.2) args s 0 0 (AF X h s.heap.size)) 38 [(0, .ref (a0)), (1, .int (a1)), (2, .int (x2))] [.int (k0)] hh := by
        intro hh x2 k0 hf
        unfold f_X6_goes_J38 at hf
        refine G.istore (lv' := [(4, .int (k0)), (0, .ref (a0)), (1, .int (a1)), (2, .int (x2))]) C dX6_goes_38 (by decide) rfl ?_
        refine G.iload_n C 3 dX6_goes_40 rfl rfl ?_
        refine G.iload C 0 dX6_goes_41 rfl ?_
        refine G.if_eq (tgt := 50) C dX6_goes_43 (by decide) hf (fun c16 hf => ?_) (fun c16 hf => ?_)
        · refine G.iconst (v := 0) C dX6_goes_50 (by decide) ?_
          refine G.sub C [1, 2, 0] (lv' := [(0, .ref (a0)), (1, .int (a1)), (4, .int (k0))]) rfl ?_
          exact hj51 _ _ _ _ hf
        · refine G.iconst (v := 1) C dX6_goes_46 (by decide) ?_
          refine G.goto (tgt := 51) C dX6_goes_47 (by decide) ?_
          refine G.sub C [1, 2, 0] (lv' := [(0, .ref (a0)), (1, .int (a1)), (4, .int (k0))]) rfl ?_
          exact hj51 _ _ _ _ hf
      have hj33 : ∀ (hh : PH) (x2 : Int32), f_X6_goes_J33 hh (a0) (a1) (x2) = some y3 → G p l e ({ frames := 6, cells := 0, slots := 0, locals := 137 } : Room) s m args below meth c 6 g X h 0 0 (MQ below (QW g X h s.heap.size (some (.int r.1)) r.2) args s 0 0 (AF X h s.heap.size)) 33 [(0, .ref (a0)), (1, .int (a1)), (2, .int (x2))] [] hh := by
        intro hh x2 hf
        unfold f_X6_goes_J33 at hf
        refine G.iconst (v := 1) C dX6_goes_33 (by decide) ?_
        refine G.goto (tgt := 38) C dX6_goes_34 (by decide) ?_
        refine G.sub C [0, 1, 2] (lv' := [(0, .ref (a0)), (1, .int (a1)), (2, .int (x2))]) rfl ?_
        exact hj38 _ _ _ hf
      refine G.iload_n C 3 dX6_goes_14 rfl rfl ?_
      refine G.if_eq (tgt := 112) C dX6_goes_15 (by decide) hf (fun c23 hf => ?_) (fun c23 hf => ?_)
      · cases hf
        change some _ = some _ at hlp3
        have hf := hfo3
        try rw [← Option.some.inj hlp3] at hf
        try dsimp only at hf
        refine G.sub C [2] (lv' := [(2, .int (x2))]) rfl ?_
        exact hj112 _ _ hf
      · refine G.aload_n C 0 dX6_goes_18 rfl rfl ?_
        obtain ⟨h17, hh17, hf⟩ := bind_some hf
        try dsimp only at hf
        refine G.callV C (st := []) (st2 := []) (ct_X6_readsPart hh17) (ko_X6_readsPart hh17) rfl m9_581 m9_582 m9_583 m9_5 m9_584 kd_X6_readsPart ⟨Nat.le_of_ble_eq_true rfl, Nat.le_of_ble_eq_true rfl⟩ ⟨Nat.zero_le _, Nat.zero_le _⟩ (Nat.le_of_ble_eq_true rfl) rfl rfl dX6_goes_19 ?_
        refine G.iload_n C 1 dX6_goes_22 rfl rfl ?_
        refine G.if_eq (tgt := 33) C dX6_goes_23 (by decide) hf (fun c22 hf => ?_) (fun c22 hf => ?_)
        · refine G.sub C [0, 1, 2] (lv' := [(0, .ref (a0)), (1, .int (a1)), (2, .int (x2))]) rfl ?_
          exact hj33 _ _ hf
        · refine G.aload_n C 0 dX6_goes_26 rfl rfl ?_
          obtain ⟨⟨v18, h19⟩, hv18, hf⟩ := bind_some hf
          try dsimp only at hf
          refine G.callV C (st := []) (st2 := [.int (v18)]) (ct_X6_does hv18) (ko_X6_does hv18) rfl m9_600 m9_601 m9_602 m9_5 m9_603 kd_X6_does ⟨Nat.le_of_ble_eq_true rfl, Nat.le_of_ble_eq_true rfl⟩ ⟨Nat.zero_le _, Nat.zero_le _⟩ (Nat.le_of_ble_eq_true rfl) rfl rfl dX6_goes_27 ?_
          refine G.if_eq (tgt := 37) C dX6_goes_30 (by decide) hf (fun c21 hf => ?_) (fun c21 hf => ?_)
          · refine G.iconst (v := 0) C dX6_goes_37 (by decide) ?_
            refine G.sub C [0, 1, 2] (lv' := [(0, .ref (a0)), (1, .int (a1)), (2, .int (x2))]) rfl ?_
            exact hj38 _ _ _ hf
          · refine G.sub C [0, 1, 2] (lv' := [(0, .ref (a0)), (1, .int (a1)), (2, .int (x2))]) rfl ?_
            exact hj33 _ _ hf
  refine G.sub C [2, 3, 1, 0] (lv' := [(0, .ref (a0)), (1, .int (a1)), (2, .int ((0 : Int32))), (3, .int ((1 : Int32)))]) rfl ?_
  exact hloop3 LF _ _ _ hlp3
theorem ko_X6_firstError {h : PH} {a0 : Nat} {r : (Int32 × PH)} (hf : f_X6_firstError h a0 = some r) : kO h a0 5 := by
  unfold f_X6_firstError at hf
  exact okO_k (gd_ok hf).1
theorem kd_X6_firstError : yX6_firstError.cls = RX6 ∧ yX6_firstError.cls ≠ "java/lang/invoke/MethodHandle" ∧ yX6_firstError.cls ≠ "java/lang/invoke/VarHandle" ∧ (parseMethodDescriptor yX6_firstError.desc).map (fun d => d.parameters.length) = some 0 := by decide +kernel
set_option maxRecDepth 20000 in
set_option maxHeartbeats 4000000 in
theorem ct_X6_firstError {l : Launch} {h : PH} {a0 : Nat} {r : (Int32 × PH)} (hf : f_X6_firstError h a0 = some r) : CT l yX6_firstError cX6_firstError 2 (some .int) 7 162 [.ref (a0)] h (some (.int r.1)) r.2 := by
  refine CT.of (own := RX6) rfl (by decide) (Nat.le_of_ble_eq_true rfl) ?_
  intro p e R s m args below meth c g X hR C
  subst hR
  unfold f_X6_firstError at hf
  obtain ⟨hok, hf⟩ := gd_ok hf
  have hj29 : ∀ (hh : PH) (k0 : Int32), f_X6_firstError_J29 hh k0 = some r → G p l e ({ frames := 7, cells := 0, slots := 0, locals := 162 } : Room) s m args below meth c 2 g X h 0 0 (MQ below (QW g X h s.heap.size (some (.int r.1)) r.2) args s 0 0 (AF X h s.heap.size)) 29 [] [.int (k0)] hh := by
    intro hh k0 hf
    unfold f_X6_firstError_J29 at hf
    cases hf
    exact G.iret C rfl dX6_firstError_29
  refine G.sub C [0] (lv' := [(0, .ref (a0))]) rfl ?_
  refine G.aload_n C 0 dX6_firstError_0 rfl rfl ?_
  refine G.iconst (v := 0) C dX6_firstError_1 (by decide) ?_
  refine G.put (ci := 5) (k := 0) C rfl inlX6 (by decide) m9_166 rfl tyX6 tyX6_ok nmX6 rfl rfl rfl hf dX6_firstError_2 (fun h1 hh1 hf => ?_)
  try dsimp only at hf
  refine G.aload_n C 0 dX6_firstError_5 rfl rfl ?_
  refine G.iconst (v := 0) C dX6_firstError_6 (by decide) ?_
  obtain ⟨⟨v2, h3⟩, hv2, hf⟩ := bind_some hf
  try dsimp only at hf
  refine G.callV C (st := []) (st2 := [.int (v2)]) (ct_X6_goes hv2) (ko_X6_goes hv2) rfl m9_577 m9_578 m9_579 m9_5 m9_580 kd_X6_goes ⟨Nat.le_of_ble_eq_true rfl, Nat.le_of_ble_eq_true rfl⟩ ⟨Nat.zero_le _, Nat.zero_le _⟩ (Nat.le_of_ble_eq_true rfl) rfl rfl dX6_firstError_7 ?_
  refine G.istore_n (lv' := [(1, .int (v2)), (0, .ref (a0))]) C dX6_firstError_10 rfl (by decide) rfl ?_
  refine G.aload_n C 1 dX6_firstError_11 rfl rfl ?_
  refine G.getI (ci := 5) (k := 11) C rfl inlX6 (by decide) m9_575 rfl hf dX6_firstError_12 (fun v5 hv5 hf => ?_)
  try dsimp only at hf
  refine G.if_eq (tgt := 25) C dX6_firstError_15 (by decide) hf (fun c8 hf => ?_) (fun c8 hf => ?_)
  · refine G.aload_n C 1 dX6_firstError_25 rfl rfl ?_
    refine G.getI (ci := 5) (k := 8) C rfl inlX6 (by decide) m9_525 rfl hf dX6_firstError_26 (fun v6 hv6 hf => ?_)
    try dsimp only at hf
    refine G.sub C [] (lv' := []) rfl ?_
    exact hj29 _ _ hf
  · refine G.aload_n C 1 dX6_firstError_18 rfl rfl ?_
    refine G.getI (ci := 5) (k := 10) C rfl inlX6 (by decide) m9_576 rfl hf dX6_firstError_19 (fun v7 hv7 hf => ?_)
    try dsimp only at hf
    refine G.goto (tgt := 29) C dX6_firstError_22 (by decide) ?_
    refine G.sub C [] (lv' := []) rfl ?_
    exact hj29 _ _ hf
theorem ko_X6_play {h : PH} {a0 : Nat} {r : (Int32 × PH)} (hf : f_X6_play h a0 = some r) : kO h a0 5 := by
  unfold f_X6_play at hf
  exact okO_k (gd_ok hf).1
theorem kd_X6_play : yX6_play.cls = RX6 ∧ yX6_play.cls ≠ "java/lang/invoke/MethodHandle" ∧ yX6_play.cls ≠ "java/lang/invoke/VarHandle" ∧ (parseMethodDescriptor yX6_play.desc).map (fun d => d.parameters.length) = some 0 := by decide +kernel
set_option maxRecDepth 20000 in
set_option maxHeartbeats 4000000 in
theorem ct_X6_play {l : Launch} {h : PH} {a0 : Nat} {r : (Int32 × PH)} (hf : f_X6_play h a0 = some r) : CT l yX6_play cX6_play 3 (some .int) 7 162 [.ref (a0)] h (some (.int r.1)) r.2 := by
  refine CT.of (own := RX6) rfl (by decide) (Nat.le_of_ble_eq_true rfl) ?_
  intro p e R s m args below meth c g X hR C
  subst hR
  unfold f_X6_play at hf
  obtain ⟨hok, hf⟩ := gd_ok hf
  have hj19 : ∀ (hh : PH) (x0 : Nat) (k0 : Nat) (k1 : Int32), f_X6_play_J19 hh (x0) k0 k1 = some r → G p l e ({ frames := 7, cells := 0, slots := 0, locals := 162 } : Room) s m args below meth c 3 g X h 0 0 (MQ below (QW g X h s.heap.size (some (.int r.1)) r.2) args s 0 0 (AF X h s.heap.size)) 19 [(0, .ref (x0))] [.int (k1), .ref (k0)] hh := by
    intro hh x0 k0 k1 hf
    unfold f_X6_play_J19 at hf
    obtain ⟨⟨v13, h14⟩, hv13, hf⟩ := bind_some hf
    try dsimp only at hf
    refine G.callV C (st := []) (st2 := [.int (v13)]) (ct_X6_holds hv13) (ko_X6_holds hv13) rfl m9_162 m9_163 m9_164 m9_5 m9_165 kd_X6_holds ⟨Nat.le_of_ble_eq_true rfl, Nat.le_of_ble_eq_true rfl⟩ ⟨Nat.zero_le _, Nat.zero_le _⟩ (Nat.le_of_ble_eq_true rfl) rfl rfl dX6_play_19 ?_
    refine G.if_ne (tgt := 27) C dX6_play_22 (by decide) hf (fun c21 hf => ?_) (fun c21 hf => ?_)
    · refine G.aload_n C 0 dX6_play_27 rfl rfl ?_
      obtain ⟨h16, hh16, hf⟩ := bind_some hf
      try dsimp only at hf
      refine G.callV C (st := []) (st2 := []) (ct_X6_save hh16) (ko_X6_save hh16) rfl m9_167 m9_168 m9_169 m9_5 m9_170 kd_X6_save ⟨Nat.le_of_ble_eq_true rfl, Nat.le_of_ble_eq_true rfl⟩ ⟨Nat.zero_le _, Nat.zero_le _⟩ (Nat.le_of_ble_eq_true rfl) rfl rfl dX6_play_28 ?_
      refine G.aload_n C 0 dX6_play_31 rfl rfl ?_
      refine G.iconst (v := 1) C dX6_play_32 (by decide) ?_
      obtain ⟨⟨v17, h18⟩, hv17, hf⟩ := bind_some hf
      try dsimp only at hf
      refine G.callV C (st := []) (st2 := [.int (v17)]) (ct_X6_goes hv17) (ko_X6_goes hv17) rfl m9_577 m9_578 m9_579 m9_5 m9_580 kd_X6_goes ⟨Nat.le_of_ble_eq_true rfl, Nat.le_of_ble_eq_true rfl⟩ ⟨Nat.zero_le _, Nat.zero_le _⟩ (Nat.le_of_ble_eq_true rfl) rfl rfl dX6_play_33 ?_
      refine G.istore_n (lv' := [(2, .int (v17)), (0, .ref (x0))]) C dX6_play_36 rfl (by decide) rfl ?_
      refine G.aload_n C 1 dX6_play_37 rfl rfl ?_
      refine G.iconst (v := 0) C dX6_play_38 (by decide) ?_
      refine G.put (ci := 5) (k := 8) C rfl inlX6 (by decide) m9_525 rfl tyX6 tyX6_ok nmX6 rfl rfl rfl hf dX6_play_39 (fun h20 hh20 hf => ?_)
      try dsimp only at hf
      refine G.iload_n C 0 dX6_play_42 rfl rfl ?_
      cases hf
      exact G.iret C rfl dX6_play_43
    · refine G.iconst (v := 0) C dX6_play_25 (by decide) ?_
      cases hf
      exact G.iret C rfl dX6_play_26
  refine G.sub C [0] (lv' := [(0, .ref (a0))]) rfl ?_
  refine G.aload_n C 0 dX6_play_0 rfl rfl ?_
  refine G.iconst (v := 0) C dX6_play_1 (by decide) ?_
  obtain ⟨⟨v1, h2⟩, hv1, hf⟩ := bind_some hf
  try dsimp only at hf
  refine G.callV C (st := []) (st2 := [.int (v1)]) (ct_X6_goes hv1) (ko_X6_goes hv1) rfl m9_577 m9_578 m9_579 m9_5 m9_580 kd_X6_goes ⟨Nat.le_of_ble_eq_true rfl, Nat.le_of_ble_eq_true rfl⟩ ⟨Nat.zero_le _, Nat.zero_le _⟩ (Nat.le_of_ble_eq_true rfl) rfl rfl dX6_play_2 ?_
  refine G.istore_n (lv' := [(1, .int (v1)), (0, .ref (a0))]) C dX6_play_5 rfl (by decide) rfl ?_
  refine G.aload_n C 1 dX6_play_6 rfl rfl ?_
  refine G.aload_n C 1 dX6_play_7 rfl rfl ?_
  refine G.getI (ci := 5) (k := 11) C rfl inlX6 (by decide) m9_575 rfl hf dX6_play_8 (fun v4 hv4 hf => ?_)
  try dsimp only at hf
  refine G.if_eq (tgt := 18) C dX6_play_11 (by decide) hf (fun c5 hf => ?_) (fun c5 hf => ?_)
  · refine G.iconst (v := 0) C dX6_play_18 (by decide) ?_
    refine G.sub C [1] (lv' := [(0, .ref (a0))]) rfl ?_
    exact hj19 _ _ _ _ hf
  · refine G.iconst (v := 1) C dX6_play_14 (by decide) ?_
    refine G.goto (tgt := 19) C dX6_play_15 (by decide) ?_
    refine G.sub C [1] (lv' := [(0, .ref (a0))]) rfl ?_
    exact hj19 _ _ _ _ hf
theorem ko_X6_undo {h : PH} {a0 : Nat} {r : (Int32 × PH)} (hf : f_X6_undo h a0 = some r) : kO h a0 5 := by
  unfold f_X6_undo at hf
  exact okO_k (gd_ok hf).1
theorem kd_X6_undo : yX6_undo.cls = RX6 ∧ yX6_undo.cls ≠ "java/lang/invoke/MethodHandle" ∧ yX6_undo.cls ≠ "java/lang/invoke/VarHandle" ∧ (parseMethodDescriptor yX6_undo.desc).map (fun d => d.parameters.length) = some 0 := by decide +kernel
set_option maxRecDepth 20000 in
set_option maxHeartbeats 4000000 in
theorem ct_X6_undo {l : Launch} {h : PH} {a0 : Nat} {r : (Int32 × PH)} (hf : f_X6_undo h a0 = some r) : CT l yX6_undo cX6_undo 2 (some .int) 1 21 [.ref (a0)] h (some (.int r.1)) r.2 := by
  refine CT.of (own := RX6) rfl (by decide) (Nat.le_of_ble_eq_true rfl) ?_
  intro p e R s m args below meth c g X hR C
  subst hR
  unfold f_X6_undo at hf
  obtain ⟨hok, hf⟩ := gd_ok hf
  have hj65 : ∀ (hh : PH) (x0 : Nat), f_X6_undo_J65 hh (x0) = some r → G p l e ({ frames := 1, cells := 0, slots := 0, locals := 21 } : Room) s m args below meth c 2 g X h 0 0 (MQ below (QW g X h s.heap.size (some (.int r.1)) r.2) args s 0 0 (AF X h s.heap.size)) 65 [(0, .ref (x0))] [] hh := by
    intro hh x0 hf
    unfold f_X6_undo_J65 at hf
    refine G.aload_n C 0 dX6_undo_65 rfl rfl ?_
    refine G.getI (ci := 5) (k := 6) C rfl inlX6 (by decide) m9_171 rfl hf dX6_undo_66 (fun v14 hv14 hf => ?_)
    try dsimp only at hf
    cases hf
    exact G.iret C rfl dX6_undo_69
  have hj13 : ∀ (x0 : Nat) (k0 : Nat) (k1 : Int32), f_X6_undo_J13 h (x0) k0 k1 = some r → G p l e ({ frames := 1, cells := 0, slots := 0, locals := 21 } : Room) s m args below meth c 2 g X h 0 0 (MQ below (QW g X h s.heap.size (some (.int r.1)) r.2) args s 0 0 (AF X h s.heap.size)) 13 [(0, .ref (x0))] [.int (k1), .ref (k0)] h := by
    intro x0 k0 k1 hf
    unfold f_X6_undo_J13 at hf
    obtain ⟨⟨v15, h16⟩, hv15, hf⟩ := bind_some hf
    try dsimp only at hf
    refine G.callV C (st := []) (st2 := [.int (v15)]) (ct_X6_holds hv15) (ko_X6_holds hv15) rfl m9_162 m9_163 m9_164 m9_5 m9_165 kd_X6_holds ⟨Nat.le_of_ble_eq_true rfl, Nat.le_of_ble_eq_true rfl⟩ ⟨Nat.zero_le _, Nat.zero_le _⟩ (Nat.le_of_ble_eq_true rfl) rfl rfl dX6_undo_13 ?_
    refine G.if_ne (tgt := 21) C dX6_undo_16 (by decide) hf (fun c27 hf => ?_) (fun c27 hf => ?_)
    · refine G.aload_n C 0 dX6_undo_21 rfl rfl ?_
      refine G.dup C dX6_undo_22 rfl ?_
      refine G.getI (ci := 5) (k := 6) C rfl inlX6 (by decide) m9_171 rfl hf dX6_undo_23 (fun v18 hv18 hf => ?_)
      try dsimp only at hf
      refine G.iconst (v := 1) C dX6_undo_26 (by decide) ?_
      refine G.isub C dX6_undo_27 ?_
      refine G.put (ci := 5) (k := 6) C rfl inlX6 (by decide) m9_171 rfl tyX6 tyX6_ok nmX6 rfl rfl rfl hf dX6_undo_28 (fun h19 hh19 hf => ?_)
      try dsimp only at hf
      refine G.iconst (v := 0) C dX6_undo_31 (by decide) ?_
      refine G.istore_n (lv' := [(1, .int ((0 : Int32))), (0, .ref (x0))]) C dX6_undo_32 rfl (by decide) rfl ?_
      obtain ⟨z20, hlp20, hfo20⟩ := bind_some hf
      clear hf
      have hloop20 : ∀ (k : Nat), ∀ (x1 : Int32) (hh : PH), (lpn (f_X6_undo_L33 (x0)) k (x1, hh)) = some z20 → G p l e ({ frames := 1, cells := 0, slots := 0, locals := 21 } : Room) s m args below meth c 2 g X h 0 0 (MQ below (QW g X h s.heap.size (some (.int r.1)) r.2) args s 0 0 (AF X h s.heap.size)) 33 [(0, .ref (x0)), (1, .int (x1))] [] hh := by
        intro k
        induction k with
        | zero => intro x1 hh hlp20; exact (lpn_0 hlp20).elim
        | succ k ih20 =>
          intro x1 hh hlp20
          obtain ⟨y20, hf, hlp20⟩ := lpn_s hlp20
          unfold f_X6_undo_L33 at hf
          try dsimp only at hf
          refine G.iload_n C 1 dX6_undo_33 rfl rfl ?_
          refine G.bipush (v := 84) C dX6_undo_34 (by decide) ?_
          refine G.icmp_ge (tgt := 65) C dX6_undo_36 (by decide) hf (fun c26 hf => ?_) (fun c26 hf => ?_)
          · cases hf
            change some _ = some _ at hlp20
            have hf := hfo20
            try rw [← Option.some.inj hlp20] at hf
            try dsimp only at hf
            refine G.sub C [0] (lv' := [(0, .ref (x0))]) rfl ?_
            exact hj65 _ _ hf
          · refine G.aload_n C 0 dX6_undo_39 rfl rfl ?_
            refine G.getR (ci := 5) (k := 1) C rfl inlX6 (by decide) m9_70 rfl hf dX6_undo_40 (fun v21 hv21 hf => ?_)
            try dsimp only at hf
            refine G.iload_n C 1 dX6_undo_43 rfl rfl ?_
            refine G.aload_n C 0 dX6_undo_44 rfl rfl ?_
            refine G.getR (ci := 5) (k := 5) C rfl inlX6 (by decide) m9_73 rfl hf dX6_undo_45 (fun v22 hv22 hf => ?_)
            try dsimp only at hf
            refine G.bipush (v := 84) C dX6_undo_48 (by decide) ?_
            refine G.aload_n C 0 dX6_undo_50 rfl rfl ?_
            refine G.getI (ci := 5) (k := 6) C rfl inlX6 (by decide) m9_171 rfl hf dX6_undo_51 (fun v23 hv23 hf => ?_)
            try dsimp only at hf
            refine G.imul C dX6_undo_54 ?_
            refine G.iload_n C 1 dX6_undo_55 rfl rfl ?_
            refine G.iadd C dX6_undo_56 ?_
            refine G.iald C hf dX6_undo_57 (fun v24 hv24 hf => ?_)
            try dsimp only at hf
            refine G.iast C hf dX6_undo_58 (fun h25 hh25 hf => ?_)
            try dsimp only at hf
            refine G.iinc (k := 1) (v := (x1 + 1)) (lv' := [(1, .int ((x1 + 1))), (0, .ref (x0))]) C dX6_undo_59 rfl rfl (by decide) rfl ?_
            refine G.goto (tgt := 33) C dX6_undo_62 (by decide) ?_
            cases hf
            refine G.sub C [1, 0] (lv' := [(0, .ref (x0)), (1, .int ((x1 + 1)))]) rfl ?_
            exact ih20 _ _ hlp20
      refine G.sub C [1, 0] (lv' := [(0, .ref (x0)), (1, .int ((0 : Int32)))]) rfl ?_
      exact hloop20 LF _ _ hlp20
    · refine G.iconst (v := 0) C dX6_undo_19 (by decide) ?_
      cases hf
      exact G.iret C rfl dX6_undo_20
  refine G.sub C [0] (lv' := [(0, .ref (a0))]) rfl ?_
  refine G.aload_n C 0 dX6_undo_0 rfl rfl ?_
  refine G.aload_n C 0 dX6_undo_1 rfl rfl ?_
  refine G.getI (ci := 5) (k := 6) C rfl inlX6 (by decide) m9_171 rfl hf dX6_undo_2 (fun v1 hv1 hf => ?_)
  try dsimp only at hf
  refine G.if_le (tgt := 12) C dX6_undo_5 (by decide) hf (fun c2 hf => ?_) (fun c2 hf => ?_)
  · refine G.iconst (v := 1) C dX6_undo_12 (by decide) ?_
    refine G.sub C [0] (lv' := [(0, .ref (a0))]) rfl ?_
    exact hj13 _ _ _ hf
  · refine G.iconst (v := 0) C dX6_undo_8 (by decide) ?_
    refine G.goto (tgt := 13) C dX6_undo_9 (by decide) ?_
    refine G.sub C [0] (lv' := [(0, .ref (a0))]) rfl ?_
    exact hj13 _ _ _ hf
theorem ko_X6_keep {h : PH} {a0 : Nat} {r : (Int32 × PH)} (hf : f_X6_keep h a0 = some r) : kO h a0 5 := by
  unfold f_X6_keep at hf
  exact okO_k (gd_ok hf).1
theorem kd_X6_keep : yX6_keep.cls = RX6 ∧ yX6_keep.cls ≠ "java/lang/invoke/MethodHandle" ∧ yX6_keep.cls ≠ "java/lang/invoke/VarHandle" ∧ (parseMethodDescriptor yX6_keep.desc).map (fun d => d.parameters.length) = some 0 := by decide +kernel
set_option maxRecDepth 20000 in
set_option maxHeartbeats 4000000 in
theorem ct_X6_keep {l : Launch} {h : PH} {a0 : Nat} {r : (Int32 × PH)} (hf : f_X6_keep h a0 = some r) : CT l yX6_keep cX6_keep 2 (some .int) 0 0 [.ref (a0)] h (some (.int r.1)) r.2 := by
  refine CT.of (own := RX6) rfl (by decide) (Nat.le_of_ble_eq_true rfl) ?_
  intro p e R s m args below meth c g X hR C
  subst hR
  unfold f_X6_keep at hf
  obtain ⟨hok, hf⟩ := gd_ok hf
  have hj31 : ∀ (hh : PH) (x0 : Nat), f_X6_keep_J31 hh (x0) = some r → G p l e ({ frames := 0, cells := 0, slots := 0, locals := 0 } : Room) s m args below meth c 2 g X h 0 0 (MQ below (QW g X h s.heap.size (some (.int r.1)) r.2) args s 0 0 (AF X h s.heap.size)) 31 [(0, .ref (x0))] [] hh := by
    intro hh x0 hf
    unfold f_X6_keep_J31 at hf
    refine G.aload_n C 0 dX6_keep_31 rfl rfl ?_
    refine G.iconst (v := 1) C dX6_keep_32 (by decide) ?_
    refine G.put (ci := 5) (k := 4) C rfl inlX6 (by decide) m9_664 rfl tyX6 tyX6_ok nmX6 rfl rfl rfl hf dX6_keep_33 (fun h10 hh10 hf => ?_)
    try dsimp only at hf
    refine G.aload_n C 0 dX6_keep_36 rfl rfl ?_
    refine G.getR (ci := 5) (k := 1) C rfl inlX6 (by decide) m9_70 rfl hf dX6_keep_37 (fun v11 hv11 hf => ?_)
    try dsimp only at hf
    refine G.bipush (v := 8) C dX6_keep_40 (by decide) ?_
    refine G.iald C hf dX6_keep_42 (fun v12 hv12 hf => ?_)
    try dsimp only at hf
    cases hf
    exact G.iret C rfl dX6_keep_43
  refine G.sub C [0] (lv' := [(0, .ref (a0))]) rfl ?_
  refine G.aload_n C 0 dX6_keep_0 rfl rfl ?_
  refine G.iconst (v := 0) C dX6_keep_1 (by decide) ?_
  refine G.put (ci := 5) (k := 0) C rfl inlX6 (by decide) m9_166 rfl tyX6 tyX6_ok nmX6 rfl rfl rfl hf dX6_keep_2 (fun h1 hh1 hf => ?_)
  try dsimp only at hf
  refine G.iconst (v := 0) C dX6_keep_5 (by decide) ?_
  refine G.istore_n (lv' := [(1, .int ((0 : Int32))), (0, .ref (a0))]) C dX6_keep_6 rfl (by decide) rfl ?_
  obtain ⟨z2, hlp2, hfo2⟩ := bind_some hf
  clear hf
  have hloop2 : ∀ (k : Nat), ∀ (x1 : Int32) (hh : PH), (lpn (f_X6_keep_L7 (a0)) k (x1, hh)) = some z2 → G p l e ({ frames := 0, cells := 0, slots := 0, locals := 0 } : Room) s m args below meth c 2 g X h 0 0 (MQ below (QW g X h s.heap.size (some (.int r.1)) r.2) args s 0 0 (AF X h s.heap.size)) 7 [(0, .ref (a0)), (1, .int (x1))] [] hh := by
    intro k
    induction k with
    | zero => intro x1 hh hlp2; exact (lpn_0 hlp2).elim
    | succ k ih2 =>
      intro x1 hh hlp2
      obtain ⟨y2, hf, hlp2⟩ := lpn_s hlp2
      unfold f_X6_keep_L7 at hf
      try dsimp only at hf
      refine G.iload_n C 1 dX6_keep_7 rfl rfl ?_
      refine G.bipush (v := 84) C dX6_keep_8 (by decide) ?_
      refine G.icmp_ge (tgt := 31) C dX6_keep_10 (by decide) hf (fun c7 hf => ?_) (fun c7 hf => ?_)
      · cases hf
        change some _ = some _ at hlp2
        have hf := hfo2
        try rw [← Option.some.inj hlp2] at hf
        try dsimp only at hf
        refine G.sub C [0] (lv' := [(0, .ref (a0))]) rfl ?_
        exact hj31 _ _ hf
      · refine G.aload_n C 0 dX6_keep_13 rfl rfl ?_
        refine G.getR (ci := 5) (k := 3) C rfl inlX6 (by decide) m9_72 rfl hf dX6_keep_14 (fun v3 hv3 hf => ?_)
        try dsimp only at hf
        refine G.iload_n C 1 dX6_keep_17 rfl rfl ?_
        refine G.aload_n C 0 dX6_keep_18 rfl rfl ?_
        refine G.getR (ci := 5) (k := 1) C rfl inlX6 (by decide) m9_70 rfl hf dX6_keep_19 (fun v4 hv4 hf => ?_)
        try dsimp only at hf
        refine G.iload_n C 1 dX6_keep_22 rfl rfl ?_
        refine G.iald C hf dX6_keep_23 (fun v5 hv5 hf => ?_)
        try dsimp only at hf
        refine G.iast C hf dX6_keep_24 (fun h6 hh6 hf => ?_)
        try dsimp only at hf
        refine G.iinc (k := 1) (v := (x1 + 1)) (lv' := [(1, .int ((x1 + 1))), (0, .ref (a0))]) C dX6_keep_25 rfl rfl (by decide) rfl ?_
        refine G.goto (tgt := 7) C dX6_keep_28 (by decide) ?_
        cases hf
        refine G.sub C [1, 0] (lv' := [(0, .ref (a0)), (1, .int ((x1 + 1)))]) rfl ?_
        exact ih2 _ _ hlp2
  refine G.sub C [1, 0] (lv' := [(0, .ref (a0)), (1, .int ((0 : Int32)))]) rfl ?_
  exact hloop2 LF _ _ hlp2
theorem ko_X6_restore {h : PH} {a0 : Nat} {r : (Int32 × PH)} (hf : f_X6_restore h a0 = some r) : kO h a0 5 := by
  unfold f_X6_restore at hf
  exact okO_k (gd_ok hf).1
theorem kd_X6_restore : yX6_restore.cls = RX6 ∧ yX6_restore.cls ≠ "java/lang/invoke/MethodHandle" ∧ yX6_restore.cls ≠ "java/lang/invoke/VarHandle" ∧ (parseMethodDescriptor yX6_restore.desc).map (fun d => d.parameters.length) = some 0 := by decide +kernel
set_option maxRecDepth 20000 in
set_option maxHeartbeats 4000000 in
theorem ct_X6_restore {l : Launch} {h : PH} {a0 : Nat} {r : (Int32 × PH)} (hf : f_X6_restore h a0 = some r) : CT l yX6_restore cX6_restore 2 (some .int) 1 21 [.ref (a0)] h (some (.int r.1)) r.2 := by
  refine CT.of (own := RX6) rfl (by decide) (Nat.le_of_ble_eq_true rfl) ?_
  intro p e R s m args below meth c g X hR C
  subst hR
  unfold f_X6_restore at hf
  obtain ⟨hok, hf⟩ := gd_ok hf
  have hj51 : ∀ (hh : PH) (x0 : Nat), f_X6_restore_J51 hh (x0) = some r → G p l e ({ frames := 1, cells := 0, slots := 0, locals := 21 } : Room) s m args below meth c 2 g X h 0 0 (MQ below (QW g X h s.heap.size (some (.int r.1)) r.2) args s 0 0 (AF X h s.heap.size)) 51 [(0, .ref (x0))] [] hh := by
    intro hh x0 hf
    unfold f_X6_restore_J51 at hf
    refine G.aload_n C 0 dX6_restore_51 rfl rfl ?_
    refine G.getR (ci := 5) (k := 1) C rfl inlX6 (by decide) m9_70 rfl hf dX6_restore_52 (fun v13 hv13 hf => ?_)
    try dsimp only at hf
    refine G.bipush (v := 8) C dX6_restore_55 (by decide) ?_
    refine G.iald C hf dX6_restore_57 (fun v14 hv14 hf => ?_)
    try dsimp only at hf
    cases hf
    exact G.iret C rfl dX6_restore_58
  have hj13 : ∀ (x0 : Nat) (k0 : Nat) (k1 : Int32), f_X6_restore_J13 h (x0) k0 k1 = some r → G p l e ({ frames := 1, cells := 0, slots := 0, locals := 21 } : Room) s m args below meth c 2 g X h 0 0 (MQ below (QW g X h s.heap.size (some (.int r.1)) r.2) args s 0 0 (AF X h s.heap.size)) 13 [(0, .ref (x0))] [.int (k1), .ref (k0)] h := by
    intro x0 k0 k1 hf
    unfold f_X6_restore_J13 at hf
    obtain ⟨⟨v15, h16⟩, hv15, hf⟩ := bind_some hf
    try dsimp only at hf
    refine G.callV C (st := []) (st2 := [.int (v15)]) (ct_X6_holds hv15) (ko_X6_holds hv15) rfl m9_162 m9_163 m9_164 m9_5 m9_165 kd_X6_holds ⟨Nat.le_of_ble_eq_true rfl, Nat.le_of_ble_eq_true rfl⟩ ⟨Nat.zero_le _, Nat.zero_le _⟩ (Nat.le_of_ble_eq_true rfl) rfl rfl dX6_restore_13 ?_
    refine G.if_ne (tgt := 21) C dX6_restore_16 (by decide) hf (fun c25 hf => ?_) (fun c25 hf => ?_)
    · refine G.aload_n C 0 dX6_restore_21 rfl rfl ?_
      obtain ⟨h18, hh18, hf⟩ := bind_some hf
      try dsimp only at hf
      refine G.callV C (st := []) (st2 := []) (ct_X6_save hh18) (ko_X6_save hh18) rfl m9_167 m9_168 m9_169 m9_5 m9_170 kd_X6_save ⟨Nat.le_of_ble_eq_true rfl, Nat.le_of_ble_eq_true rfl⟩ ⟨Nat.zero_le _, Nat.zero_le _⟩ (Nat.le_of_ble_eq_true rfl) rfl rfl dX6_restore_22 ?_
      refine G.iconst (v := 0) C dX6_restore_25 (by decide) ?_
      refine G.istore_n (lv' := [(1, .int ((0 : Int32))), (0, .ref (x0))]) C dX6_restore_26 rfl (by decide) rfl ?_
      obtain ⟨z19, hlp19, hfo19⟩ := bind_some hf
      clear hf
      have hloop19 : ∀ (k : Nat), ∀ (x1 : Int32) (hh : PH), (lpn (f_X6_restore_L27 (x0)) k (x1, hh)) = some z19 → G p l e ({ frames := 1, cells := 0, slots := 0, locals := 21 } : Room) s m args below meth c 2 g X h 0 0 (MQ below (QW g X h s.heap.size (some (.int r.1)) r.2) args s 0 0 (AF X h s.heap.size)) 27 [(0, .ref (x0)), (1, .int (x1))] [] hh := by
        intro k
        induction k with
        | zero => intro x1 hh hlp19; exact (lpn_0 hlp19).elim
        | succ k ih19 =>
          intro x1 hh hlp19
          obtain ⟨y19, hf, hlp19⟩ := lpn_s hlp19
          unfold f_X6_restore_L27 at hf
          try dsimp only at hf
          refine G.iload_n C 1 dX6_restore_27 rfl rfl ?_
          refine G.bipush (v := 84) C dX6_restore_28 (by decide) ?_
          refine G.icmp_ge (tgt := 51) C dX6_restore_30 (by decide) hf (fun c24 hf => ?_) (fun c24 hf => ?_)
          · cases hf
            change some _ = some _ at hlp19
            have hf := hfo19
            try rw [← Option.some.inj hlp19] at hf
            try dsimp only at hf
            refine G.sub C [0] (lv' := [(0, .ref (x0))]) rfl ?_
            exact hj51 _ _ hf
          · refine G.aload_n C 0 dX6_restore_33 rfl rfl ?_
            refine G.getR (ci := 5) (k := 1) C rfl inlX6 (by decide) m9_70 rfl hf dX6_restore_34 (fun v20 hv20 hf => ?_)
            try dsimp only at hf
            refine G.iload_n C 1 dX6_restore_37 rfl rfl ?_
            refine G.aload_n C 0 dX6_restore_38 rfl rfl ?_
            refine G.getR (ci := 5) (k := 3) C rfl inlX6 (by decide) m9_72 rfl hf dX6_restore_39 (fun v21 hv21 hf => ?_)
            try dsimp only at hf
            refine G.iload_n C 1 dX6_restore_42 rfl rfl ?_
            refine G.iald C hf dX6_restore_43 (fun v22 hv22 hf => ?_)
            try dsimp only at hf
            refine G.iast C hf dX6_restore_44 (fun h23 hh23 hf => ?_)
            try dsimp only at hf
            refine G.iinc (k := 1) (v := (x1 + 1)) (lv' := [(1, .int ((x1 + 1))), (0, .ref (x0))]) C dX6_restore_45 rfl rfl (by decide) rfl ?_
            refine G.goto (tgt := 27) C dX6_restore_48 (by decide) ?_
            cases hf
            refine G.sub C [1, 0] (lv' := [(0, .ref (x0)), (1, .int ((x1 + 1)))]) rfl ?_
            exact ih19 _ _ hlp19
      refine G.sub C [1, 0] (lv' := [(0, .ref (x0)), (1, .int ((0 : Int32)))]) rfl ?_
      exact hloop19 LF _ _ hlp19
    · refine G.iconst (v := 0) C dX6_restore_19 (by decide) ?_
      cases hf
      exact G.iret C rfl dX6_restore_20
  refine G.sub C [0] (lv' := [(0, .ref (a0))]) rfl ?_
  refine G.aload_n C 0 dX6_restore_0 rfl rfl ?_
  refine G.aload_n C 0 dX6_restore_1 rfl rfl ?_
  refine G.getI (ci := 5) (k := 4) C rfl inlX6 (by decide) m9_664 rfl hf dX6_restore_2 (fun v1 hv1 hf => ?_)
  try dsimp only at hf
  refine G.if_eq (tgt := 12) C dX6_restore_5 (by decide) hf (fun c2 hf => ?_) (fun c2 hf => ?_)
  · refine G.iconst (v := 1) C dX6_restore_12 (by decide) ?_
    refine G.sub C [0] (lv' := [(0, .ref (a0))]) rfl ?_
    exact hj13 _ _ _ hf
  · refine G.iconst (v := 0) C dX6_restore_8 (by decide) ?_
    refine G.goto (tgt := 13) C dX6_restore_9 (by decide) ?_
    refine G.sub C [0] (lv' := [(0, .ref (a0))]) rfl ?_
    exact hj13 _ _ _ hf
theorem ko_X6_place {h : PH} {a0 : Nat} {a1 : Int32} {a2 : Int32} {r : (Int32 × PH)} (hf : f_X6_place h a0 a1 a2 = some r) : kO h a0 5 := by
  unfold f_X6_place at hf
  exact okO_k (gd_ok hf).1
theorem kd_X6_place : yX6_place.cls = RX6 ∧ yX6_place.cls ≠ "java/lang/invoke/MethodHandle" ∧ yX6_place.cls ≠ "java/lang/invoke/VarHandle" ∧ (parseMethodDescriptor yX6_place.desc).map (fun d => d.parameters.length) = some 2 := by decide +kernel
set_option maxRecDepth 20000 in
set_option maxHeartbeats 4000000 in
theorem ct_X6_place {l : Launch} {h : PH} {a0 : Nat} {a1 : Int32} {a2 : Int32} {r : (Int32 × PH)} (hf : f_X6_place h a0 a1 a2 = some r) : CT l yX6_place cX6_place 3 (some .int) 4 91 [.ref (a0), .int (a1), .int (a2)] h (some (.int r.1)) r.2 := by
  refine CT.of (own := RX6) rfl (by decide) (Nat.le_of_ble_eq_true rfl) ?_
  intro p e R s m args below meth c g X hR C
  subst hR
  unfold f_X6_place at hf
  obtain ⟨hok, hf⟩ := gd_ok hf
  have hj50 : ∀ (hh : PH) (k0 : Int32), f_X6_place_J50 hh k0 = some r → G p l e ({ frames := 4, cells := 0, slots := 0, locals := 91 } : Room) s m args below meth c 3 g X h 0 0 (MQ below (QW g X h s.heap.size (some (.int r.1)) r.2) args s 0 0 (AF X h s.heap.size)) 50 [] [.int (k0)] hh := by
    intro hh k0 hf
    unfold f_X6_place_J50 at hf
    cases hf
    exact G.iret C rfl dX6_place_50
  have hj34 : ∀ (x0 : Nat) (x1 : Int32) (x2 : Int32) (k0 : Nat) (k1 : Int32), f_X6_place_J34 h (x0) (x1) (x2) k0 k1 = some r → G p l e ({ frames := 4, cells := 0, slots := 0, locals := 91 } : Room) s m args below meth c 3 g X h 0 0 (MQ below (QW g X h s.heap.size (some (.int r.1)) r.2) args s 0 0 (AF X h s.heap.size)) 34 [(0, .ref (x0)), (1, .int (x1)), (2, .int (x2))] [.int (k1), .ref (k0)] h := by
    intro x0 x1 x2 k0 k1 hf
    unfold f_X6_place_J34 at hf
    obtain ⟨⟨v10, h11⟩, hv10, hf⟩ := bind_some hf
    try dsimp only at hf
    refine G.callV C (st := []) (st2 := [.int (v10)]) (ct_X6_holds hv10) (ko_X6_holds hv10) rfl m9_162 m9_163 m9_164 m9_5 m9_165 kd_X6_holds ⟨Nat.le_of_ble_eq_true rfl, Nat.le_of_ble_eq_true rfl⟩ ⟨Nat.zero_le _, Nat.zero_le _⟩ (Nat.le_of_ble_eq_true rfl) rfl rfl dX6_place_34 ?_
    refine G.if_eq (tgt := 49) C dX6_place_37 (by decide) hf (fun c14 hf => ?_) (fun c14 hf => ?_)
    · refine G.iconst (v := 0) C dX6_place_49 (by decide) ?_
      refine G.sub C [] (lv' := []) rfl ?_
      exact hj50 _ _ hf
    · refine G.aload_n C 0 dX6_place_40 rfl rfl ?_
      refine G.iload_n C 1 dX6_place_41 rfl rfl ?_
      refine G.iload_n C 2 dX6_place_42 rfl rfl ?_
      obtain ⟨v13, hv13, hf⟩ := bind_some hf
      try dsimp only at hf
      refine G.callV C (st := []) (st2 := [.int (v13)]) (ct_X6_hueAt hv13) (ko_X6_hueAt hv13) rfl m9_299 m9_300 m9_301 m9_5 m9_302 kd_X6_hueAt ⟨Nat.le_of_ble_eq_true rfl, Nat.le_of_ble_eq_true rfl⟩ ⟨Nat.zero_le _, Nat.zero_le _⟩ (Nat.le_of_ble_eq_true rfl) rfl rfl dX6_place_43 ?_
      refine G.goto (tgt := 50) C dX6_place_46 (by decide) ?_
      refine G.sub C [] (lv' := []) rfl ?_
      exact hj50 _ _ hf
  have hj33 : ∀ (x0 : Nat) (x1 : Int32) (x2 : Int32) (k0 : Nat), f_X6_place_J33 h (x0) (x1) (x2) k0 = some r → G p l e ({ frames := 4, cells := 0, slots := 0, locals := 91 } : Room) s m args below meth c 3 g X h 0 0 (MQ below (QW g X h s.heap.size (some (.int r.1)) r.2) args s 0 0 (AF X h s.heap.size)) 33 [(0, .ref (x0)), (1, .int (x1)), (2, .int (x2))] [.ref (k0)] h := by
    intro x0 x1 x2 k0 hf
    unfold f_X6_place_J33 at hf
    refine G.iconst (v := 1) C dX6_place_33 (by decide) ?_
    refine G.sub C [0, 1, 2] (lv' := [(0, .ref (x0)), (1, .int (x1)), (2, .int (x2))]) rfl ?_
    exact hj34 _ _ _ _ _ hf
  refine G.sub C [0, 1, 2] (lv' := [(0, .ref (a0)), (1, .int (a1)), (2, .int (a2))]) rfl ?_
  refine G.aload_n C 0 dX6_place_0 rfl rfl ?_
  refine G.aload_n C 0 dX6_place_1 rfl rfl ?_
  refine G.iload_n C 1 dX6_place_2 rfl rfl ?_
  obtain ⟨v1, hv1, hf⟩ := bind_some hf
  try dsimp only at hf
  refine G.callV C (st := [.ref (a0)]) (st2 := [.int (v1), .ref (a0)]) (ct_X6_isRope hv1) (ko_X6_isRope hv1) rfl m9_242 m9_243 m9_244 m9_5 m9_245 kd_X6_isRope ⟨Nat.le_of_ble_eq_true rfl, Nat.le_of_ble_eq_true rfl⟩ ⟨Nat.zero_le _, Nat.zero_le _⟩ (Nat.le_of_ble_eq_true rfl) rfl rfl dX6_place_3 ?_
  refine G.if_eq (tgt := 33) C dX6_place_6 (by decide) hf (fun c7 hf => ?_) (fun c7 hf => ?_)
  · refine G.sub C [0, 1, 2] (lv' := [(0, .ref (a0)), (1, .int (a1)), (2, .int (a2))]) rfl ?_
    exact hj33 _ _ _ _ hf
  · refine G.iload_n C 2 dX6_place_9 rfl rfl ?_
    refine G.iconst (v := 0) C dX6_place_10 (by decide) ?_
    refine G.aload_n C 0 dX6_place_11 rfl rfl ?_
    refine G.getR (ci := 5) (k := 1) C rfl inlX6 (by decide) m9_70 rfl hf dX6_place_12 (fun v2 hv2 hf => ?_)
    try dsimp only at hf
    refine G.iload_n C 1 dX6_place_15 rfl rfl ?_
    refine G.iconst (v := 0) C dX6_place_16 (by decide) ?_
    obtain ⟨v3, hv3, hf⟩ := bind_some hf
    try dsimp only at hf
    refine G.callS C (st := [.ref (v2), .int ((0 : Int32)), .int (a2), .ref (a0)]) (st2 := [.int (v3), .ref (v2), .int ((0 : Int32)), .int (a2), .ref (a0)]) (ct_X6_of hv3) m9_159 m9_160 m9_5 m9_161 kd_X6_of ⟨Nat.le_of_ble_eq_true rfl, Nat.le_of_ble_eq_true rfl⟩ ⟨Nat.zero_le _, Nat.zero_le _⟩ (Nat.le_of_ble_eq_true rfl) rfl rfl dX6_place_17 ?_
    refine G.iald C hf dX6_place_20 (fun v4 hv4 hf => ?_)
    try dsimp only at hf
    refine G.iconst (v := 1) C dX6_place_21 (by decide) ?_
    refine G.isub C dX6_place_22 ?_
    obtain ⟨v5, hv5, hf⟩ := bind_some hf
    try dsimp only at hf
    refine G.callS C (st := [.ref (a0)]) (st2 := [.int (v5), .ref (a0)]) (ct_X6_in hv5) m9_144 m9_145 m9_5 m9_146 kd_X6_in ⟨Nat.le_of_ble_eq_true rfl, Nat.le_of_ble_eq_true rfl⟩ ⟨Nat.zero_le _, Nat.zero_le _⟩ (Nat.le_of_ble_eq_true rfl) rfl rfl dX6_place_23 ?_
    refine G.if_eq (tgt := 33) C dX6_place_26 (by decide) hf (fun c6 hf => ?_) (fun c6 hf => ?_)
    · refine G.sub C [0, 1, 2] (lv' := [(0, .ref (a0)), (1, .int (a1)), (2, .int (a2))]) rfl ?_
      exact hj33 _ _ _ _ hf
    · refine G.iconst (v := 0) C dX6_place_29 (by decide) ?_
      refine G.goto (tgt := 34) C dX6_place_30 (by decide) ?_
      refine G.sub C [0, 1, 2] (lv' := [(0, .ref (a0)), (1, .int (a1)), (2, .int (a2))]) rfl ?_
      exact hj34 _ _ _ _ _ hf
theorem ko_X6_holes {h : PH} {a0 : Nat} {a1 : Int32} {r : Int32} (hf : f_X6_holes h a0 a1 = some r) : kO h a0 5 := by
  unfold f_X6_holes at hf
  exact okO_k (gd_ok hf).1
theorem kd_X6_holes : yX6_holes.cls = RX6 ∧ yX6_holes.cls ≠ "java/lang/invoke/MethodHandle" ∧ yX6_holes.cls ≠ "java/lang/invoke/VarHandle" ∧ (parseMethodDescriptor yX6_holes.desc).map (fun d => d.parameters.length) = some 1 := by decide +kernel
set_option maxRecDepth 20000 in
set_option maxHeartbeats 4000000 in
theorem ct_X6_holes {l : Launch} {h : PH} {a0 : Nat} {a1 : Int32} {r : Int32} (hf : f_X6_holes h a0 a1 = some r) : CT l yX6_holes cX6_holes 4 (some .int) 4 91 [.ref (a0), .int (a1)] h (some (.int r)) h := by
  refine CT.of (own := RX6) rfl (by decide) (Nat.le_of_ble_eq_true rfl) ?_
  intro p e R s m args below meth c g X hR C
  subst hR
  unfold f_X6_holes at hf
  obtain ⟨hok, hf⟩ := gd_ok hf
  have hj42 : ∀ (x2 : Int32), f_X6_holes_J42 h (x2) = some r → G p l e ({ frames := 4, cells := 0, slots := 0, locals := 91 } : Room) s m args below meth c 4 g X h 0 0 (MQ below (QW g X h s.heap.size (some (.int r)) h) args s 0 0 (AF X h s.heap.size)) 42 [(2, .int (x2))] [] h := by
    intro x2 hf
    unfold f_X6_holes_J42 at hf
    refine G.iload_n C 0 dX6_holes_42 rfl rfl ?_
    cases hf
    exact G.iret C rfl dX6_holes_43
  refine G.sub C [0, 1] (lv' := [(0, .ref (a0)), (1, .int (a1))]) rfl ?_
  refine G.iconst (v := 0) C dX6_holes_0 (by decide) ?_
  refine G.istore_n (lv' := [(2, .int ((0 : Int32))), (0, .ref (a0)), (1, .int (a1))]) C dX6_holes_1 rfl (by decide) rfl ?_
  refine G.iconst (v := 0) C dX6_holes_2 (by decide) ?_
  refine G.istore_n (lv' := [(3, .int ((0 : Int32))), (2, .int ((0 : Int32))), (0, .ref (a0)), (1, .int (a1))]) C dX6_holes_3 rfl (by decide) rfl ?_
  obtain ⟨z1, hlp1, hfo1⟩ := bind_some hf
  clear hf
  have hloop1 : ∀ (k : Nat), ∀ (x2 : Int32) (x3 : Int32), (lpn (f_X6_holes_L4 (h) (a0) (a1)) k (x2, x3)) = some z1 → G p l e ({ frames := 4, cells := 0, slots := 0, locals := 91 } : Room) s m args below meth c 4 g X h 0 0 (MQ below (QW g X h s.heap.size (some (.int r)) h) args s 0 0 (AF X h s.heap.size)) 4 [(0, .ref (a0)), (1, .int (a1)), (2, .int (x2)), (3, .int (x3))] [] h := by
    intro k
    induction k with
    | zero => intro x2 x3 hlp1; exact (lpn_0 hlp1).elim
    | succ k ih1 =>
      intro x2 x3 hlp1
      obtain ⟨y1, hf, hlp1⟩ := lpn_s hlp1
      unfold f_X6_holes_L4 at hf
      try dsimp only at hf
      have hj34 : ∀ (x3 : Int32) (k0 : Int32) (k1 : Int32), f_X6_holes_J34 h (a0) (a1) (x3) k0 k1 = some y1 → G p l e ({ frames := 4, cells := 0, slots := 0, locals := 91 } : Room) s m args below meth c 4 g X h 0 0 (MQ below (QW g X h s.heap.size (some (.int r)) h) args s 0 0 (AF X h s.heap.size)) 34 [(0, .ref (a0)), (1, .int (a1)), (3, .int (x3))] [.int (k1), .int (k0)] h := by
        intro x3 k0 k1 hf
        unfold f_X6_holes_J34 at hf
        refine G.iadd C dX6_holes_34 ?_
        refine G.istore_n (lv' := [(2, .int ((k0 + k1))), (0, .ref (a0)), (1, .int (a1)), (3, .int (x3))]) C dX6_holes_35 rfl (by decide) rfl ?_
        refine G.iinc (k := 3) (v := (x3 + 1)) (lv' := [(3, .int ((x3 + 1))), (2, .int ((k0 + k1))), (0, .ref (a0)), (1, .int (a1))]) C dX6_holes_36 rfl rfl (by decide) rfl ?_
        refine G.goto (tgt := 4) C dX6_holes_39 (by decide) ?_
        cases hf
        refine G.sub C [2, 3, 1, 0] (lv' := [(0, .ref (a0)), (1, .int (a1)), (2, .int ((k0 + k1))), (3, .int ((x3 + 1)))]) rfl ?_
        exact ih1 _ _ hlp1
      refine G.iload_n C 3 dX6_holes_4 rfl rfl ?_
      refine G.aload_n C 0 dX6_holes_5 rfl rfl ?_
      refine G.getR (ci := 5) (k := 1) C rfl inlX6 (by decide) m9_70 rfl hf dX6_holes_6 (fun v2 hv2 hf => ?_)
      try dsimp only at hf
      refine G.iload_n C 1 dX6_holes_9 rfl rfl ?_
      refine G.iconst (v := 0) C dX6_holes_10 (by decide) ?_
      obtain ⟨v3, hv3, hf⟩ := bind_some hf
      try dsimp only at hf
      refine G.callS C (st := [.ref (v2), .int (x3)]) (st2 := [.int (v3), .ref (v2), .int (x3)]) (ct_X6_of hv3) m9_159 m9_160 m9_5 m9_161 kd_X6_of ⟨Nat.le_of_ble_eq_true rfl, Nat.le_of_ble_eq_true rfl⟩ ⟨Nat.zero_le _, Nat.zero_le _⟩ (Nat.le_of_ble_eq_true rfl) rfl rfl dX6_holes_11 ?_
      refine G.iald C hf dX6_holes_14 (fun v4 hv4 hf => ?_)
      try dsimp only at hf
      refine G.icmp_ge (tgt := 42) C dX6_holes_15 (by decide) hf (fun c7 hf => ?_) (fun c7 hf => ?_)
      · cases hf
        change some _ = some _ at hlp1
        have hf := hfo1
        try rw [← Option.some.inj hlp1] at hf
        try dsimp only at hf
        refine G.sub C [2] (lv' := [(2, .int (x2))]) rfl ?_
        exact hj42 _ hf
      · refine G.iload_n C 2 dX6_holes_18 rfl rfl ?_
        refine G.aload_n C 0 dX6_holes_19 rfl rfl ?_
        refine G.iload_n C 1 dX6_holes_20 rfl rfl ?_
        refine G.iload_n C 3 dX6_holes_21 rfl rfl ?_
        obtain ⟨v5, hv5, hf⟩ := bind_some hf
        try dsimp only at hf
        refine G.callV C (st := [.int (x2)]) (st2 := [.int (v5), .int (x2)]) (ct_X6_hueAt hv5) (ko_X6_hueAt hv5) rfl m9_299 m9_300 m9_301 m9_5 m9_302 kd_X6_hueAt ⟨Nat.le_of_ble_eq_true rfl, Nat.le_of_ble_eq_true rfl⟩ ⟨Nat.zero_le _, Nat.zero_le _⟩ (Nat.le_of_ble_eq_true rfl) rfl rfl dX6_holes_22 ?_
        refine G.iconst (v := (-1)) C dX6_holes_25 (by decide) ?_
        refine G.icmp_ne (tgt := 33) C dX6_holes_26 (by decide) hf (fun c6 hf => ?_) (fun c6 hf => ?_)
        · refine G.iconst (v := 0) C dX6_holes_33 (by decide) ?_
          refine G.sub C [0, 1, 3] (lv' := [(0, .ref (a0)), (1, .int (a1)), (3, .int (x3))]) rfl ?_
          exact hj34 _ _ _ hf
        · refine G.iconst (v := 1) C dX6_holes_29 (by decide) ?_
          refine G.goto (tgt := 34) C dX6_holes_30 (by decide) ?_
          refine G.sub C [0, 1, 3] (lv' := [(0, .ref (a0)), (1, .int (a1)), (3, .int (x3))]) rfl ?_
          exact hj34 _ _ _ hf
  refine G.sub C [2, 3, 1, 0] (lv' := [(0, .ref (a0)), (1, .int (a1)), (2, .int ((0 : Int32))), (3, .int ((0 : Int32)))]) rfl ?_
  exact hloop1 LF _ _ hlp1
theorem ko_X6_firstHole {h : PH} {a0 : Nat} {a1 : Int32} {r : Int32} (hf : f_X6_firstHole h a0 a1 = some r) : kO h a0 5 := by
  unfold f_X6_firstHole at hf
  exact okO_k (gd_ok hf).1
theorem kd_X6_firstHole : yX6_firstHole.cls = RX6 ∧ yX6_firstHole.cls ≠ "java/lang/invoke/MethodHandle" ∧ yX6_firstHole.cls ≠ "java/lang/invoke/VarHandle" ∧ (parseMethodDescriptor yX6_firstHole.desc).map (fun d => d.parameters.length) = some 1 := by decide +kernel
set_option maxRecDepth 20000 in
set_option maxHeartbeats 4000000 in
theorem ct_X6_firstHole {l : Launch} {h : PH} {a0 : Nat} {a1 : Int32} {r : Int32} (hf : f_X6_firstHole h a0 a1 = some r) : CT l yX6_firstHole cX6_firstHole 4 (some .int) 4 91 [.ref (a0), .int (a1)] h (some (.int r)) h := by
  refine CT.of (own := RX6) rfl (by decide) (Nat.le_of_ble_eq_true rfl) ?_
  intro p e R s m args below meth c g X hR C
  subst hR
  unfold f_X6_firstHole at hf
  obtain ⟨hok, hf⟩ := gd_ok hf
  have hj41 : ∀ (x2 : Int32), f_X6_firstHole_J41 h (x2) = some r → G p l e ({ frames := 4, cells := 0, slots := 0, locals := 91 } : Room) s m args below meth c 4 g X h 0 0 (MQ below (QW g X h s.heap.size (some (.int r)) h) args s 0 0 (AF X h s.heap.size)) 41 [(2, .int (x2))] [] h := by
    intro x2 hf
    unfold f_X6_firstHole_J41 at hf
    refine G.iload_n C 0 dX6_firstHole_41 rfl rfl ?_
    cases hf
    exact G.iret C rfl dX6_firstHole_42
  refine G.sub C [0, 1] (lv' := [(0, .ref (a0)), (1, .int (a1))]) rfl ?_
  refine G.iconst (v := (-1)) C dX6_firstHole_0 (by decide) ?_
  refine G.istore_n (lv' := [(2, .int (((-1) : Int32))), (0, .ref (a0)), (1, .int (a1))]) C dX6_firstHole_1 rfl (by decide) rfl ?_
  refine G.aload_n C 1 dX6_firstHole_2 rfl rfl ?_
  refine G.getR (ci := 5) (k := 1) C rfl inlX6 (by decide) m9_70 rfl hf dX6_firstHole_3 (fun v1 hv1 hf => ?_)
  try dsimp only at hf
  refine G.iload_n C 2 dX6_firstHole_6 rfl rfl ?_
  refine G.iconst (v := 0) C dX6_firstHole_7 (by decide) ?_
  obtain ⟨v2, hv2, hf⟩ := bind_some hf
  try dsimp only at hf
  refine G.callS C (st := [.ref (v1)]) (st2 := [.int (v2), .ref (v1)]) (ct_X6_of hv2) m9_159 m9_160 m9_5 m9_161 kd_X6_of ⟨Nat.le_of_ble_eq_true rfl, Nat.le_of_ble_eq_true rfl⟩ ⟨Nat.zero_le _, Nat.zero_le _⟩ (Nat.le_of_ble_eq_true rfl) rfl rfl dX6_firstHole_8 ?_
  refine G.iald C hf dX6_firstHole_11 (fun v3 hv3 hf => ?_)
  try dsimp only at hf
  refine G.iconst (v := 1) C dX6_firstHole_12 (by decide) ?_
  refine G.isub C dX6_firstHole_13 ?_
  refine G.istore_n (lv' := [(3, .int ((v3 - (1 : Int32)))), (2, .int (((-1) : Int32))), (0, .ref (a0)), (1, .int (a1))]) C dX6_firstHole_14 rfl (by decide) rfl ?_
  obtain ⟨z4, hlp4, hfo4⟩ := bind_some hf
  clear hf
  have hloop4 : ∀ (k : Nat), ∀ (x2 : Int32) (x3 : Int32), (lpn (f_X6_firstHole_L15 (h) (a0) (a1)) k (x2, x3)) = some z4 → G p l e ({ frames := 4, cells := 0, slots := 0, locals := 91 } : Room) s m args below meth c 4 g X h 0 0 (MQ below (QW g X h s.heap.size (some (.int r)) h) args s 0 0 (AF X h s.heap.size)) 15 [(0, .ref (a0)), (1, .int (a1)), (2, .int (x2)), (3, .int (x3))] [] h := by
    intro k
    induction k with
    | zero => intro x2 x3 hlp4; exact (lpn_0 hlp4).elim
    | succ k ih4 =>
      intro x2 x3 hlp4
      obtain ⟨y4, hf, hlp4⟩ := lpn_s hlp4
      unfold f_X6_firstHole_L15 at hf
      try dsimp only at hf
      have hj34 : ∀ (x3 : Int32) (k0 : Int32), f_X6_firstHole_J34 h (a0) (a1) (x3) k0 = some y4 → G p l e ({ frames := 4, cells := 0, slots := 0, locals := 91 } : Room) s m args below meth c 4 g X h 0 0 (MQ below (QW g X h s.heap.size (some (.int r)) h) args s 0 0 (AF X h s.heap.size)) 34 [(0, .ref (a0)), (1, .int (a1)), (3, .int (x3))] [.int (k0)] h := by
        intro x3 k0 hf
        unfold f_X6_firstHole_J34 at hf
        refine G.istore_n (lv' := [(2, .int (k0)), (0, .ref (a0)), (1, .int (a1)), (3, .int (x3))]) C dX6_firstHole_34 rfl (by decide) rfl ?_
        refine G.iinc (k := 3) (v := (x3 + (-1))) (lv' := [(3, .int ((x3 + (-1)))), (2, .int (k0)), (0, .ref (a0)), (1, .int (a1))]) C dX6_firstHole_35 rfl rfl (by decide) rfl ?_
        refine G.goto (tgt := 15) C dX6_firstHole_38 (by decide) ?_
        cases hf
        refine G.sub C [2, 3, 1, 0] (lv' := [(0, .ref (a0)), (1, .int (a1)), (2, .int (k0)), (3, .int ((x3 + (-1))))]) rfl ?_
        exact ih4 _ _ hlp4
      refine G.iload_n C 3 dX6_firstHole_15 rfl rfl ?_
      refine G.if_lt (tgt := 41) C dX6_firstHole_16 (by decide) hf (fun c7 hf => ?_) (fun c7 hf => ?_)
      · cases hf
        change some _ = some _ at hlp4
        have hf := hfo4
        try rw [← Option.some.inj hlp4] at hf
        try dsimp only at hf
        refine G.sub C [2] (lv' := [(2, .int (x2))]) rfl ?_
        exact hj41 _ hf
      · refine G.aload_n C 0 dX6_firstHole_19 rfl rfl ?_
        refine G.iload_n C 1 dX6_firstHole_20 rfl rfl ?_
        refine G.iload_n C 3 dX6_firstHole_21 rfl rfl ?_
        obtain ⟨v5, hv5, hf⟩ := bind_some hf
        try dsimp only at hf
        refine G.callV C (st := []) (st2 := [.int (v5)]) (ct_X6_hueAt hv5) (ko_X6_hueAt hv5) rfl m9_299 m9_300 m9_301 m9_5 m9_302 kd_X6_hueAt ⟨Nat.le_of_ble_eq_true rfl, Nat.le_of_ble_eq_true rfl⟩ ⟨Nat.zero_le _, Nat.zero_le _⟩ (Nat.le_of_ble_eq_true rfl) rfl rfl dX6_firstHole_22 ?_
        refine G.iconst (v := (-1)) C dX6_firstHole_25 (by decide) ?_
        refine G.icmp_ne (tgt := 33) C dX6_firstHole_26 (by decide) hf (fun c6 hf => ?_) (fun c6 hf => ?_)
        · refine G.iload_n C 2 dX6_firstHole_33 rfl rfl ?_
          refine G.sub C [0, 1, 3] (lv' := [(0, .ref (a0)), (1, .int (a1)), (3, .int (x3))]) rfl ?_
          exact hj34 _ _ hf
        · refine G.iload_n C 3 dX6_firstHole_29 rfl rfl ?_
          refine G.goto (tgt := 34) C dX6_firstHole_30 (by decide) ?_
          refine G.sub C [0, 1, 3] (lv' := [(0, .ref (a0)), (1, .int (a1)), (3, .int (x3))]) rfl ?_
          exact hj34 _ _ hf
  refine G.sub C [2, 3, 1, 0] (lv' := [(0, .ref (a0)), (1, .int (a1)), (2, .int (((-1) : Int32))), (3, .int ((v3 - (1 : Int32))))]) rfl ?_
  exact hloop4 LF _ _ hlp4
theorem ko_X6_holesSideBySide {h : PH} {a0 : Nat} {a1 : Int32} {r : Int32} (hf : f_X6_holesSideBySide h a0 a1 = some r) : kO h a0 5 := by
  unfold f_X6_holesSideBySide at hf
  exact okO_k (gd_ok hf).1
theorem kd_X6_holesSideBySide : yX6_holesSideBySide.cls = RX6 ∧ yX6_holesSideBySide.cls ≠ "java/lang/invoke/MethodHandle" ∧ yX6_holesSideBySide.cls ≠ "java/lang/invoke/VarHandle" ∧ (parseMethodDescriptor yX6_holesSideBySide.desc).map (fun d => d.parameters.length) = some 1 := by decide +kernel
set_option maxRecDepth 20000 in
set_option maxHeartbeats 4000000 in
theorem ct_X6_holesSideBySide {l : Launch} {h : PH} {a0 : Nat} {a1 : Int32} {r : Int32} (hf : f_X6_holesSideBySide h a0 a1 = some r) : CT l yX6_holesSideBySide cX6_holesSideBySide 5 (some .int) 4 91 [.ref (a0), .int (a1)] h (some (.int r)) h := by
  refine CT.of (own := RX6) rfl (by decide) (Nat.le_of_ble_eq_true rfl) ?_
  intro p e R s m args below meth c g X hR C
  subst hR
  unfold f_X6_holesSideBySide at hf
  obtain ⟨hok, hf⟩ := gd_ok hf
  have hj58 : ∀ (x2 : Int32), f_X6_holesSideBySide_J58 h (x2) = some r → G p l e ({ frames := 4, cells := 0, slots := 0, locals := 91 } : Room) s m args below meth c 5 g X h 0 0 (MQ below (QW g X h s.heap.size (some (.int r)) h) args s 0 0 (AF X h s.heap.size)) 58 [(2, .int (x2))] [] h := by
    intro x2 hf
    unfold f_X6_holesSideBySide_J58 at hf
    refine G.iload_n C 0 dX6_holesSideBySide_58 rfl rfl ?_
    cases hf
    exact G.iret C rfl dX6_holesSideBySide_59
  refine G.sub C [0, 1] (lv' := [(0, .ref (a0)), (1, .int (a1))]) rfl ?_
  refine G.iconst (v := 0) C dX6_holesSideBySide_0 (by decide) ?_
  refine G.istore_n (lv' := [(2, .int ((0 : Int32))), (0, .ref (a0)), (1, .int (a1))]) C dX6_holesSideBySide_1 rfl (by decide) rfl ?_
  refine G.iconst (v := 0) C dX6_holesSideBySide_2 (by decide) ?_
  refine G.istore_n (lv' := [(3, .int ((0 : Int32))), (2, .int ((0 : Int32))), (0, .ref (a0)), (1, .int (a1))]) C dX6_holesSideBySide_3 rfl (by decide) rfl ?_
  refine G.iconst (v := 0) C dX6_holesSideBySide_4 (by decide) ?_
  refine G.istore (lv' := [(4, .int ((0 : Int32))), (3, .int ((0 : Int32))), (2, .int ((0 : Int32))), (0, .ref (a0)), (1, .int (a1))]) C dX6_holesSideBySide_5 (by decide) rfl ?_
  obtain ⟨z1, hlp1, hfo1⟩ := bind_some hf
  clear hf
  have hloop1 : ∀ (k : Nat), ∀ (x2 : Int32) (x3 : Int32) (x4 : Int32), (lpn (f_X6_holesSideBySide_L7 (h) (a0) (a1)) k (x2, x3, x4)) = some z1 → G p l e ({ frames := 4, cells := 0, slots := 0, locals := 91 } : Room) s m args below meth c 5 g X h 0 0 (MQ below (QW g X h s.heap.size (some (.int r)) h) args s 0 0 (AF X h s.heap.size)) 7 [(0, .ref (a0)), (1, .int (a1)), (2, .int (x2)), (3, .int (x3)), (4, .int (x4))] [] h := by
    intro k
    induction k with
    | zero => intro x2 x3 x4 hlp1; exact (lpn_0 hlp1).elim
    | succ k ih1 =>
      intro x2 x3 x4 hlp1
      obtain ⟨y1, hf, hlp1⟩ := lpn_s hlp1
      unfold f_X6_holesSideBySide_L7 at hf
      try dsimp only at hf
      have hj51 : ∀ (x3 : Int32) (x4 : Int32) (k0 : Int32), f_X6_holesSideBySide_J51 h (a0) (a1) (x3) (x4) k0 = some y1 → G p l e ({ frames := 4, cells := 0, slots := 0, locals := 91 } : Room) s m args below meth c 5 g X h 0 0 (MQ below (QW g X h s.heap.size (some (.int r)) h) args s 0 0 (AF X h s.heap.size)) 51 [(0, .ref (a0)), (1, .int (a1)), (3, .int (x3)), (4, .int (x4))] [.int (k0)] h := by
        intro x3 x4 k0 hf
        unfold f_X6_holesSideBySide_J51 at hf
        refine G.istore_n (lv' := [(2, .int (k0)), (0, .ref (a0)), (1, .int (a1)), (3, .int (x3)), (4, .int (x4))]) C dX6_holesSideBySide_51 rfl (by decide) rfl ?_
        refine G.iinc (k := 4) (v := (x4 + 1)) (lv' := [(4, .int ((x4 + 1))), (2, .int (k0)), (0, .ref (a0)), (1, .int (a1)), (3, .int (x3))]) C dX6_holesSideBySide_52 rfl rfl (by decide) rfl ?_
        refine G.goto (tgt := 7) C dX6_holesSideBySide_55 (by decide) ?_
        cases hf
        refine G.sub C [2, 3, 1, 4, 0] (lv' := [(0, .ref (a0)), (1, .int (a1)), (2, .int (k0)), (3, .int (x3)), (4, .int ((x4 + 1)))]) rfl ?_
        exact ih1 _ _ _ hlp1
      have hj40 : ∀ (x2 : Int32) (x4 : Int32) (k0 : Int32), f_X6_holesSideBySide_J40 h (a0) (a1) (x2) (x4) k0 = some y1 → G p l e ({ frames := 4, cells := 0, slots := 0, locals := 91 } : Room) s m args below meth c 5 g X h 0 0 (MQ below (QW g X h s.heap.size (some (.int r)) h) args s 0 0 (AF X h s.heap.size)) 40 [(0, .ref (a0)), (1, .int (a1)), (2, .int (x2)), (4, .int (x4))] [.int (k0)] h := by
        intro x2 x4 k0 hf
        unfold f_X6_holesSideBySide_J40 at hf
        refine G.istore_n (lv' := [(3, .int (k0)), (0, .ref (a0)), (1, .int (a1)), (2, .int (x2)), (4, .int (x4))]) C dX6_holesSideBySide_40 rfl (by decide) rfl ?_
        refine G.iload_n C 0 dX6_holesSideBySide_41 rfl rfl ?_
        refine G.iload_n C 3 dX6_holesSideBySide_42 rfl rfl ?_
        refine G.icmp_le (tgt := 50) C dX6_holesSideBySide_43 (by decide) hf (fun c2 hf => ?_) (fun c2 hf => ?_)
        · refine G.iload_n C 3 dX6_holesSideBySide_50 rfl rfl ?_
          refine G.sub C [1, 2, 0, 4] (lv' := [(0, .ref (a0)), (1, .int (a1)), (3, .int (k0)), (4, .int (x4))]) rfl ?_
          exact hj51 _ _ _ hf
        · refine G.iload_n C 0 dX6_holesSideBySide_46 rfl rfl ?_
          refine G.goto (tgt := 51) C dX6_holesSideBySide_47 (by decide) ?_
          refine G.sub C [1, 2, 0, 4] (lv' := [(0, .ref (a0)), (1, .int (a1)), (3, .int (k0)), (4, .int (x4))]) rfl ?_
          exact hj51 _ _ _ hf
      refine G.iload C 4 dX6_holesSideBySide_7 rfl ?_
      refine G.aload_n C 0 dX6_holesSideBySide_9 rfl rfl ?_
      refine G.getR (ci := 5) (k := 1) C rfl inlX6 (by decide) m9_70 rfl hf dX6_holesSideBySide_10 (fun v3 hv3 hf => ?_)
      try dsimp only at hf
      refine G.iload_n C 1 dX6_holesSideBySide_13 rfl rfl ?_
      refine G.iconst (v := 0) C dX6_holesSideBySide_14 (by decide) ?_
      obtain ⟨v4, hv4, hf⟩ := bind_some hf
      try dsimp only at hf
      refine G.callS C (st := [.ref (v3), .int (x4)]) (st2 := [.int (v4), .ref (v3), .int (x4)]) (ct_X6_of hv4) m9_159 m9_160 m9_5 m9_161 kd_X6_of ⟨Nat.le_of_ble_eq_true rfl, Nat.le_of_ble_eq_true rfl⟩ ⟨Nat.zero_le _, Nat.zero_le _⟩ (Nat.le_of_ble_eq_true rfl) rfl rfl dX6_holesSideBySide_15 ?_
      refine G.iald C hf dX6_holesSideBySide_18 (fun v5 hv5 hf => ?_)
      try dsimp only at hf
      refine G.icmp_ge (tgt := 58) C dX6_holesSideBySide_19 (by decide) hf (fun c8 hf => ?_) (fun c8 hf => ?_)
      · cases hf
        change some _ = some _ at hlp1
        have hf := hfo1
        try rw [← Option.some.inj hlp1] at hf
        try dsimp only at hf
        refine G.sub C [2] (lv' := [(2, .int (x2))]) rfl ?_
        exact hj58 _ hf
      · refine G.aload_n C 0 dX6_holesSideBySide_22 rfl rfl ?_
        refine G.iload_n C 1 dX6_holesSideBySide_23 rfl rfl ?_
        refine G.iload C 4 dX6_holesSideBySide_24 rfl ?_
        obtain ⟨v6, hv6, hf⟩ := bind_some hf
        try dsimp only at hf
        refine G.callV C (st := []) (st2 := [.int (v6)]) (ct_X6_hueAt hv6) (ko_X6_hueAt hv6) rfl m9_299 m9_300 m9_301 m9_5 m9_302 kd_X6_hueAt ⟨Nat.le_of_ble_eq_true rfl, Nat.le_of_ble_eq_true rfl⟩ ⟨Nat.zero_le _, Nat.zero_le _⟩ (Nat.le_of_ble_eq_true rfl) rfl rfl dX6_holesSideBySide_26 ?_
        refine G.iconst (v := (-1)) C dX6_holesSideBySide_29 (by decide) ?_
        refine G.icmp_ne (tgt := 39) C dX6_holesSideBySide_30 (by decide) hf (fun c7 hf => ?_) (fun c7 hf => ?_)
        · refine G.iconst (v := 0) C dX6_holesSideBySide_39 (by decide) ?_
          refine G.sub C [0, 1, 2, 4] (lv' := [(0, .ref (a0)), (1, .int (a1)), (2, .int (x2)), (4, .int (x4))]) rfl ?_
          exact hj40 _ _ _ hf
        · refine G.iload_n C 3 dX6_holesSideBySide_33 rfl rfl ?_
          refine G.iconst (v := 1) C dX6_holesSideBySide_34 (by decide) ?_
          refine G.iadd C dX6_holesSideBySide_35 ?_
          refine G.goto (tgt := 40) C dX6_holesSideBySide_36 (by decide) ?_
          refine G.sub C [0, 1, 2, 4] (lv' := [(0, .ref (a0)), (1, .int (a1)), (2, .int (x2)), (4, .int (x4))]) rfl ?_
          exact hj40 _ _ _ hf
  refine G.sub C [3, 4, 2, 1, 0] (lv' := [(0, .ref (a0)), (1, .int (a1)), (2, .int ((0 : Int32))), (3, .int ((0 : Int32))), (4, .int ((0 : Int32)))]) rfl ?_
  exact hloop1 LF _ _ _ hlp1
theorem kd_X6_divisor : yX6_divisor.cls ≠ "java/lang/invoke/MethodHandle" ∧ yX6_divisor.cls ≠ "java/lang/invoke/VarHandle" ∧ (parseMethodDescriptor yX6_divisor.desc).map (fun d => d.parameters.length) = some 2 := by decide +kernel
set_option maxRecDepth 20000 in
set_option maxHeartbeats 4000000 in
theorem ct_X6_divisor {l : Launch} {h : PH} {a0 : Int32} {a1 : Int32} {r : Int32} (hf : f_X6_divisor h a0 a1 = some r) : CT l yX6_divisor cX6_divisor 5 (some .int) 0 0 [.int (a0), .int (a1)] h (some (.int r)) h := by
  refine CT.of (own := RX6) rfl (by decide) (Nat.le_of_ble_eq_true rfl) ?_
  intro p e R s m args below meth c g X hR C
  subst hR
  unfold f_X6_divisor at hf
  have hj21 : ∀ (x2 : Int32), f_X6_divisor_J21 h (x2) = some r → G p l e ({ frames := 0, cells := 0, slots := 0, locals := 0 } : Room) s m args below meth c 5 g X h 0 0 (MQ below (QW g X h s.heap.size (some (.int r)) h) args s 0 0 (AF X h s.heap.size)) 21 [(2, .int (x2))] [] h := by
    intro x2 hf
    unfold f_X6_divisor_J21 at hf
    refine G.iload_n C 0 dX6_divisor_21 rfl rfl ?_
    cases hf
    exact G.iret C rfl dX6_divisor_22
  refine G.sub C [0, 1] (lv' := [(0, .int (a0)), (1, .int (a1))]) rfl ?_
  refine G.iload_n C 0 dX6_divisor_0 rfl rfl ?_
  refine G.istore_n (lv' := [(2, .int (a0)), (0, .int (a0)), (1, .int (a1))]) C dX6_divisor_1 rfl (by decide) rfl ?_
  refine G.iload_n C 2 dX6_divisor_2 rfl rfl ?_
  refine G.istore_n (lv' := [(3, .int (a1)), (2, .int (a0)), (0, .int (a0)), (1, .int (a1))]) C dX6_divisor_3 rfl (by decide) rfl ?_
  obtain ⟨z1, hlp1, hfo1⟩ := bind_some hf
  clear hf
  have hloop1 : ∀ (k : Nat), ∀ (x2 : Int32) (x3 : Int32), (lpn (f_X6_divisor_L4 (h)) k (x2, x3)) = some z1 → G p l e ({ frames := 0, cells := 0, slots := 0, locals := 0 } : Room) s m args below meth c 5 g X h 0 0 (MQ below (QW g X h s.heap.size (some (.int r)) h) args s 0 0 (AF X h s.heap.size)) 4 [(2, .int (x2)), (3, .int (x3))] [] h := by
    intro k
    induction k with
    | zero => intro x2 x3 hlp1; exact (lpn_0 hlp1).elim
    | succ k ih1 =>
      intro x2 x3 hlp1
      obtain ⟨y1, hf, hlp1⟩ := lpn_s hlp1
      unfold f_X6_divisor_L4 at hf
      try dsimp only at hf
      refine G.iload_n C 1 dX6_divisor_4 rfl rfl ?_
      refine G.if_le (tgt := 21) C dX6_divisor_5 (by decide) hf (fun c3 hf => ?_) (fun c3 hf => ?_)
      · cases hf
        change some _ = some _ at hlp1
        have hf := hfo1
        try rw [← Option.some.inj hlp1] at hf
        try dsimp only at hf
        refine G.sub C [0] (lv' := [(2, .int (x2))]) rfl ?_
        exact hj21 _ hf
      · refine G.iload_n C 0 dX6_divisor_8 rfl rfl ?_
        refine G.iload_n C 1 dX6_divisor_9 rfl rfl ?_
        obtain ⟨c2, hf⟩ := gd_ok hf
        refine G.irem C dX6_divisor_10 c2 ?_
        refine G.istore (lv' := [(4, .int ((x2 - x2 / x3 * x3))), (2, .int (x2)), (3, .int (x3))]) C dX6_divisor_11 (by decide) rfl ?_
        refine G.iload_n C 2 dX6_divisor_13 rfl rfl ?_
        refine G.istore_n (lv' := [(2, .int (x3)), (4, .int ((x2 - x2 / x3 * x3))), (3, .int (x3))]) C dX6_divisor_14 rfl (by decide) rfl ?_
        refine G.iload C 1 dX6_divisor_15 rfl ?_
        refine G.istore_n (lv' := [(3, .int ((x2 - x2 / x3 * x3))), (2, .int (x3)), (4, .int ((x2 - x2 / x3 * x3)))]) C dX6_divisor_17 rfl (by decide) rfl ?_
        refine G.goto (tgt := 4) C dX6_divisor_18 (by decide) ?_
        cases hf
        refine G.sub C [1, 0] (lv' := [(2, .int (x3)), (3, .int ((x2 - x2 / x3 * x3)))]) rfl ?_
        exact ih1 _ _ hlp1
  refine G.sub C [1, 0] (lv' := [(2, .int (a0)), (3, .int (a1))]) rfl ?_
  exact hloop1 LF _ _ hlp1
theorem ko_X6_period {h : PH} {a0 : Nat} {a1 : Int32} {r : Int32} (hf : f_X6_period h a0 a1 = some r) : kO h a0 5 := by
  unfold f_X6_period at hf
  exact okO_k (gd_ok hf).1
theorem kd_X6_period : yX6_period.cls = RX6 ∧ yX6_period.cls ≠ "java/lang/invoke/MethodHandle" ∧ yX6_period.cls ≠ "java/lang/invoke/VarHandle" ∧ (parseMethodDescriptor yX6_period.desc).map (fun d => d.parameters.length) = some 1 := by decide +kernel
set_option maxRecDepth 20000 in
set_option maxHeartbeats 4000000 in
theorem ct_X6_period {l : Launch} {h : PH} {a0 : Nat} {a1 : Int32} {r : Int32} (hf : f_X6_period h a0 a1 = some r) : CT l yX6_period cX6_period 4 (some .int) 3 65 [.ref (a0), .int (a1)] h (some (.int r)) h := by
  refine CT.of (own := RX6) rfl (by decide) (Nat.le_of_ble_eq_true rfl) ?_
  intro p e R s m args below meth c g X hR C
  subst hR
  unfold f_X6_period at hf
  obtain ⟨hok, hf⟩ := gd_ok hf
  have hj53 : ∀ (x2 : Int32), f_X6_period_J53 h (x2) = some r → G p l e ({ frames := 3, cells := 0, slots := 0, locals := 65 } : Room) s m args below meth c 4 g X h 0 0 (MQ below (QW g X h s.heap.size (some (.int r)) h) args s 0 0 (AF X h s.heap.size)) 53 [(2, .int (x2))] [] h := by
    intro x2 hf
    unfold f_X6_period_J53 at hf
    refine G.iload_n C 0 dX6_period_53 rfl rfl ?_
    cases hf
    exact G.iret C rfl dX6_period_54
  refine G.sub C [0, 1] (lv' := [(0, .ref (a0)), (1, .int (a1))]) rfl ?_
  refine G.iconst (v := 1) C dX6_period_0 (by decide) ?_
  refine G.istore_n (lv' := [(2, .int ((1 : Int32))), (0, .ref (a0)), (1, .int (a1))]) C dX6_period_1 rfl (by decide) rfl ?_
  refine G.iconst (v := 0) C dX6_period_2 (by decide) ?_
  refine G.istore_n (lv' := [(3, .int ((0 : Int32))), (2, .int ((1 : Int32))), (0, .ref (a0)), (1, .int (a1))]) C dX6_period_3 rfl (by decide) rfl ?_
  obtain ⟨z1, hlp1, hfo1⟩ := bind_some hf
  clear hf
  have hloop1 : ∀ (k : Nat), ∀ (x2 : Int32) (x3 : Int32), (lpn (f_X6_period_L4 (h) (a0) (a1)) k (x2, x3)) = some z1 → G p l e ({ frames := 3, cells := 0, slots := 0, locals := 65 } : Room) s m args below meth c 4 g X h 0 0 (MQ below (QW g X h s.heap.size (some (.int r)) h) args s 0 0 (AF X h s.heap.size)) 4 [(0, .ref (a0)), (1, .int (a1)), (2, .int (x2)), (3, .int (x3))] [] h := by
    intro k
    induction k with
    | zero => intro x2 x3 hlp1; exact (lpn_0 hlp1).elim
    | succ k ih1 =>
      intro x2 x3 hlp1
      obtain ⟨y1, hf, hlp1⟩ := lpn_s hlp1
      unfold f_X6_period_L4 at hf
      try dsimp only at hf
      have hj46 : ∀ (x3 : Int32) (k0 : Int32), f_X6_period_J46 h (a0) (a1) (x3) k0 = some y1 → G p l e ({ frames := 3, cells := 0, slots := 0, locals := 65 } : Room) s m args below meth c 4 g X h 0 0 (MQ below (QW g X h s.heap.size (some (.int r)) h) args s 0 0 (AF X h s.heap.size)) 46 [(0, .ref (a0)), (1, .int (a1)), (3, .int (x3))] [.int (k0)] h := by
        intro x3 k0 hf
        unfold f_X6_period_J46 at hf
        refine G.istore_n (lv' := [(2, .int (k0)), (0, .ref (a0)), (1, .int (a1)), (3, .int (x3))]) C dX6_period_46 rfl (by decide) rfl ?_
        refine G.iinc (k := 3) (v := (x3 + 1)) (lv' := [(3, .int ((x3 + 1))), (2, .int (k0)), (0, .ref (a0)), (1, .int (a1))]) C dX6_period_47 rfl rfl (by decide) rfl ?_
        refine G.goto (tgt := 4) C dX6_period_50 (by decide) ?_
        cases hf
        refine G.sub C [2, 3, 1, 0] (lv' := [(0, .ref (a0)), (1, .int (a1)), (2, .int (k0)), (3, .int ((x3 + 1)))]) rfl ?_
        exact ih1 _ _ hlp1
      refine G.iload_n C 3 dX6_period_4 rfl rfl ?_
      refine G.bipush (v := 8) C dX6_period_5 (by decide) ?_
      refine G.icmp_ge (tgt := 53) C dX6_period_7 (by decide) hf (fun c10 hf => ?_) (fun c10 hf => ?_)
      · cases hf
        change some _ = some _ at hlp1
        have hf := hfo1
        try rw [← Option.some.inj hlp1] at hf
        try dsimp only at hf
        refine G.sub C [2] (lv' := [(2, .int (x2))]) rfl ?_
        exact hj53 _ hf
      · refine G.aload_n C 0 dX6_period_10 rfl rfl ?_
        refine G.iload_n C 1 dX6_period_11 rfl rfl ?_
        refine G.iload_n C 3 dX6_period_12 rfl rfl ?_
        obtain ⟨v2, hv2, hf⟩ := bind_some hf
        try dsimp only at hf
        refine G.callV C (st := []) (st2 := [.int (v2)]) (ct_X6_isLaid hv2) (ko_X6_isLaid hv2) rfl m9_151 m9_152 m9_153 m9_5 m9_154 kd_X6_isLaid ⟨Nat.le_of_ble_eq_true rfl, Nat.le_of_ble_eq_true rfl⟩ ⟨Nat.zero_le _, Nat.zero_le _⟩ (Nat.le_of_ble_eq_true rfl) rfl rfl dX6_period_13 ?_
        refine G.if_eq (tgt := 45) C dX6_period_16 (by decide) hf (fun c9 hf => ?_) (fun c9 hf => ?_)
        · refine G.iload_n C 2 dX6_period_45 rfl rfl ?_
          refine G.sub C [0, 1, 3] (lv' := [(0, .ref (a0)), (1, .int (a1)), (3, .int (x3))]) rfl ?_
          exact hj46 _ _ hf
        · refine G.iload_n C 2 dX6_period_19 rfl rfl ?_
          refine G.iload_n C 2 dX6_period_20 rfl rfl ?_
          refine G.aload_n C 0 dX6_period_21 rfl rfl ?_
          refine G.getR (ci := 5) (k := 1) C rfl inlX6 (by decide) m9_70 rfl hf dX6_period_22 (fun v3 hv3 hf => ?_)
          try dsimp only at hf
          refine G.iconst (v := 0) C dX6_period_25 (by decide) ?_
          refine G.iload_n C 3 dX6_period_26 rfl rfl ?_
          refine G.iadd C dX6_period_27 ?_
          refine G.iald C hf dX6_period_28 (fun v4 hv4 hf => ?_)
          try dsimp only at hf
          obtain ⟨v5, hv5, hf⟩ := bind_some hf
          try dsimp only at hf
          refine G.callS C (st := [.int (x2)]) (st2 := [.int (v5), .int (x2)]) (ct_X6_divisor hv5) m9_742 m9_743 m9_5 m9_744 kd_X6_divisor ⟨Nat.le_of_ble_eq_true rfl, Nat.le_of_ble_eq_true rfl⟩ ⟨Nat.zero_le _, Nat.zero_le _⟩ (Nat.le_of_ble_eq_true rfl) rfl rfl dX6_period_29 ?_
          obtain ⟨c6, hf⟩ := gd_ok hf
          refine G.idiv C dX6_period_32 c6 ?_
          refine G.aload_n C 0 dX6_period_33 rfl rfl ?_
          refine G.getR (ci := 5) (k := 1) C rfl inlX6 (by decide) m9_70 rfl hf dX6_period_34 (fun v7 hv7 hf => ?_)
          try dsimp only at hf
          refine G.iconst (v := 0) C dX6_period_37 (by decide) ?_
          refine G.iload_n C 3 dX6_period_38 rfl rfl ?_
          refine G.iadd C dX6_period_39 ?_
          refine G.iald C hf dX6_period_40 (fun v8 hv8 hf => ?_)
          try dsimp only at hf
          refine G.imul C dX6_period_41 ?_
          refine G.goto (tgt := 46) C dX6_period_42 (by decide) ?_
          refine G.sub C [0, 1, 3] (lv' := [(0, .ref (a0)), (1, .int (a1)), (3, .int (x3))]) rfl ?_
          exact hj46 _ _ hf
  refine G.sub C [2, 3, 1, 0] (lv' := [(0, .ref (a0)), (1, .int (a1)), (2, .int ((1 : Int32))), (3, .int ((0 : Int32)))]) rfl ?_
  exact hloop1 LF _ _ hlp1
theorem ko_X6_toldOfRope {h : PH} {a0 : Nat} {a1 : Int32} {a2 : Int32} {r : Int32} (hf : f_X6_toldOfRope h a0 a1 a2 = some r) : kO h a0 5 := by
  unfold f_X6_toldOfRope at hf
  exact okO_k (gd_ok hf).1
theorem kd_X6_toldOfRope : yX6_toldOfRope.cls = RX6 ∧ yX6_toldOfRope.cls ≠ "java/lang/invoke/MethodHandle" ∧ yX6_toldOfRope.cls ≠ "java/lang/invoke/VarHandle" ∧ (parseMethodDescriptor yX6_toldOfRope.desc).map (fun d => d.parameters.length) = some 2 := by decide +kernel
set_option maxRecDepth 20000 in
set_option maxHeartbeats 4000000 in
theorem ct_X6_toldOfRope {l : Launch} {h : PH} {a0 : Nat} {a1 : Int32} {a2 : Int32} {r : Int32} (hf : f_X6_toldOfRope h a0 a1 a2 = some r) : CT l yX6_toldOfRope cX6_toldOfRope 3 (some .int) 5 115 [.ref (a0), .int (a1), .int (a2)] h (some (.int r)) h := by
  refine CT.of (own := RX6) rfl (by decide) (Nat.le_of_ble_eq_true rfl) ?_
  intro p e R s m args below meth c g X hR C
  subst hR
  unfold f_X6_toldOfRope at hf
  obtain ⟨hok, hf⟩ := gd_ok hf
  refine G.sub C [0, 1, 2] (lv' := [(0, .ref (a0)), (1, .int (a1)), (2, .int (a2))]) rfl ?_
  refine G.iload_n C 2 dX6_toldOfRope_0 rfl rfl ?_
  by_cases c1 : a2 = 0
  · rw [if_pos c1] at hf
    refine G.tswIn (tgt := 36) (off := 35) C c1 dX6_toldOfRope_1 (by decide) (by decide) rfl (by decide) ?_
    refine G.aload_n C 0 dX6_toldOfRope_36 rfl rfl ?_
    refine G.getR (ci := 5) (k := 1) C rfl inlX6 (by decide) m9_70 rfl hf dX6_toldOfRope_37 (fun v2 hv2 hf => ?_)
    try dsimp only at hf
    refine G.iload_n C 1 dX6_toldOfRope_40 rfl rfl ?_
    refine G.iload_n C 2 dX6_toldOfRope_41 rfl rfl ?_
    obtain ⟨v3, hv3, hf⟩ := bind_some hf
    try dsimp only at hf
    refine G.callS C (st := [.ref (v2)]) (st2 := [.int (v3), .ref (v2)]) (ct_X6_of hv3) m9_159 m9_160 m9_5 m9_161 kd_X6_of ⟨Nat.le_of_ble_eq_true rfl, Nat.le_of_ble_eq_true rfl⟩ ⟨Nat.zero_le _, Nat.zero_le _⟩ (Nat.le_of_ble_eq_true rfl) rfl rfl dX6_toldOfRope_42 ?_
    refine G.iald C hf dX6_toldOfRope_45 (fun v4 hv4 hf => ?_)
    try dsimp only at hf
    cases hf
    exact G.iret C rfl dX6_toldOfRope_46
  · rw [if_neg c1] at hf
    by_cases c5 : a2 = 1
    · rw [if_pos c5] at hf
      refine G.tswIn (tgt := 36) (off := 35) C c5 dX6_toldOfRope_1 (by decide) (by decide) rfl (by decide) ?_
      refine G.aload_n C 0 dX6_toldOfRope_36 rfl rfl ?_
      refine G.getR (ci := 5) (k := 1) C rfl inlX6 (by decide) m9_70 rfl hf dX6_toldOfRope_37 (fun v6 hv6 hf => ?_)
      try dsimp only at hf
      refine G.iload_n C 1 dX6_toldOfRope_40 rfl rfl ?_
      refine G.iload_n C 2 dX6_toldOfRope_41 rfl rfl ?_
      obtain ⟨v7, hv7, hf⟩ := bind_some hf
      try dsimp only at hf
      refine G.callS C (st := [.ref (v6)]) (st2 := [.int (v7), .ref (v6)]) (ct_X6_of hv7) m9_159 m9_160 m9_5 m9_161 kd_X6_of ⟨Nat.le_of_ble_eq_true rfl, Nat.le_of_ble_eq_true rfl⟩ ⟨Nat.zero_le _, Nat.zero_le _⟩ (Nat.le_of_ble_eq_true rfl) rfl rfl dX6_toldOfRope_42 ?_
      refine G.iald C hf dX6_toldOfRope_45 (fun v8 hv8 hf => ?_)
      try dsimp only at hf
      cases hf
      exact G.iret C rfl dX6_toldOfRope_46
    · rw [if_neg c5] at hf
      by_cases c9 : a2 = 2
      · rw [if_pos c9] at hf
        refine G.tswIn (tgt := 47) (off := 46) C c9 dX6_toldOfRope_1 (by decide) (by decide) rfl (by decide) ?_
        refine G.aload_n C 0 dX6_toldOfRope_47 rfl rfl ?_
        refine G.iload_n C 1 dX6_toldOfRope_48 rfl rfl ?_
        obtain ⟨v10, hv10, hf⟩ := bind_some hf
        try dsimp only at hf
        refine G.callV C (st := []) (st2 := [.int (v10)]) (ct_X6_holes hv10) (ko_X6_holes hv10) rfl m9_726 m9_727 m9_728 m9_5 m9_729 kd_X6_holes ⟨Nat.le_of_ble_eq_true rfl, Nat.le_of_ble_eq_true rfl⟩ ⟨Nat.zero_le _, Nat.zero_le _⟩ (Nat.le_of_ble_eq_true rfl) rfl rfl dX6_toldOfRope_49 ?_
        cases hf
        exact G.iret C rfl dX6_toldOfRope_52
      · rw [if_neg c9] at hf
        by_cases c11 : a2 = 3
        · rw [if_pos c11] at hf
          refine G.tswIn (tgt := 53) (off := 52) C c11 dX6_toldOfRope_1 (by decide) (by decide) rfl (by decide) ?_
          refine G.aload_n C 0 dX6_toldOfRope_53 rfl rfl ?_
          refine G.iload_n C 1 dX6_toldOfRope_54 rfl rfl ?_
          obtain ⟨v12, hv12, hf⟩ := bind_some hf
          try dsimp only at hf
          refine G.callV C (st := []) (st2 := [.int (v12)]) (ct_X6_firstHole hv12) (ko_X6_firstHole hv12) rfl m9_730 m9_731 m9_732 m9_5 m9_733 kd_X6_firstHole ⟨Nat.le_of_ble_eq_true rfl, Nat.le_of_ble_eq_true rfl⟩ ⟨Nat.zero_le _, Nat.zero_le _⟩ (Nat.le_of_ble_eq_true rfl) rfl rfl dX6_toldOfRope_55 ?_
          cases hf
          exact G.iret C rfl dX6_toldOfRope_58
        · rw [if_neg c11] at hf
          by_cases c13 : a2 = 4
          · rw [if_pos c13] at hf
            refine G.tswIn (tgt := 59) (off := 58) C c13 dX6_toldOfRope_1 (by decide) (by decide) rfl (by decide) ?_
            refine G.aload_n C 0 dX6_toldOfRope_59 rfl rfl ?_
            refine G.iload_n C 1 dX6_toldOfRope_60 rfl rfl ?_
            obtain ⟨v14, hv14, hf⟩ := bind_some hf
            try dsimp only at hf
            refine G.callV C (st := []) (st2 := [.int (v14)]) (ct_X6_holesSideBySide hv14) (ko_X6_holesSideBySide hv14) rfl m9_734 m9_735 m9_736 m9_5 m9_737 kd_X6_holesSideBySide ⟨Nat.le_of_ble_eq_true rfl, Nat.le_of_ble_eq_true rfl⟩ ⟨Nat.zero_le _, Nat.zero_le _⟩ (Nat.le_of_ble_eq_true rfl) rfl rfl dX6_toldOfRope_61 ?_
            cases hf
            exact G.iret C rfl dX6_toldOfRope_64
          · rw [if_neg c13] at hf
            refine G.tswOut (tgt := 65) C dX6_toldOfRope_1 (by have q0 := lv_neT (a := 0) c1 (by decide); have q1 := lv_neT (a := 1) c5 (by decide); have q2 := lv_neT (a := 2) c9 (by decide); have q3 := lv_neT (a := 3) c11 (by decide); have q4 := lv_neT (a := 4) c13 (by decide); omega) (by decide) ?_
            refine G.aload_n C 0 dX6_toldOfRope_65 rfl rfl ?_
            refine G.iload_n C 1 dX6_toldOfRope_66 rfl rfl ?_
            obtain ⟨v15, hv15, hf⟩ := bind_some hf
            try dsimp only at hf
            refine G.callV C (st := []) (st2 := [.int (v15)]) (ct_X6_period hv15) (ko_X6_period hv15) rfl m9_738 m9_739 m9_740 m9_5 m9_741 kd_X6_period ⟨Nat.le_of_ble_eq_true rfl, Nat.le_of_ble_eq_true rfl⟩ ⟨Nat.zero_le _, Nat.zero_le _⟩ (Nat.le_of_ble_eq_true rfl) rfl rfl dX6_toldOfRope_67 ?_
            cases hf
            exact G.iret C rfl dX6_toldOfRope_70
theorem ko_X6_ropeOf {h : PH} {a0 : Nat} {a1 : Int32} {a2 : Int32} {r : (Int32 × PH)} (hf : f_X6_ropeOf h a0 a1 a2 = some r) : kO h a0 5 := by
  unfold f_X6_ropeOf at hf
  exact okO_k (gd_ok hf).1
theorem kd_X6_ropeOf : yX6_ropeOf.cls = RX6 ∧ yX6_ropeOf.cls ≠ "java/lang/invoke/MethodHandle" ∧ yX6_ropeOf.cls ≠ "java/lang/invoke/VarHandle" ∧ (parseMethodDescriptor yX6_ropeOf.desc).map (fun d => d.parameters.length) = some 2 := by decide +kernel
set_option maxRecDepth 20000 in
set_option maxHeartbeats 4000000 in
theorem ct_X6_ropeOf {l : Launch} {h : PH} {a0 : Nat} {a1 : Int32} {a2 : Int32} {r : (Int32 × PH)} (hf : f_X6_ropeOf h a0 a1 a2 = some r) : CT l yX6_ropeOf cX6_ropeOf 3 (some .int) 6 137 [.ref (a0), .int (a1), .int (a2)] h (some (.int r.1)) r.2 := by
  refine CT.of (own := RX6) rfl (by decide) (Nat.le_of_ble_eq_true rfl) ?_
  intro p e R s m args below meth c g X hR C
  subst hR
  unfold f_X6_ropeOf at hf
  obtain ⟨hok, hf⟩ := gd_ok hf
  have hj43 : ∀ (hh : PH) (k0 : Int32), f_X6_ropeOf_J43 hh k0 = some r → G p l e ({ frames := 6, cells := 0, slots := 0, locals := 137 } : Room) s m args below meth c 3 g X h 0 0 (MQ below (QW g X h s.heap.size (some (.int r.1)) r.2) args s 0 0 (AF X h s.heap.size)) 43 [] [.int (k0)] hh := by
    intro hh k0 hf
    unfold f_X6_ropeOf_J43 at hf
    cases hf
    exact G.iret C rfl dX6_ropeOf_43
  have hj27 : ∀ (x0 : Nat) (x1 : Int32) (x2 : Int32) (k0 : Nat) (k1 : Int32), f_X6_ropeOf_J27 h (x0) (x1) (x2) k0 k1 = some r → G p l e ({ frames := 6, cells := 0, slots := 0, locals := 137 } : Room) s m args below meth c 3 g X h 0 0 (MQ below (QW g X h s.heap.size (some (.int r.1)) r.2) args s 0 0 (AF X h s.heap.size)) 27 [(0, .ref (x0)), (1, .int (x1)), (2, .int (x2))] [.int (k1), .ref (k0)] h := by
    intro x0 x1 x2 k0 k1 hf
    unfold f_X6_ropeOf_J27 at hf
    obtain ⟨⟨v7, h8⟩, hv7, hf⟩ := bind_some hf
    try dsimp only at hf
    refine G.callV C (st := []) (st2 := [.int (v7)]) (ct_X6_holds hv7) (ko_X6_holds hv7) rfl m9_162 m9_163 m9_164 m9_5 m9_165 kd_X6_holds ⟨Nat.le_of_ble_eq_true rfl, Nat.le_of_ble_eq_true rfl⟩ ⟨Nat.zero_le _, Nat.zero_le _⟩ (Nat.le_of_ble_eq_true rfl) rfl rfl dX6_ropeOf_27 ?_
    refine G.if_eq (tgt := 42) C dX6_ropeOf_30 (by decide) hf (fun c11 hf => ?_) (fun c11 hf => ?_)
    · refine G.iconst (v := 0) C dX6_ropeOf_42 (by decide) ?_
      refine G.sub C [] (lv' := []) rfl ?_
      exact hj43 _ _ hf
    · refine G.aload_n C 0 dX6_ropeOf_33 rfl rfl ?_
      refine G.iload_n C 1 dX6_ropeOf_34 rfl rfl ?_
      refine G.iload_n C 2 dX6_ropeOf_35 rfl rfl ?_
      obtain ⟨v10, hv10, hf⟩ := bind_some hf
      try dsimp only at hf
      refine G.callV C (st := []) (st2 := [.int (v10)]) (ct_X6_toldOfRope hv10) (ko_X6_toldOfRope hv10) rfl m9_722 m9_723 m9_724 m9_5 m9_725 kd_X6_toldOfRope ⟨Nat.le_of_ble_eq_true rfl, Nat.le_of_ble_eq_true rfl⟩ ⟨Nat.zero_le _, Nat.zero_le _⟩ (Nat.le_of_ble_eq_true rfl) rfl rfl dX6_ropeOf_36 ?_
      refine G.goto (tgt := 43) C dX6_ropeOf_39 (by decide) ?_
      refine G.sub C [] (lv' := []) rfl ?_
      exact hj43 _ _ hf
  refine G.sub C [0, 1, 2] (lv' := [(0, .ref (a0)), (1, .int (a1)), (2, .int (a2))]) rfl ?_
  refine G.aload_n C 0 dX6_ropeOf_0 rfl rfl ?_
  refine G.aload_n C 0 dX6_ropeOf_1 rfl rfl ?_
  refine G.iload_n C 1 dX6_ropeOf_2 rfl rfl ?_
  obtain ⟨v1, hv1, hf⟩ := bind_some hf
  try dsimp only at hf
  refine G.callV C (st := [.ref (a0)]) (st2 := [.int (v1), .ref (a0)]) (ct_X6_isRope hv1) (ko_X6_isRope hv1) rfl m9_242 m9_243 m9_244 m9_5 m9_245 kd_X6_isRope ⟨Nat.le_of_ble_eq_true rfl, Nat.le_of_ble_eq_true rfl⟩ ⟨Nat.zero_le _, Nat.zero_le _⟩ (Nat.le_of_ble_eq_true rfl) rfl rfl dX6_ropeOf_3 ?_
  refine G.if_ne (tgt := 13) C dX6_ropeOf_6 (by decide) hf (fun c4 hf => ?_) (fun c4 hf => ?_)
  · refine G.iload_n C 2 dX6_ropeOf_13 rfl rfl ?_
    refine G.iconst (v := 0) C dX6_ropeOf_14 (by decide) ?_
    refine G.iconst (v := 5) C dX6_ropeOf_15 (by decide) ?_
    obtain ⟨v2, hv2, hf⟩ := bind_some hf
    try dsimp only at hf
    refine G.callS C (st := [.ref (a0)]) (st2 := [.int (v2), .ref (a0)]) (ct_X6_in hv2) m9_144 m9_145 m9_5 m9_146 kd_X6_in ⟨Nat.le_of_ble_eq_true rfl, Nat.le_of_ble_eq_true rfl⟩ ⟨Nat.zero_le _, Nat.zero_le _⟩ (Nat.le_of_ble_eq_true rfl) rfl rfl dX6_ropeOf_16 ?_
    refine G.if_ne (tgt := 26) C dX6_ropeOf_19 (by decide) hf (fun c3 hf => ?_) (fun c3 hf => ?_)
    · refine G.iconst (v := 0) C dX6_ropeOf_26 (by decide) ?_
      refine G.sub C [0, 1, 2] (lv' := [(0, .ref (a0)), (1, .int (a1)), (2, .int (a2))]) rfl ?_
      exact hj27 _ _ _ _ _ hf
    · refine G.iconst (v := 2) C dX6_ropeOf_22 (by decide) ?_
      refine G.goto (tgt := 27) C dX6_ropeOf_23 (by decide) ?_
      refine G.sub C [0, 1, 2] (lv' := [(0, .ref (a0)), (1, .int (a1)), (2, .int (a2))]) rfl ?_
      exact hj27 _ _ _ _ _ hf
  · refine G.iconst (v := 1) C dX6_ropeOf_9 (by decide) ?_
    refine G.goto (tgt := 27) C dX6_ropeOf_10 (by decide) ?_
    refine G.sub C [0, 1, 2] (lv' := [(0, .ref (a0)), (1, .int (a1)), (2, .int (a2))]) rfl ?_
    exact hj27 _ _ _ _ _ hf
theorem ko_X6_orderOf {h : PH} {a0 : Nat} {a1 : Int32} {a2 : Int32} {r : Int32} (hf : f_X6_orderOf h a0 a1 a2 = some r) : kO h a0 5 := by
  unfold f_X6_orderOf at hf
  exact okO_k (gd_ok hf).1
theorem kd_X6_orderOf : yX6_orderOf.cls = RX6 ∧ yX6_orderOf.cls ≠ "java/lang/invoke/MethodHandle" ∧ yX6_orderOf.cls ≠ "java/lang/invoke/VarHandle" ∧ (parseMethodDescriptor yX6_orderOf.desc).map (fun d => d.parameters.length) = some 2 := by decide +kernel
set_option maxRecDepth 20000 in
set_option maxHeartbeats 4000000 in
theorem ct_X6_orderOf {l : Launch} {h : PH} {a0 : Nat} {a1 : Int32} {a2 : Int32} {r : Int32} (hf : f_X6_orderOf h a0 a1 a2 = some r) : CT l yX6_orderOf cX6_orderOf 5 (some .int) 1 21 [.ref (a0), .int (a1), .int (a2)] h (some (.int r)) h := by
  refine CT.of (own := RX6) rfl (by decide) (Nat.le_of_ble_eq_true rfl) ?_
  intro p e R s m args below meth c g X hR C
  subst hR
  unfold f_X6_orderOf at hf
  obtain ⟨hok, hf⟩ := gd_ok hf
  have hj50 : ∀ (x3 : Int32), f_X6_orderOf_J50 h (x3) = some r → G p l e ({ frames := 1, cells := 0, slots := 0, locals := 21 } : Room) s m args below meth c 5 g X h 0 0 (MQ below (QW g X h s.heap.size (some (.int r)) h) args s 0 0 (AF X h s.heap.size)) 50 [(3, .int (x3))] [] h := by
    intro x3 hf
    unfold f_X6_orderOf_J50 at hf
    refine G.iload_n C 0 dX6_orderOf_50 rfl rfl ?_
    cases hf
    exact G.iret C rfl dX6_orderOf_51
  refine G.sub C [0, 1, 2] (lv' := [(0, .ref (a0)), (1, .int (a1)), (2, .int (a2))]) rfl ?_
  refine G.iconst (v := (-1)) C dX6_orderOf_0 (by decide) ?_
  refine G.istore_n (lv' := [(3, .int (((-1) : Int32))), (0, .ref (a0)), (1, .int (a1)), (2, .int (a2))]) C dX6_orderOf_1 rfl (by decide) rfl ?_
  refine G.iconst (v := 0) C dX6_orderOf_2 (by decide) ?_
  refine G.istore (lv' := [(4, .int ((0 : Int32))), (3, .int (((-1) : Int32))), (0, .ref (a0)), (1, .int (a1)), (2, .int (a2))]) C dX6_orderOf_3 (by decide) rfl ?_
  obtain ⟨z1, hlp1, hfo1⟩ := bind_some hf
  clear hf
  have hloop1 : ∀ (k : Nat), ∀ (x3 : Int32) (x4 : Int32), (lpn (f_X6_orderOf_L5 (h) (a0) (a1) (a2)) k (x3, x4)) = some z1 → G p l e ({ frames := 1, cells := 0, slots := 0, locals := 21 } : Room) s m args below meth c 5 g X h 0 0 (MQ below (QW g X h s.heap.size (some (.int r)) h) args s 0 0 (AF X h s.heap.size)) 5 [(0, .ref (a0)), (1, .int (a1)), (2, .int (a2)), (3, .int (x3)), (4, .int (x4))] [] h := by
    intro k
    induction k with
    | zero => intro x3 x4 hlp1; exact (lpn_0 hlp1).elim
    | succ k ih1 =>
      intro x3 x4 hlp1
      obtain ⟨y1, hf, hlp1⟩ := lpn_s hlp1
      unfold f_X6_orderOf_L5 at hf
      try dsimp only at hf
      have hj43 : ∀ (x4 : Int32) (k0 : Int32), f_X6_orderOf_J43 h (a0) (a1) (a2) (x4) k0 = some y1 → G p l e ({ frames := 1, cells := 0, slots := 0, locals := 21 } : Room) s m args below meth c 5 g X h 0 0 (MQ below (QW g X h s.heap.size (some (.int r)) h) args s 0 0 (AF X h s.heap.size)) 43 [(0, .ref (a0)), (1, .int (a1)), (2, .int (a2)), (4, .int (x4))] [.int (k0)] h := by
        intro x4 k0 hf
        unfold f_X6_orderOf_J43 at hf
        refine G.istore_n (lv' := [(3, .int (k0)), (0, .ref (a0)), (1, .int (a1)), (2, .int (a2)), (4, .int (x4))]) C dX6_orderOf_43 rfl (by decide) rfl ?_
        refine G.iinc (k := 4) (v := (x4 + 1)) (lv' := [(4, .int ((x4 + 1))), (3, .int (k0)), (0, .ref (a0)), (1, .int (a1)), (2, .int (a2))]) C dX6_orderOf_44 rfl rfl (by decide) rfl ?_
        refine G.goto (tgt := 5) C dX6_orderOf_47 (by decide) ?_
        cases hf
        refine G.sub C [2, 3, 4, 1, 0] (lv' := [(0, .ref (a0)), (1, .int (a1)), (2, .int (a2)), (3, .int (k0)), (4, .int ((x4 + 1)))]) rfl ?_
        exact ih1 _ _ hlp1
      refine G.iload C 4 dX6_orderOf_5 rfl ?_
      refine G.aload_n C 0 dX6_orderOf_7 rfl rfl ?_
      refine G.getR (ci := 5) (k := 1) C rfl inlX6 (by decide) m9_70 rfl hf dX6_orderOf_8 (fun v2 hv2 hf => ?_)
      try dsimp only at hf
      refine G.iload_n C 1 dX6_orderOf_11 rfl rfl ?_
      refine G.iconst (v := 1) C dX6_orderOf_12 (by decide) ?_
      obtain ⟨v3, hv3, hf⟩ := bind_some hf
      try dsimp only at hf
      refine G.callS C (st := [.ref (v2), .int (x4)]) (st2 := [.int (v3), .ref (v2), .int (x4)]) (ct_X6_of hv3) m9_159 m9_160 m9_5 m9_161 kd_X6_of ⟨Nat.le_of_ble_eq_true rfl, Nat.le_of_ble_eq_true rfl⟩ ⟨Nat.zero_le _, Nat.zero_le _⟩ (Nat.le_of_ble_eq_true rfl) rfl rfl dX6_orderOf_13 ?_
      refine G.iald C hf dX6_orderOf_16 (fun v4 hv4 hf => ?_)
      try dsimp only at hf
      refine G.icmp_ge (tgt := 50) C dX6_orderOf_17 (by decide) hf (fun c9 hf => ?_) (fun c9 hf => ?_)
      · cases hf
        change some _ = some _ at hlp1
        have hf := hfo1
        try rw [← Option.some.inj hlp1] at hf
        try dsimp only at hf
        refine G.sub C [3] (lv' := [(3, .int (x3))]) rfl ?_
        exact hj50 _ hf
      · refine G.aload_n C 0 dX6_orderOf_20 rfl rfl ?_
        refine G.getR (ci := 5) (k := 1) C rfl inlX6 (by decide) m9_70 rfl hf dX6_orderOf_21 (fun v5 hv5 hf => ?_)
        try dsimp only at hf
        refine G.iload_n C 1 dX6_orderOf_24 rfl rfl ?_
        refine G.iconst (v := 2) C dX6_orderOf_25 (by decide) ?_
        refine G.iload C 4 dX6_orderOf_26 rfl ?_
        refine G.iadd C dX6_orderOf_28 ?_
        obtain ⟨v6, hv6, hf⟩ := bind_some hf
        try dsimp only at hf
        refine G.callS C (st := [.ref (v5)]) (st2 := [.int (v6), .ref (v5)]) (ct_X6_of hv6) m9_159 m9_160 m9_5 m9_161 kd_X6_of ⟨Nat.le_of_ble_eq_true rfl, Nat.le_of_ble_eq_true rfl⟩ ⟨Nat.zero_le _, Nat.zero_le _⟩ (Nat.le_of_ble_eq_true rfl) rfl rfl dX6_orderOf_29 ?_
        refine G.iald C hf dX6_orderOf_32 (fun v7 hv7 hf => ?_)
        try dsimp only at hf
        refine G.iload_n C 2 dX6_orderOf_33 rfl rfl ?_
        refine G.icmp_ne (tgt := 42) C dX6_orderOf_34 (by decide) hf (fun c8 hf => ?_) (fun c8 hf => ?_)
        · refine G.iload_n C 3 dX6_orderOf_42 rfl rfl ?_
          refine G.sub C [0, 1, 2, 4] (lv' := [(0, .ref (a0)), (1, .int (a1)), (2, .int (a2)), (4, .int (x4))]) rfl ?_
          exact hj43 _ _ hf
        · refine G.iload C 4 dX6_orderOf_37 rfl ?_
          refine G.goto (tgt := 43) C dX6_orderOf_39 (by decide) ?_
          refine G.sub C [0, 1, 2, 4] (lv' := [(0, .ref (a0)), (1, .int (a1)), (2, .int (a2)), (4, .int (x4))]) rfl ?_
          exact hj43 _ _ hf
  refine G.sub C [2, 3, 4, 1, 0] (lv' := [(0, .ref (a0)), (1, .int (a1)), (2, .int (a2)), (3, .int (((-1) : Int32))), (4, .int ((0 : Int32)))]) rfl ?_
  exact hloop1 LF _ _ hlp1
theorem ko_X6_toldOfHue {h : PH} {a0 : Nat} {a1 : Int32} {a2 : Int32} {a3 : Int32} {r : Int32} (hf : f_X6_toldOfHue h a0 a1 a2 a3 = some r) : kO h a0 5 := by
  unfold f_X6_toldOfHue at hf
  exact okO_k (gd_ok hf).1
theorem kd_X6_toldOfHue : yX6_toldOfHue.cls = RX6 ∧ yX6_toldOfHue.cls ≠ "java/lang/invoke/MethodHandle" ∧ yX6_toldOfHue.cls ≠ "java/lang/invoke/VarHandle" ∧ (parseMethodDescriptor yX6_toldOfHue.desc).map (fun d => d.parameters.length) = some 3 := by decide +kernel
set_option maxRecDepth 20000 in
set_option maxHeartbeats 4000000 in
theorem ct_X6_toldOfHue {l : Launch} {h : PH} {a0 : Nat} {a1 : Int32} {a2 : Int32} {a3 : Int32} {r : Int32} (hf : f_X6_toldOfHue h a0 a1 a2 a3 = some r) : CT l yX6_toldOfHue cX6_toldOfHue 4 (some .int) 4 91 [.ref (a0), .int (a1), .int (a2), .int (a3)] h (some (.int r)) h := by
  refine CT.of (own := RX6) rfl (by decide) (Nat.le_of_ble_eq_true rfl) ?_
  intro p e R s m args below meth c g X hR C
  subst hR
  unfold f_X6_toldOfHue at hf
  obtain ⟨hok, hf⟩ := gd_ok hf
  have hj58 : ∀ (k0 : Int32), f_X6_toldOfHue_J58 h k0 = some r → G p l e ({ frames := 4, cells := 0, slots := 0, locals := 91 } : Room) s m args below meth c 4 g X h 0 0 (MQ below (QW g X h s.heap.size (some (.int r)) h) args s 0 0 (AF X h s.heap.size)) 58 [] [.int (k0)] h := by
    intro k0 hf
    unfold f_X6_toldOfHue_J58 at hf
    cases hf
    exact G.iret C rfl dX6_toldOfHue_58
  refine G.sub C [0, 1, 2, 3] (lv' := [(0, .ref (a0)), (1, .int (a1)), (2, .int (a2)), (3, .int (a3))]) rfl ?_
  refine G.aload_n C 0 dX6_toldOfHue_0 rfl rfl ?_
  refine G.iload_n C 1 dX6_toldOfHue_1 rfl rfl ?_
  refine G.iload_n C 2 dX6_toldOfHue_2 rfl rfl ?_
  obtain ⟨v1, hv1, hf⟩ := bind_some hf
  try dsimp only at hf
  refine G.callV C (st := []) (st2 := [.int (v1)]) (ct_X6_isLaid hv1) (ko_X6_isLaid hv1) rfl m9_151 m9_152 m9_153 m9_5 m9_154 kd_X6_isLaid ⟨Nat.le_of_ble_eq_true rfl, Nat.le_of_ble_eq_true rfl⟩ ⟨Nat.zero_le _, Nat.zero_le _⟩ (Nat.le_of_ble_eq_true rfl) rfl rfl dX6_toldOfHue_3 ?_
  refine G.if_ne (tgt := 11) C dX6_toldOfHue_6 (by decide) hf (fun c9 hf => ?_) (fun c9 hf => ?_)
  · refine G.iload_n C 3 dX6_toldOfHue_11 rfl rfl ?_
    refine G.if_ne (tgt := 24) C dX6_toldOfHue_12 (by decide) hf (fun c8 hf => ?_) (fun c8 hf => ?_)
    · refine G.iload_n C 3 dX6_toldOfHue_24 rfl rfl ?_
      refine G.iconst (v := 1) C dX6_toldOfHue_25 (by decide) ?_
      refine G.icmp_ne (tgt := 38) C dX6_toldOfHue_26 (by decide) hf (fun c6 hf => ?_) (fun c6 hf => ?_)
      · refine G.iload_n C 3 dX6_toldOfHue_38 rfl rfl ?_
        refine G.iconst (v := 2) C dX6_toldOfHue_39 (by decide) ?_
        refine G.icmp_ne (tgt := 52) C dX6_toldOfHue_40 (by decide) hf (fun c4 hf => ?_) (fun c4 hf => ?_)
        · refine G.aload_n C 0 dX6_toldOfHue_52 rfl rfl ?_
          refine G.iload_n C 1 dX6_toldOfHue_53 rfl rfl ?_
          refine G.iload_n C 2 dX6_toldOfHue_54 rfl rfl ?_
          obtain ⟨v2, hv2, hf⟩ := bind_some hf
          try dsimp only at hf
          refine G.callV C (st := []) (st2 := [.int (v2)]) (ct_X6_orderOf hv2) (ko_X6_orderOf hv2) rfl m9_766 m9_767 m9_768 m9_5 m9_769 kd_X6_orderOf ⟨Nat.le_of_ble_eq_true rfl, Nat.le_of_ble_eq_true rfl⟩ ⟨Nat.zero_le _, Nat.zero_le _⟩ (Nat.le_of_ble_eq_true rfl) rfl rfl dX6_toldOfHue_55 ?_
          refine G.sub C [] (lv' := []) rfl ?_
          exact hj58 _ hf
        · refine G.aload_n C 0 dX6_toldOfHue_43 rfl rfl ?_
          refine G.iload_n C 1 dX6_toldOfHue_44 rfl rfl ?_
          refine G.iload_n C 2 dX6_toldOfHue_45 rfl rfl ?_
          obtain ⟨v3, hv3, hf⟩ := bind_some hf
          try dsimp only at hf
          refine G.callV C (st := []) (st2 := [.int (v3)]) (ct_X6_lastOf hv3) (ko_X6_lastOf hv3) rfl m9_451 m9_452 m9_453 m9_5 m9_454 kd_X6_lastOf ⟨Nat.le_of_ble_eq_true rfl, Nat.le_of_ble_eq_true rfl⟩ ⟨Nat.zero_le _, Nat.zero_le _⟩ (Nat.le_of_ble_eq_true rfl) rfl rfl dX6_toldOfHue_46 ?_
          refine G.goto (tgt := 58) C dX6_toldOfHue_49 (by decide) ?_
          refine G.sub C [] (lv' := []) rfl ?_
          exact hj58 _ hf
      · refine G.aload_n C 0 dX6_toldOfHue_29 rfl rfl ?_
        refine G.iload_n C 1 dX6_toldOfHue_30 rfl rfl ?_
        refine G.iload_n C 2 dX6_toldOfHue_31 rfl rfl ?_
        obtain ⟨v5, hv5, hf⟩ := bind_some hf
        try dsimp only at hf
        refine G.callV C (st := []) (st2 := [.int (v5)]) (ct_X6_placesOf hv5) (ko_X6_placesOf hv5) rfl m9_311 m9_312 m9_313 m9_5 m9_314 kd_X6_placesOf ⟨Nat.le_of_ble_eq_true rfl, Nat.le_of_ble_eq_true rfl⟩ ⟨Nat.zero_le _, Nat.zero_le _⟩ (Nat.le_of_ble_eq_true rfl) rfl rfl dX6_toldOfHue_32 ?_
        refine G.goto (tgt := 58) C dX6_toldOfHue_35 (by decide) ?_
        refine G.sub C [] (lv' := []) rfl ?_
        exact hj58 _ hf
    · refine G.aload_n C 0 dX6_toldOfHue_15 rfl rfl ?_
      refine G.iload_n C 1 dX6_toldOfHue_16 rfl rfl ?_
      refine G.iload_n C 2 dX6_toldOfHue_17 rfl rfl ?_
      obtain ⟨v7, hv7, hf⟩ := bind_some hf
      try dsimp only at hf
      refine G.callV C (st := []) (st2 := [.int (v7)]) (ct_X6_phaseOf hv7) (ko_X6_phaseOf hv7) rfl m9_155 m9_156 m9_157 m9_5 m9_158 kd_X6_phaseOf ⟨Nat.le_of_ble_eq_true rfl, Nat.le_of_ble_eq_true rfl⟩ ⟨Nat.zero_le _, Nat.zero_le _⟩ (Nat.le_of_ble_eq_true rfl) rfl rfl dX6_toldOfHue_18 ?_
      refine G.goto (tgt := 58) C dX6_toldOfHue_21 (by decide) ?_
      refine G.sub C [] (lv' := []) rfl ?_
      exact hj58 _ hf
  · refine G.iconst (v := (-1)) C dX6_toldOfHue_9 (by decide) ?_
    cases hf
    exact G.iret C rfl dX6_toldOfHue_10
theorem ko_X6_hueOf {h : PH} {a0 : Nat} {a1 : Int32} {a2 : Int32} {a3 : Int32} {r : (Int32 × PH)} (hf : f_X6_hueOf h a0 a1 a2 a3 = some r) : kO h a0 5 := by
  unfold f_X6_hueOf at hf
  exact okO_k (gd_ok hf).1
theorem kd_X6_hueOf : yX6_hueOf.cls = RX6 ∧ yX6_hueOf.cls ≠ "java/lang/invoke/MethodHandle" ∧ yX6_hueOf.cls ≠ "java/lang/invoke/VarHandle" ∧ (parseMethodDescriptor yX6_hueOf.desc).map (fun d => d.parameters.length) = some 3 := by decide +kernel
set_option maxRecDepth 20000 in
set_option maxHeartbeats 4000000 in
theorem ct_X6_hueOf {l : Launch} {h : PH} {a0 : Nat} {a1 : Int32} {a2 : Int32} {a3 : Int32} {r : (Int32 × PH)} (hf : f_X6_hueOf h a0 a1 a2 a3 = some r) : CT l yX6_hueOf cX6_hueOf 4 (some .int) 5 114 [.ref (a0), .int (a1), .int (a2), .int (a3)] h (some (.int r.1)) r.2 := by
  refine CT.of (own := RX6) rfl (by decide) (Nat.le_of_ble_eq_true rfl) ?_
  intro p e R s m args below meth c g X hR C
  subst hR
  unfold f_X6_hueOf at hf
  obtain ⟨hok, hf⟩ := gd_ok hf
  have hj45 : ∀ (hh : PH) (k0 : Int32), f_X6_hueOf_J45 hh k0 = some r → G p l e ({ frames := 5, cells := 0, slots := 0, locals := 114 } : Room) s m args below meth c 4 g X h 0 0 (MQ below (QW g X h s.heap.size (some (.int r.1)) r.2) args s 0 0 (AF X h s.heap.size)) 45 [] [.int (k0)] hh := by
    intro hh k0 hf
    unfold f_X6_hueOf_J45 at hf
    cases hf
    exact G.iret C rfl dX6_hueOf_45
  have hj28 : ∀ (x0 : Nat) (x1 : Int32) (x2 : Int32) (x3 : Int32) (k0 : Nat) (k1 : Int32), f_X6_hueOf_J28 h (x0) (x1) (x2) (x3) k0 k1 = some r → G p l e ({ frames := 5, cells := 0, slots := 0, locals := 114 } : Room) s m args below meth c 4 g X h 0 0 (MQ below (QW g X h s.heap.size (some (.int r.1)) r.2) args s 0 0 (AF X h s.heap.size)) 28 [(0, .ref (x0)), (1, .int (x1)), (2, .int (x2)), (3, .int (x3))] [.int (k1), .ref (k0)] h := by
    intro x0 x1 x2 x3 k0 k1 hf
    unfold f_X6_hueOf_J28 at hf
    obtain ⟨⟨v7, h8⟩, hv7, hf⟩ := bind_some hf
    try dsimp only at hf
    refine G.callV C (st := []) (st2 := [.int (v7)]) (ct_X6_holds hv7) (ko_X6_holds hv7) rfl m9_162 m9_163 m9_164 m9_5 m9_165 kd_X6_holds ⟨Nat.le_of_ble_eq_true rfl, Nat.le_of_ble_eq_true rfl⟩ ⟨Nat.zero_le _, Nat.zero_le _⟩ (Nat.le_of_ble_eq_true rfl) rfl rfl dX6_hueOf_28 ?_
    refine G.if_eq (tgt := 44) C dX6_hueOf_31 (by decide) hf (fun c11 hf => ?_) (fun c11 hf => ?_)
    · refine G.iconst (v := 0) C dX6_hueOf_44 (by decide) ?_
      refine G.sub C [] (lv' := []) rfl ?_
      exact hj45 _ _ hf
    · refine G.aload_n C 0 dX6_hueOf_34 rfl rfl ?_
      refine G.iload_n C 1 dX6_hueOf_35 rfl rfl ?_
      refine G.iload_n C 2 dX6_hueOf_36 rfl rfl ?_
      refine G.iload_n C 3 dX6_hueOf_37 rfl rfl ?_
      obtain ⟨v10, hv10, hf⟩ := bind_some hf
      try dsimp only at hf
      refine G.callV C (st := []) (st2 := [.int (v10)]) (ct_X6_toldOfHue hv10) (ko_X6_toldOfHue hv10) rfl m9_762 m9_763 m9_764 m9_5 m9_765 kd_X6_toldOfHue ⟨Nat.le_of_ble_eq_true rfl, Nat.le_of_ble_eq_true rfl⟩ ⟨Nat.zero_le _, Nat.zero_le _⟩ (Nat.le_of_ble_eq_true rfl) rfl rfl dX6_hueOf_38 ?_
      refine G.goto (tgt := 45) C dX6_hueOf_41 (by decide) ?_
      refine G.sub C [] (lv' := []) rfl ?_
      exact hj45 _ _ hf
  refine G.sub C [0, 1, 2, 3] (lv' := [(0, .ref (a0)), (1, .int (a1)), (2, .int (a2)), (3, .int (a3))]) rfl ?_
  refine G.aload_n C 0 dX6_hueOf_0 rfl rfl ?_
  refine G.aload_n C 0 dX6_hueOf_1 rfl rfl ?_
  refine G.iload_n C 1 dX6_hueOf_2 rfl rfl ?_
  refine G.iload_n C 2 dX6_hueOf_3 rfl rfl ?_
  obtain ⟨v1, hv1, hf⟩ := bind_some hf
  try dsimp only at hf
  refine G.callV C (st := [.ref (a0)]) (st2 := [.int (v1), .ref (a0)]) (ct_X6_areThere hv1) (ko_X6_areThere hv1) rfl m9_287 m9_288 m9_289 m9_5 m9_290 kd_X6_areThere ⟨Nat.le_of_ble_eq_true rfl, Nat.le_of_ble_eq_true rfl⟩ ⟨Nat.zero_le _, Nat.zero_le _⟩ (Nat.le_of_ble_eq_true rfl) rfl rfl dX6_hueOf_4 ?_
  refine G.if_ne (tgt := 14) C dX6_hueOf_7 (by decide) hf (fun c4 hf => ?_) (fun c4 hf => ?_)
  · refine G.iload_n C 3 dX6_hueOf_14 rfl rfl ?_
    refine G.iconst (v := 0) C dX6_hueOf_15 (by decide) ?_
    refine G.iconst (v := 3) C dX6_hueOf_16 (by decide) ?_
    obtain ⟨v2, hv2, hf⟩ := bind_some hf
    try dsimp only at hf
    refine G.callS C (st := [.ref (a0)]) (st2 := [.int (v2), .ref (a0)]) (ct_X6_in hv2) m9_144 m9_145 m9_5 m9_146 kd_X6_in ⟨Nat.le_of_ble_eq_true rfl, Nat.le_of_ble_eq_true rfl⟩ ⟨Nat.zero_le _, Nat.zero_le _⟩ (Nat.le_of_ble_eq_true rfl) rfl rfl dX6_hueOf_17 ?_
    refine G.if_ne (tgt := 27) C dX6_hueOf_20 (by decide) hf (fun c3 hf => ?_) (fun c3 hf => ?_)
    · refine G.iconst (v := 0) C dX6_hueOf_27 (by decide) ?_
      refine G.sub C [0, 1, 2, 3] (lv' := [(0, .ref (a0)), (1, .int (a1)), (2, .int (a2)), (3, .int (a3))]) rfl ?_
      exact hj28 _ _ _ _ _ _ hf
    · refine G.iconst (v := 2) C dX6_hueOf_23 (by decide) ?_
      refine G.goto (tgt := 28) C dX6_hueOf_24 (by decide) ?_
      refine G.sub C [0, 1, 2, 3] (lv' := [(0, .ref (a0)), (1, .int (a1)), (2, .int (a2)), (3, .int (a3))]) rfl ?_
      exact hj28 _ _ _ _ _ _ hf
  · refine G.iconst (v := 1) C dX6_hueOf_10 (by decide) ?_
    refine G.goto (tgt := 28) C dX6_hueOf_11 (by decide) ?_
    refine G.sub C [0, 1, 2, 3] (lv' := [(0, .ref (a0)), (1, .int (a1)), (2, .int (a2)), (3, .int (a3))]) rfl ?_
    exact hj28 _ _ _ _ _ _ hf
theorem ko_X6_gapOf {h : PH} {a0 : Nat} {a1 : Int32} {r : (Int32 × PH)} (hf : f_X6_gapOf h a0 a1 = some r) : kO h a0 5 := by
  unfold f_X6_gapOf at hf
  exact okO_k (gd_ok hf).1
theorem kd_X6_gapOf : yX6_gapOf.cls = RX6 ∧ yX6_gapOf.cls ≠ "java/lang/invoke/MethodHandle" ∧ yX6_gapOf.cls ≠ "java/lang/invoke/VarHandle" ∧ (parseMethodDescriptor yX6_gapOf.desc).map (fun d => d.parameters.length) = some 1 := by decide +kernel
set_option maxRecDepth 20000 in
set_option maxHeartbeats 4000000 in
theorem ct_X6_gapOf {l : Launch} {h : PH} {a0 : Nat} {a1 : Int32} {r : (Int32 × PH)} (hf : f_X6_gapOf h a0 a1 = some r) : CT l yX6_gapOf cX6_gapOf 2 (some .int) 2 42 [.ref (a0), .int (a1)] h (some (.int r.1)) r.2 := by
  refine CT.of (own := RX6) rfl (by decide) (Nat.le_of_ble_eq_true rfl) ?_
  intro p e R s m args below meth c g X hR C
  subst hR
  unfold f_X6_gapOf at hf
  obtain ⟨hok, hf⟩ := gd_ok hf
  have hj31 : ∀ (hh : PH) (k0 : Int32), f_X6_gapOf_J31 hh k0 = some r → G p l e ({ frames := 2, cells := 0, slots := 0, locals := 42 } : Room) s m args below meth c 2 g X h 0 0 (MQ below (QW g X h s.heap.size (some (.int r.1)) r.2) args s 0 0 (AF X h s.heap.size)) 31 [] [.int (k0)] hh := by
    intro hh k0 hf
    unfold f_X6_gapOf_J31 at hf
    cases hf
    exact G.iret C rfl dX6_gapOf_31
  have hj13 : ∀ (x0 : Nat) (x1 : Int32) (k0 : Nat) (k1 : Int32), f_X6_gapOf_J13 h (x0) (x1) k0 k1 = some r → G p l e ({ frames := 2, cells := 0, slots := 0, locals := 42 } : Room) s m args below meth c 2 g X h 0 0 (MQ below (QW g X h s.heap.size (some (.int r.1)) r.2) args s 0 0 (AF X h s.heap.size)) 13 [(0, .ref (x0)), (1, .int (x1))] [.int (k1), .ref (k0)] h := by
    intro x0 x1 k0 k1 hf
    unfold f_X6_gapOf_J13 at hf
    obtain ⟨⟨v7, h8⟩, hv7, hf⟩ := bind_some hf
    try dsimp only at hf
    refine G.callV C (st := []) (st2 := [.int (v7)]) (ct_X6_holds hv7) (ko_X6_holds hv7) rfl m9_162 m9_163 m9_164 m9_5 m9_165 kd_X6_holds ⟨Nat.le_of_ble_eq_true rfl, Nat.le_of_ble_eq_true rfl⟩ ⟨Nat.zero_le _, Nat.zero_le _⟩ (Nat.le_of_ble_eq_true rfl) rfl rfl dX6_gapOf_13 ?_
    refine G.if_eq (tgt := 30) C dX6_gapOf_16 (by decide) hf (fun c12 hf => ?_) (fun c12 hf => ?_)
    · refine G.iconst (v := 0) C dX6_gapOf_30 (by decide) ?_
      refine G.sub C [] (lv' := []) rfl ?_
      exact hj31 _ _ hf
    · refine G.aload_n C 0 dX6_gapOf_19 rfl rfl ?_
      refine G.getR (ci := 5) (k := 1) C rfl inlX6 (by decide) m9_70 rfl hf dX6_gapOf_20 (fun v10 hv10 hf => ?_)
      try dsimp only at hf
      refine G.iconst (v := 0) C dX6_gapOf_23 (by decide) ?_
      refine G.iload_n C 1 dX6_gapOf_24 rfl rfl ?_
      refine G.iadd C dX6_gapOf_25 ?_
      refine G.iald C hf dX6_gapOf_26 (fun v11 hv11 hf => ?_)
      try dsimp only at hf
      refine G.goto (tgt := 31) C dX6_gapOf_27 (by decide) ?_
      refine G.sub C [] (lv' := []) rfl ?_
      exact hj31 _ _ hf
  refine G.sub C [0, 1] (lv' := [(0, .ref (a0)), (1, .int (a1))]) rfl ?_
  refine G.aload_n C 0 dX6_gapOf_0 rfl rfl ?_
  refine G.iload_n C 1 dX6_gapOf_1 rfl rfl ?_
  obtain ⟨v1, hv1, hf⟩ := bind_some hf
  try dsimp only at hf
  refine G.callS C (st := [.ref (a0)]) (st2 := [.int (v1), .ref (a0)]) (ct_X6_isHue hv1) m9_141 m9_142 m9_5 m9_143 kd_X6_isHue ⟨Nat.le_of_ble_eq_true rfl, Nat.le_of_ble_eq_true rfl⟩ ⟨Nat.zero_le _, Nat.zero_le _⟩ (Nat.le_of_ble_eq_true rfl) rfl rfl dX6_gapOf_2 ?_
  refine G.if_eq (tgt := 12) C dX6_gapOf_5 (by decide) hf (fun c2 hf => ?_) (fun c2 hf => ?_)
  · refine G.iconst (v := 1) C dX6_gapOf_12 (by decide) ?_
    refine G.sub C [0, 1] (lv' := [(0, .ref (a0)), (1, .int (a1))]) rfl ?_
    exact hj13 _ _ _ _ hf
  · refine G.iconst (v := 0) C dX6_gapOf_8 (by decide) ?_
    refine G.goto (tgt := 13) C dX6_gapOf_9 (by decide) ?_
    refine G.sub C [0, 1] (lv' := [(0, .ref (a0)), (1, .int (a1))]) rfl ?_
    exact hj13 _ _ _ _ hf
theorem ko_X6_sum {h : PH} {a0 : Nat} {a1 : Int32} {r : Int32} (hf : f_X6_sum h a0 a1 = some r) : kO h a0 5 := by
  unfold f_X6_sum at hf
  exact okO_k (gd_ok hf).1
theorem kd_X6_sum : yX6_sum.cls = RX6 ∧ yX6_sum.cls ≠ "java/lang/invoke/MethodHandle" ∧ yX6_sum.cls ≠ "java/lang/invoke/VarHandle" ∧ (parseMethodDescriptor yX6_sum.desc).map (fun d => d.parameters.length) = some 1 := by decide +kernel
set_option maxRecDepth 20000 in
set_option maxHeartbeats 4000000 in
theorem ct_X6_sum {l : Launch} {h : PH} {a0 : Nat} {a1 : Int32} {r : Int32} (hf : f_X6_sum h a0 a1 = some r) : CT l yX6_sum cX6_sum 4 (some .int) 5 114 [.ref (a0), .int (a1)] h (some (.int r)) h := by
  refine CT.of (own := RX6) rfl (by decide) (Nat.le_of_ble_eq_true rfl) ?_
  intro p e R s m args below meth c g X hR C
  subst hR
  unfold f_X6_sum at hf
  obtain ⟨hok, hf⟩ := gd_ok hf
  have hj46 : ∀ (x2 : Int32), f_X6_sum_J46 h (x2) = some r → G p l e ({ frames := 5, cells := 0, slots := 0, locals := 114 } : Room) s m args below meth c 4 g X h 0 0 (MQ below (QW g X h s.heap.size (some (.int r)) h) args s 0 0 (AF X h s.heap.size)) 46 [(2, .int (x2))] [] h := by
    intro x2 hf
    unfold f_X6_sum_J46 at hf
    refine G.iload_n C 0 dX6_sum_46 rfl rfl ?_
    cases hf
    exact G.iret C rfl dX6_sum_47
  refine G.sub C [0, 1] (lv' := [(0, .ref (a0)), (1, .int (a1))]) rfl ?_
  refine G.iconst (v := 0) C dX6_sum_0 (by decide) ?_
  refine G.istore_n (lv' := [(2, .int ((0 : Int32))), (0, .ref (a0)), (1, .int (a1))]) C dX6_sum_1 rfl (by decide) rfl ?_
  refine G.iconst (v := 0) C dX6_sum_2 (by decide) ?_
  refine G.istore_n (lv' := [(3, .int ((0 : Int32))), (2, .int ((0 : Int32))), (0, .ref (a0)), (1, .int (a1))]) C dX6_sum_3 rfl (by decide) rfl ?_
  obtain ⟨z1, hlp1, hfo1⟩ := bind_some hf
  clear hf
  have hloop1 : ∀ (k : Nat), ∀ (x2 : Int32) (x3 : Int32), (lpn (f_X6_sum_L4 (h) (a0) (a1)) k (x2, x3)) = some z1 → G p l e ({ frames := 5, cells := 0, slots := 0, locals := 114 } : Room) s m args below meth c 4 g X h 0 0 (MQ below (QW g X h s.heap.size (some (.int r)) h) args s 0 0 (AF X h s.heap.size)) 4 [(0, .ref (a0)), (1, .int (a1)), (2, .int (x2)), (3, .int (x3))] [] h := by
    intro k
    induction k with
    | zero => intro x2 x3 hlp1; exact (lpn_0 hlp1).elim
    | succ k ih1 =>
      intro x2 x3 hlp1
      obtain ⟨y1, hf, hlp1⟩ := lpn_s hlp1
      unfold f_X6_sum_L4 at hf
      try dsimp only at hf
      have hj38 : ∀ (x3 : Int32) (k0 : Int32) (k1 : Int32), f_X6_sum_J38 h (a0) (a1) (x3) k0 k1 = some y1 → G p l e ({ frames := 5, cells := 0, slots := 0, locals := 114 } : Room) s m args below meth c 4 g X h 0 0 (MQ below (QW g X h s.heap.size (some (.int r)) h) args s 0 0 (AF X h s.heap.size)) 38 [(0, .ref (a0)), (1, .int (a1)), (3, .int (x3))] [.int (k1), .int (k0)] h := by
        intro x3 k0 k1 hf
        unfold f_X6_sum_J38 at hf
        refine G.iadd C dX6_sum_38 ?_
        refine G.istore_n (lv' := [(2, .int ((k0 + k1))), (0, .ref (a0)), (1, .int (a1)), (3, .int (x3))]) C dX6_sum_39 rfl (by decide) rfl ?_
        refine G.iinc (k := 3) (v := (x3 + 1)) (lv' := [(3, .int ((x3 + 1))), (2, .int ((k0 + k1))), (0, .ref (a0)), (1, .int (a1))]) C dX6_sum_40 rfl rfl (by decide) rfl ?_
        refine G.goto (tgt := 4) C dX6_sum_43 (by decide) ?_
        cases hf
        refine G.sub C [2, 3, 1, 0] (lv' := [(0, .ref (a0)), (1, .int (a1)), (2, .int ((k0 + k1))), (3, .int ((x3 + 1)))]) rfl ?_
        exact ih1 _ _ hlp1
      refine G.iload_n C 3 dX6_sum_4 rfl rfl ?_
      refine G.aload_n C 0 dX6_sum_5 rfl rfl ?_
      refine G.getR (ci := 5) (k := 1) C rfl inlX6 (by decide) m9_70 rfl hf dX6_sum_6 (fun v2 hv2 hf => ?_)
      try dsimp only at hf
      refine G.bipush (v := 8) C dX6_sum_9 (by decide) ?_
      refine G.iald C hf dX6_sum_11 (fun v3 hv3 hf => ?_)
      try dsimp only at hf
      refine G.icmp_ge (tgt := 46) C dX6_sum_12 (by decide) hf (fun c9 hf => ?_) (fun c9 hf => ?_)
      · cases hf
        change some _ = some _ at hlp1
        have hf := hfo1
        try rw [← Option.some.inj hlp1] at hf
        try dsimp only at hf
        refine G.sub C [2] (lv' := [(2, .int (x2))]) rfl ?_
        exact hj46 _ hf
      · refine G.iload_n C 2 dX6_sum_15 rfl rfl ?_
        refine G.iload_n C 1 dX6_sum_16 rfl rfl ?_
        refine G.if_eq (tgt := 28) C dX6_sum_17 (by decide) hf (fun c8 hf => ?_) (fun c8 hf => ?_)
        · refine G.aload_n C 0 dX6_sum_28 rfl rfl ?_
          refine G.getR (ci := 5) (k := 1) C rfl inlX6 (by decide) m9_70 rfl hf dX6_sum_29 (fun v4 hv4 hf => ?_)
          try dsimp only at hf
          refine G.iload_n C 3 dX6_sum_32 rfl rfl ?_
          refine G.iconst (v := 0) C dX6_sum_33 (by decide) ?_
          obtain ⟨v5, hv5, hf⟩ := bind_some hf
          try dsimp only at hf
          refine G.callS C (st := [.ref (v4), .int (x2)]) (st2 := [.int (v5), .ref (v4), .int (x2)]) (ct_X6_of hv5) m9_159 m9_160 m9_5 m9_161 kd_X6_of ⟨Nat.le_of_ble_eq_true rfl, Nat.le_of_ble_eq_true rfl⟩ ⟨Nat.zero_le _, Nat.zero_le _⟩ (Nat.le_of_ble_eq_true rfl) rfl rfl dX6_sum_34 ?_
          refine G.iald C hf dX6_sum_37 (fun v6 hv6 hf => ?_)
          try dsimp only at hf
          refine G.sub C [0, 1, 3] (lv' := [(0, .ref (a0)), (1, .int (a1)), (3, .int (x3))]) rfl ?_
          exact hj38 _ _ _ hf
        · refine G.aload_n C 0 dX6_sum_20 rfl rfl ?_
          refine G.iload_n C 3 dX6_sum_21 rfl rfl ?_
          obtain ⟨v7, hv7, hf⟩ := bind_some hf
          try dsimp only at hf
          refine G.callV C (st := [.int (x2)]) (st2 := [.int (v7), .int (x2)]) (ct_X6_holes hv7) (ko_X6_holes hv7) rfl m9_726 m9_727 m9_728 m9_5 m9_729 kd_X6_holes ⟨Nat.le_of_ble_eq_true rfl, Nat.le_of_ble_eq_true rfl⟩ ⟨Nat.zero_le _, Nat.zero_le _⟩ (Nat.le_of_ble_eq_true rfl) rfl rfl dX6_sum_22 ?_
          refine G.goto (tgt := 38) C dX6_sum_25 (by decide) ?_
          refine G.sub C [0, 1, 3] (lv' := [(0, .ref (a0)), (1, .int (a1)), (3, .int (x3))]) rfl ?_
          exact hj38 _ _ _ hf
  refine G.sub C [2, 3, 1, 0] (lv' := [(0, .ref (a0)), (1, .int (a1)), (2, .int ((0 : Int32))), (3, .int ((0 : Int32)))]) rfl ?_
  exact hloop1 LF _ _ hlp1
theorem ko_X6_huesLaid {h : PH} {a0 : Nat} {r : Int32} (hf : f_X6_huesLaid h a0 = some r) : kO h a0 5 := by
  unfold f_X6_huesLaid at hf
  exact okO_k (gd_ok hf).1
theorem kd_X6_huesLaid : yX6_huesLaid.cls = RX6 ∧ yX6_huesLaid.cls ≠ "java/lang/invoke/MethodHandle" ∧ yX6_huesLaid.cls ≠ "java/lang/invoke/VarHandle" ∧ (parseMethodDescriptor yX6_huesLaid.desc).map (fun d => d.parameters.length) = some 0 := by decide +kernel
set_option maxRecDepth 20000 in
set_option maxHeartbeats 4000000 in
theorem ct_X6_huesLaid {l : Launch} {h : PH} {a0 : Nat} {r : Int32} (hf : f_X6_huesLaid h a0 = some r) : CT l yX6_huesLaid cX6_huesLaid 3 (some .int) 4 88 [.ref (a0)] h (some (.int r)) h := by
  refine CT.of (own := RX6) rfl (by decide) (Nat.le_of_ble_eq_true rfl) ?_
  intro p e R s m args below meth c g X hR C
  subst hR
  unfold f_X6_huesLaid at hf
  obtain ⟨hok, hf⟩ := gd_ok hf
  have hj32 : ∀ (x1 : Int32), f_X6_huesLaid_J32 h (x1) = some r → G p l e ({ frames := 4, cells := 0, slots := 0, locals := 88 } : Room) s m args below meth c 3 g X h 0 0 (MQ below (QW g X h s.heap.size (some (.int r)) h) args s 0 0 (AF X h s.heap.size)) 32 [(1, .int (x1))] [] h := by
    intro x1 hf
    unfold f_X6_huesLaid_J32 at hf
    refine G.iload_n C 0 dX6_huesLaid_32 rfl rfl ?_
    cases hf
    exact G.iret C rfl dX6_huesLaid_33
  refine G.sub C [0] (lv' := [(0, .ref (a0))]) rfl ?_
  refine G.iconst (v := 0) C dX6_huesLaid_0 (by decide) ?_
  refine G.istore_n (lv' := [(1, .int ((0 : Int32))), (0, .ref (a0))]) C dX6_huesLaid_1 rfl (by decide) rfl ?_
  refine G.iconst (v := 0) C dX6_huesLaid_2 (by decide) ?_
  refine G.istore_n (lv' := [(2, .int ((0 : Int32))), (1, .int ((0 : Int32))), (0, .ref (a0))]) C dX6_huesLaid_3 rfl (by decide) rfl ?_
  obtain ⟨z1, hlp1, hfo1⟩ := bind_some hf
  clear hf
  have hloop1 : ∀ (k : Nat), ∀ (x1 : Int32) (x2 : Int32), (lpn (f_X6_huesLaid_L4 (h) (a0)) k (x1, x2)) = some z1 → G p l e ({ frames := 4, cells := 0, slots := 0, locals := 88 } : Room) s m args below meth c 3 g X h 0 0 (MQ below (QW g X h s.heap.size (some (.int r)) h) args s 0 0 (AF X h s.heap.size)) 4 [(0, .ref (a0)), (1, .int (x1)), (2, .int (x2))] [] h := by
    intro k
    induction k with
    | zero => intro x1 x2 hlp1; exact (lpn_0 hlp1).elim
    | succ k ih1 =>
      intro x1 x2 hlp1
      obtain ⟨y1, hf, hlp1⟩ := lpn_s hlp1
      unfold f_X6_huesLaid_L4 at hf
      try dsimp only at hf
      have hj24 : ∀ (x2 : Int32) (k0 : Int32) (k1 : Int32), f_X6_huesLaid_J24 h (a0) (x2) k0 k1 = some y1 → G p l e ({ frames := 4, cells := 0, slots := 0, locals := 88 } : Room) s m args below meth c 3 g X h 0 0 (MQ below (QW g X h s.heap.size (some (.int r)) h) args s 0 0 (AF X h s.heap.size)) 24 [(0, .ref (a0)), (2, .int (x2))] [.int (k1), .int (k0)] h := by
        intro x2 k0 k1 hf
        unfold f_X6_huesLaid_J24 at hf
        refine G.iadd C dX6_huesLaid_24 ?_
        refine G.istore_n (lv' := [(1, .int ((k0 + k1))), (0, .ref (a0)), (2, .int (x2))]) C dX6_huesLaid_25 rfl (by decide) rfl ?_
        refine G.iinc (k := 2) (v := (x2 + 1)) (lv' := [(2, .int ((x2 + 1))), (1, .int ((k0 + k1))), (0, .ref (a0))]) C dX6_huesLaid_26 rfl rfl (by decide) rfl ?_
        refine G.goto (tgt := 4) C dX6_huesLaid_29 (by decide) ?_
        cases hf
        refine G.sub C [2, 1, 0] (lv' := [(0, .ref (a0)), (1, .int ((k0 + k1))), (2, .int ((x2 + 1)))]) rfl ?_
        exact ih1 _ _ hlp1
      refine G.iload_n C 2 dX6_huesLaid_4 rfl rfl ?_
      refine G.bipush (v := 8) C dX6_huesLaid_5 (by decide) ?_
      refine G.icmp_ge (tgt := 32) C dX6_huesLaid_7 (by decide) hf (fun c4 hf => ?_) (fun c4 hf => ?_)
      · cases hf
        change some _ = some _ at hlp1
        have hf := hfo1
        try rw [← Option.some.inj hlp1] at hf
        try dsimp only at hf
        refine G.sub C [1] (lv' := [(1, .int (x1))]) rfl ?_
        exact hj32 _ hf
      · refine G.iload_n C 1 dX6_huesLaid_10 rfl rfl ?_
        refine G.aload_n C 0 dX6_huesLaid_11 rfl rfl ?_
        refine G.iload_n C 2 dX6_huesLaid_12 rfl rfl ?_
        obtain ⟨v2, hv2, hf⟩ := bind_some hf
        try dsimp only at hf
        refine G.callV C (st := [.int (x1)]) (st2 := [.int (v2), .int (x1)]) (ct_X6_isLaidAnywhere hv2) (ko_X6_isLaidAnywhere hv2) rfl m9_147 m9_148 m9_149 m9_5 m9_150 kd_X6_isLaidAnywhere ⟨Nat.le_of_ble_eq_true rfl, Nat.le_of_ble_eq_true rfl⟩ ⟨Nat.zero_le _, Nat.zero_le _⟩ (Nat.le_of_ble_eq_true rfl) rfl rfl dX6_huesLaid_13 ?_
        refine G.if_eq (tgt := 23) C dX6_huesLaid_16 (by decide) hf (fun c3 hf => ?_) (fun c3 hf => ?_)
        · refine G.iconst (v := 0) C dX6_huesLaid_23 (by decide) ?_
          refine G.sub C [0, 2] (lv' := [(0, .ref (a0)), (2, .int (x2))]) rfl ?_
          exact hj24 _ _ _ hf
        · refine G.iconst (v := 1) C dX6_huesLaid_19 (by decide) ?_
          refine G.goto (tgt := 24) C dX6_huesLaid_20 (by decide) ?_
          refine G.sub C [0, 2] (lv' := [(0, .ref (a0)), (2, .int (x2))]) rfl ?_
          exact hj24 _ _ _ hf
  refine G.sub C [2, 1, 0] (lv' := [(0, .ref (a0)), (1, .int ((0 : Int32))), (2, .int ((0 : Int32)))]) rfl ?_
  exact hloop1 LF _ _ hlp1
theorem ko_X6_counted {h : PH} {a0 : Nat} {a1 : Int32} {r : Int32} (hf : f_X6_counted h a0 a1 = some r) : kO h a0 5 := by
  unfold f_X6_counted at hf
  exact okO_k (gd_ok hf).1
theorem kd_X6_counted : yX6_counted.cls = RX6 ∧ yX6_counted.cls ≠ "java/lang/invoke/MethodHandle" ∧ yX6_counted.cls ≠ "java/lang/invoke/VarHandle" ∧ (parseMethodDescriptor yX6_counted.desc).map (fun d => d.parameters.length) = some 1 := by decide +kernel
set_option maxRecDepth 20000 in
set_option maxHeartbeats 4000000 in
theorem ct_X6_counted {l : Launch} {h : PH} {a0 : Nat} {a1 : Int32} {r : Int32} (hf : f_X6_counted h a0 a1 = some r) : CT l yX6_counted cX6_counted 2 (some .int) 6 137 [.ref (a0), .int (a1)] h (some (.int r)) h := by
  refine CT.of (own := RX6) rfl (by decide) (Nat.le_of_ble_eq_true rfl) ?_
  intro p e R s m args below meth c g X hR C
  subst hR
  unfold f_X6_counted at hf
  obtain ⟨hok, hf⟩ := gd_ok hf
  have hj63 : ∀ (k0 : Nat) (k1 : Int32), f_X6_counted_J63 h k0 k1 = some r → G p l e ({ frames := 6, cells := 0, slots := 0, locals := 137 } : Room) s m args below meth c 2 g X h 0 0 (MQ below (QW g X h s.heap.size (some (.int r)) h) args s 0 0 (AF X h s.heap.size)) 63 [] [.int (k1), .ref (k0)] h := by
    intro k0 k1 hf
    unfold f_X6_counted_J63 at hf
    obtain ⟨v12, hv12, hf⟩ := bind_some hf
    try dsimp only at hf
    refine G.callV C (st := []) (st2 := [.int (v12)]) (ct_X6_sum hv12) (ko_X6_sum hv12) rfl m9_827 m9_828 m9_829 m9_5 m9_830 kd_X6_sum ⟨Nat.le_of_ble_eq_true rfl, Nat.le_of_ble_eq_true rfl⟩ ⟨Nat.zero_le _, Nat.zero_le _⟩ (Nat.le_of_ble_eq_true rfl) rfl rfl dX6_counted_63 ?_
    cases hf
    exact G.iret C rfl dX6_counted_66
  refine G.sub C [0, 1] (lv' := [(0, .ref (a0)), (1, .int (a1))]) rfl ?_
  refine G.iload_n C 1 dX6_counted_0 rfl rfl ?_
  by_cases c1 : a1 = 0
  · rw [if_pos c1] at hf
    refine G.tswIn (tgt := 44) (off := 43) C c1 dX6_counted_1 (by decide) (by decide) rfl (by decide) ?_
    refine G.aload_n C 0 dX6_counted_44 rfl rfl ?_
    refine G.getR (ci := 5) (k := 1) C rfl inlX6 (by decide) m9_70 rfl hf dX6_counted_45 (fun v2 hv2 hf => ?_)
    try dsimp only at hf
    refine G.bipush (v := 8) C dX6_counted_48 (by decide) ?_
    refine G.iald C hf dX6_counted_50 (fun v3 hv3 hf => ?_)
    try dsimp only at hf
    cases hf
    exact G.iret C rfl dX6_counted_51
  · rw [if_neg c1] at hf
    by_cases c4 : a1 = 1
    · rw [if_pos c4] at hf
      refine G.tswIn (tgt := 52) (off := 51) C c4 dX6_counted_1 (by decide) (by decide) rfl (by decide) ?_
      refine G.aload_n C 0 dX6_counted_52 rfl rfl ?_
      refine G.iload_n C 1 dX6_counted_53 rfl rfl ?_
      refine G.iconst (v := 2) C dX6_counted_54 (by decide) ?_
      refine G.icmp_ne (tgt := 62) C dX6_counted_55 (by decide) hf (fun c5 hf => ?_) (fun c5 hf => ?_)
      · refine G.iconst (v := 0) C dX6_counted_62 (by decide) ?_
        refine G.sub C [] (lv' := []) rfl ?_
        exact hj63 _ _ hf
      · refine G.iconst (v := 1) C dX6_counted_58 (by decide) ?_
        refine G.goto (tgt := 63) C dX6_counted_59 (by decide) ?_
        refine G.sub C [] (lv' := []) rfl ?_
        exact hj63 _ _ hf
    · rw [if_neg c4] at hf
      by_cases c6 : a1 = 2
      · rw [if_pos c6] at hf
        refine G.tswIn (tgt := 52) (off := 51) C c6 dX6_counted_1 (by decide) (by decide) rfl (by decide) ?_
        refine G.aload_n C 0 dX6_counted_52 rfl rfl ?_
        refine G.iload_n C 1 dX6_counted_53 rfl rfl ?_
        refine G.iconst (v := 2) C dX6_counted_54 (by decide) ?_
        refine G.icmp_ne (tgt := 62) C dX6_counted_55 (by decide) hf (fun c7 hf => ?_) (fun c7 hf => ?_)
        · refine G.iconst (v := 0) C dX6_counted_62 (by decide) ?_
          refine G.sub C [] (lv' := []) rfl ?_
          exact hj63 _ _ hf
        · refine G.iconst (v := 1) C dX6_counted_58 (by decide) ?_
          refine G.goto (tgt := 63) C dX6_counted_59 (by decide) ?_
          refine G.sub C [] (lv' := []) rfl ?_
          exact hj63 _ _ hf
      · rw [if_neg c6] at hf
        by_cases c8 : a1 = 3
        · rw [if_pos c8] at hf
          refine G.tswIn (tgt := 67) (off := 66) C c8 dX6_counted_1 (by decide) (by decide) rfl (by decide) ?_
          refine G.aload_n C 0 dX6_counted_67 rfl rfl ?_
          obtain ⟨v9, hv9, hf⟩ := bind_some hf
          try dsimp only at hf
          refine G.callV C (st := []) (st2 := [.int (v9)]) (ct_X6_huesLaid hv9) (ko_X6_huesLaid hv9) rfl m9_831 m9_832 m9_833 m9_5 m9_834 kd_X6_huesLaid ⟨Nat.le_of_ble_eq_true rfl, Nat.le_of_ble_eq_true rfl⟩ ⟨Nat.zero_le _, Nat.zero_le _⟩ (Nat.le_of_ble_eq_true rfl) rfl rfl dX6_counted_68 ?_
          cases hf
          exact G.iret C rfl dX6_counted_71
        · rw [if_neg c8] at hf
          by_cases c10 : a1 = 4
          · rw [if_pos c10] at hf
            refine G.tswIn (tgt := 72) (off := 71) C c10 dX6_counted_1 (by decide) (by decide) rfl (by decide) ?_
            refine G.aload_n C 0 dX6_counted_72 rfl rfl ?_
            refine G.getR (ci := 5) (k := 1) C rfl inlX6 (by decide) m9_70 rfl hf dX6_counted_73 (fun v11 hv11 hf => ?_)
            try dsimp only at hf
            refine G.bipush (v := 9) C dX6_counted_76 (by decide) ?_
            refine G.iload_n C 1 dX6_counted_78 rfl rfl ?_
            refine G.iadd C dX6_counted_79 ?_
            refine G.iconst (v := 4) C dX6_counted_80 (by decide) ?_
            refine G.isub C dX6_counted_81 ?_
            refine G.iald C hf dX6_counted_82 (fun v12 hv12 hf => ?_)
            try dsimp only at hf
            cases hf
            exact G.iret C rfl dX6_counted_83
          · rw [if_neg c10] at hf
            by_cases c13 : a1 = 5
            · rw [if_pos c13] at hf
              refine G.tswIn (tgt := 72) (off := 71) C c13 dX6_counted_1 (by decide) (by decide) rfl (by decide) ?_
              refine G.aload_n C 0 dX6_counted_72 rfl rfl ?_
              refine G.getR (ci := 5) (k := 1) C rfl inlX6 (by decide) m9_70 rfl hf dX6_counted_73 (fun v14 hv14 hf => ?_)
              try dsimp only at hf
              refine G.bipush (v := 9) C dX6_counted_76 (by decide) ?_
              refine G.iload_n C 1 dX6_counted_78 rfl rfl ?_
              refine G.iadd C dX6_counted_79 ?_
              refine G.iconst (v := 4) C dX6_counted_80 (by decide) ?_
              refine G.isub C dX6_counted_81 ?_
              refine G.iald C hf dX6_counted_82 (fun v15 hv15 hf => ?_)
              try dsimp only at hf
              cases hf
              exact G.iret C rfl dX6_counted_83
            · rw [if_neg c13] at hf
              by_cases c16 : a1 = 6
              · rw [if_pos c16] at hf
                refine G.tswIn (tgt := 72) (off := 71) C c16 dX6_counted_1 (by decide) (by decide) rfl (by decide) ?_
                refine G.aload_n C 0 dX6_counted_72 rfl rfl ?_
                refine G.getR (ci := 5) (k := 1) C rfl inlX6 (by decide) m9_70 rfl hf dX6_counted_73 (fun v17 hv17 hf => ?_)
                try dsimp only at hf
                refine G.bipush (v := 9) C dX6_counted_76 (by decide) ?_
                refine G.iload_n C 1 dX6_counted_78 rfl rfl ?_
                refine G.iadd C dX6_counted_79 ?_
                refine G.iconst (v := 4) C dX6_counted_80 (by decide) ?_
                refine G.isub C dX6_counted_81 ?_
                refine G.iald C hf dX6_counted_82 (fun v18 hv18 hf => ?_)
                try dsimp only at hf
                cases hf
                exact G.iret C rfl dX6_counted_83
              · rw [if_neg c16] at hf
                refine G.tswOut (tgt := 84) C dX6_counted_1 (by have q0 := lv_neT (a := 0) c1 (by decide); have q1 := lv_neT (a := 1) c4 (by decide); have q2 := lv_neT (a := 2) c6 (by decide); have q3 := lv_neT (a := 3) c8 (by decide); have q4 := lv_neT (a := 4) c10 (by decide); have q5 := lv_neT (a := 5) c13 (by decide); have q6 := lv_neT (a := 6) c16 (by decide); omega) (by decide) ?_
                refine G.aload_n C 0 dX6_counted_84 rfl rfl ?_
                refine G.getI (ci := 5) (k := 6) C rfl inlX6 (by decide) m9_171 rfl hf dX6_counted_85 (fun v19 hv19 hf => ?_)
                try dsimp only at hf
                cases hf
                exact G.iret C rfl dX6_counted_88
theorem ko_X6_count {h : PH} {a0 : Nat} {a1 : Int32} {r : (Int32 × PH)} (hf : f_X6_count h a0 a1 = some r) : kO h a0 5 := by
  unfold f_X6_count at hf
  exact okO_k (gd_ok hf).1
theorem kd_X6_count : yX6_count.cls = RX6 ∧ yX6_count.cls ≠ "java/lang/invoke/MethodHandle" ∧ yX6_count.cls ≠ "java/lang/invoke/VarHandle" ∧ (parseMethodDescriptor yX6_count.desc).map (fun d => d.parameters.length) = some 1 := by decide +kernel
set_option maxRecDepth 20000 in
set_option maxHeartbeats 4000000 in
theorem ct_X6_count {l : Launch} {h : PH} {a0 : Nat} {a1 : Int32} {r : (Int32 × PH)} (hf : f_X6_count h a0 a1 = some r) : CT l yX6_count cX6_count 2 (some .int) 7 158 [.ref (a0), .int (a1)] h (some (.int r.1)) r.2 := by
  refine CT.of (own := RX6) rfl (by decide) (Nat.le_of_ble_eq_true rfl) ?_
  intro p e R s m args below meth c g X hR C
  subst hR
  unfold f_X6_count at hf
  obtain ⟨hok, hf⟩ := gd_ok hf
  have hj31 : ∀ (hh : PH) (k0 : Int32), f_X6_count_J31 hh k0 = some r → G p l e ({ frames := 7, cells := 0, slots := 0, locals := 158 } : Room) s m args below meth c 2 g X h 0 0 (MQ below (QW g X h s.heap.size (some (.int r.1)) r.2) args s 0 0 (AF X h s.heap.size)) 31 [] [.int (k0)] hh := by
    intro hh k0 hf
    unfold f_X6_count_J31 at hf
    cases hf
    exact G.iret C rfl dX6_count_31
  have hj16 : ∀ (x0 : Nat) (x1 : Int32) (k0 : Nat) (k1 : Int32), f_X6_count_J16 h (x0) (x1) k0 k1 = some r → G p l e ({ frames := 7, cells := 0, slots := 0, locals := 158 } : Room) s m args below meth c 2 g X h 0 0 (MQ below (QW g X h s.heap.size (some (.int r.1)) r.2) args s 0 0 (AF X h s.heap.size)) 16 [(0, .ref (x0)), (1, .int (x1))] [.int (k1), .ref (k0)] h := by
    intro x0 x1 k0 k1 hf
    unfold f_X6_count_J16 at hf
    obtain ⟨⟨v6, h7⟩, hv6, hf⟩ := bind_some hf
    try dsimp only at hf
    refine G.callV C (st := []) (st2 := [.int (v6)]) (ct_X6_holds hv6) (ko_X6_holds hv6) rfl m9_162 m9_163 m9_164 m9_5 m9_165 kd_X6_holds ⟨Nat.le_of_ble_eq_true rfl, Nat.le_of_ble_eq_true rfl⟩ ⟨Nat.zero_le _, Nat.zero_le _⟩ (Nat.le_of_ble_eq_true rfl) rfl rfl dX6_count_16 ?_
    refine G.if_eq (tgt := 30) C dX6_count_19 (by decide) hf (fun c10 hf => ?_) (fun c10 hf => ?_)
    · refine G.iconst (v := 0) C dX6_count_30 (by decide) ?_
      refine G.sub C [] (lv' := []) rfl ?_
      exact hj31 _ _ hf
    · refine G.aload_n C 0 dX6_count_22 rfl rfl ?_
      refine G.iload_n C 1 dX6_count_23 rfl rfl ?_
      obtain ⟨v9, hv9, hf⟩ := bind_some hf
      try dsimp only at hf
      refine G.callV C (st := []) (st2 := [.int (v9)]) (ct_X6_counted hv9) (ko_X6_counted hv9) rfl m9_823 m9_824 m9_825 m9_5 m9_826 kd_X6_counted ⟨Nat.le_of_ble_eq_true rfl, Nat.le_of_ble_eq_true rfl⟩ ⟨Nat.zero_le _, Nat.zero_le _⟩ (Nat.le_of_ble_eq_true rfl) rfl rfl dX6_count_24 ?_
      refine G.goto (tgt := 31) C dX6_count_27 (by decide) ?_
      refine G.sub C [] (lv' := []) rfl ?_
      exact hj31 _ _ hf
  refine G.sub C [0, 1] (lv' := [(0, .ref (a0)), (1, .int (a1))]) rfl ?_
  refine G.aload_n C 0 dX6_count_0 rfl rfl ?_
  refine G.iload_n C 1 dX6_count_1 rfl rfl ?_
  refine G.iconst (v := 0) C dX6_count_2 (by decide) ?_
  refine G.bipush (v := 7) C dX6_count_3 (by decide) ?_
  obtain ⟨v1, hv1, hf⟩ := bind_some hf
  try dsimp only at hf
  refine G.callS C (st := [.ref (a0)]) (st2 := [.int (v1), .ref (a0)]) (ct_X6_in hv1) m9_144 m9_145 m9_5 m9_146 kd_X6_in ⟨Nat.le_of_ble_eq_true rfl, Nat.le_of_ble_eq_true rfl⟩ ⟨Nat.zero_le _, Nat.zero_le _⟩ (Nat.le_of_ble_eq_true rfl) rfl rfl dX6_count_5 ?_
  refine G.if_eq (tgt := 15) C dX6_count_8 (by decide) hf (fun c2 hf => ?_) (fun c2 hf => ?_)
  · refine G.iconst (v := 1) C dX6_count_15 (by decide) ?_
    refine G.sub C [0, 1] (lv' := [(0, .ref (a0)), (1, .int (a1))]) rfl ?_
    exact hj16 _ _ _ _ hf
  · refine G.iconst (v := 0) C dX6_count_11 (by decide) ?_
    refine G.goto (tgt := 16) C dX6_count_12 (by decide) ?_
    refine G.sub C [0, 1] (lv' := [(0, .ref (a0)), (1, .int (a1))]) rfl ?_
    exact hj16 _ _ _ _ hf
theorem ko_X6_refusal {h : PH} {a0 : Nat} {a1 : Int32} {a2 : Int32} {a3 : Int32} {r : (Int32 × PH)} (hf : f_X6_refusal h a0 a1 a2 a3 = some r) : kO h a0 5 := by
  unfold f_X6_refusal at hf
  exact okO_k (gd_ok hf).1
theorem kd_X6_refusal : yX6_refusal.cls = RX6 ∧ yX6_refusal.cls ≠ "java/lang/invoke/MethodHandle" ∧ yX6_refusal.cls ≠ "java/lang/invoke/VarHandle" ∧ (parseMethodDescriptor yX6_refusal.desc).map (fun d => d.parameters.length) = some 3 := by decide +kernel
set_option maxRecDepth 20000 in
set_option maxHeartbeats 4000000 in
theorem ct_X6_refusal {l : Launch} {h : PH} {a0 : Nat} {a1 : Int32} {a2 : Int32} {a3 : Int32} {r : (Int32 × PH)} (hf : f_X6_refusal h a0 a1 a2 a3 = some r) : CT l yX6_refusal cX6_refusal 4 (some .int) 5 116 [.ref (a0), .int (a1), .int (a2), .int (a3)] h (some (.int r.1)) r.2 := by
  refine CT.of (own := RX6) rfl (by decide) (Nat.le_of_ble_eq_true rfl) ?_
  intro p e R s m args below meth c g X hR C
  subst hR
  unfold f_X6_refusal at hf
  obtain ⟨hok, hf⟩ := gd_ok hf
  have hj45 : ∀ (hh : PH) (k0 : Int32), f_X6_refusal_J45 hh k0 = some r → G p l e ({ frames := 5, cells := 0, slots := 0, locals := 116 } : Room) s m args below meth c 4 g X h 0 0 (MQ below (QW g X h s.heap.size (some (.int r.1)) r.2) args s 0 0 (AF X h s.heap.size)) 45 [] [.int (k0)] hh := by
    intro hh k0 hf
    unfold f_X6_refusal_J45 at hf
    cases hf
    exact G.iret C rfl dX6_refusal_45
  have hj28 : ∀ (x0 : Nat) (x1 : Int32) (x2 : Int32) (x3 : Int32) (k0 : Nat) (k1 : Int32), f_X6_refusal_J28 h (x0) (x1) (x2) (x3) k0 k1 = some r → G p l e ({ frames := 5, cells := 0, slots := 0, locals := 116 } : Room) s m args below meth c 4 g X h 0 0 (MQ below (QW g X h s.heap.size (some (.int r.1)) r.2) args s 0 0 (AF X h s.heap.size)) 28 [(0, .ref (x0)), (1, .int (x1)), (2, .int (x2)), (3, .int (x3))] [.int (k1), .ref (k0)] h := by
    intro x0 x1 x2 x3 k0 k1 hf
    unfold f_X6_refusal_J28 at hf
    obtain ⟨⟨v7, h8⟩, hv7, hf⟩ := bind_some hf
    try dsimp only at hf
    refine G.callV C (st := []) (st2 := [.int (v7)]) (ct_X6_holds hv7) (ko_X6_holds hv7) rfl m9_162 m9_163 m9_164 m9_5 m9_165 kd_X6_holds ⟨Nat.le_of_ble_eq_true rfl, Nat.le_of_ble_eq_true rfl⟩ ⟨Nat.zero_le _, Nat.zero_le _⟩ (Nat.le_of_ble_eq_true rfl) rfl rfl dX6_refusal_28 ?_
    refine G.if_eq (tgt := 44) C dX6_refusal_31 (by decide) hf (fun c11 hf => ?_) (fun c11 hf => ?_)
    · refine G.iconst (v := 0) C dX6_refusal_44 (by decide) ?_
      refine G.sub C [] (lv' := []) rfl ?_
      exact hj45 _ _ hf
    · refine G.aload_n C 0 dX6_refusal_34 rfl rfl ?_
      refine G.iload_n C 1 dX6_refusal_35 rfl rfl ?_
      refine G.iload_n C 2 dX6_refusal_36 rfl rfl ?_
      refine G.iload_n C 3 dX6_refusal_37 rfl rfl ?_
      obtain ⟨v10, hv10, hf⟩ := bind_some hf
      try dsimp only at hf
      refine G.callV C (st := []) (st2 := [.int (v10)]) (ct_X6_why hv10) (ko_X6_why hv10) rfl m9_295 m9_296 m9_297 m9_5 m9_298 kd_X6_why ⟨Nat.le_of_ble_eq_true rfl, Nat.le_of_ble_eq_true rfl⟩ ⟨Nat.zero_le _, Nat.zero_le _⟩ (Nat.le_of_ble_eq_true rfl) rfl rfl dX6_refusal_38 ?_
      refine G.goto (tgt := 45) C dX6_refusal_41 (by decide) ?_
      refine G.sub C [] (lv' := []) rfl ?_
      exact hj45 _ _ hf
  refine G.sub C [0, 1, 2, 3] (lv' := [(0, .ref (a0)), (1, .int (a1)), (2, .int (a2)), (3, .int (a3))]) rfl ?_
  refine G.aload_n C 0 dX6_refusal_0 rfl rfl ?_
  refine G.aload_n C 0 dX6_refusal_1 rfl rfl ?_
  refine G.iload_n C 1 dX6_refusal_2 rfl rfl ?_
  refine G.iload_n C 2 dX6_refusal_3 rfl rfl ?_
  obtain ⟨v1, hv1, hf⟩ := bind_some hf
  try dsimp only at hf
  refine G.callV C (st := [.ref (a0)]) (st2 := [.int (v1), .ref (a0)]) (ct_X6_areThere hv1) (ko_X6_areThere hv1) rfl m9_287 m9_288 m9_289 m9_5 m9_290 kd_X6_areThere ⟨Nat.le_of_ble_eq_true rfl, Nat.le_of_ble_eq_true rfl⟩ ⟨Nat.zero_le _, Nat.zero_le _⟩ (Nat.le_of_ble_eq_true rfl) rfl rfl dX6_refusal_4 ?_
  refine G.if_ne (tgt := 14) C dX6_refusal_7 (by decide) hf (fun c4 hf => ?_) (fun c4 hf => ?_)
  · refine G.aload_n C 0 dX6_refusal_14 rfl rfl ?_
    refine G.iload_n C 2 dX6_refusal_15 rfl rfl ?_
    refine G.iload_n C 3 dX6_refusal_16 rfl rfl ?_
    obtain ⟨v2, hv2, hf⟩ := bind_some hf
    try dsimp only at hf
    refine G.callV C (st := [.ref (a0)]) (st2 := [.int (v2), .ref (a0)]) (ct_X6_isPhase hv2) (ko_X6_isPhase hv2) rfl m9_291 m9_292 m9_293 m9_5 m9_294 kd_X6_isPhase ⟨Nat.le_of_ble_eq_true rfl, Nat.le_of_ble_eq_true rfl⟩ ⟨Nat.zero_le _, Nat.zero_le _⟩ (Nat.le_of_ble_eq_true rfl) rfl rfl dX6_refusal_17 ?_
    refine G.if_ne (tgt := 27) C dX6_refusal_20 (by decide) hf (fun c3 hf => ?_) (fun c3 hf => ?_)
    · refine G.iconst (v := 0) C dX6_refusal_27 (by decide) ?_
      refine G.sub C [0, 1, 2, 3] (lv' := [(0, .ref (a0)), (1, .int (a1)), (2, .int (a2)), (3, .int (a3))]) rfl ?_
      exact hj28 _ _ _ _ _ _ hf
    · refine G.iconst (v := 2) C dX6_refusal_23 (by decide) ?_
      refine G.goto (tgt := 28) C dX6_refusal_24 (by decide) ?_
      refine G.sub C [0, 1, 2, 3] (lv' := [(0, .ref (a0)), (1, .int (a1)), (2, .int (a2)), (3, .int (a3))]) rfl ?_
      exact hj28 _ _ _ _ _ _ hf
  · refine G.iconst (v := 1) C dX6_refusal_10 (by decide) ?_
    refine G.goto (tgt := 28) C dX6_refusal_11 (by decide) ?_
    refine G.sub C [0, 1, 2, 3] (lv' := [(0, .ref (a0)), (1, .int (a1)), (2, .int (a2)), (3, .int (a3))]) rfl ?_
    exact hj28 _ _ _ _ _ _ hf
theorem ko_X6_meet {h : PH} {a0 : Nat} {a1 : Int32} {a2 : Int32} {a3 : Int32} {a4 : Int32} {r : Int32} (hf : f_X6_meet h a0 a1 a2 a3 a4 = some r) : kO h a0 5 := by
  unfold f_X6_meet at hf
  exact okO_k (gd_ok hf).1
theorem kd_X6_meet : yX6_meet.cls = RX6 ∧ yX6_meet.cls ≠ "java/lang/invoke/MethodHandle" ∧ yX6_meet.cls ≠ "java/lang/invoke/VarHandle" ∧ (parseMethodDescriptor yX6_meet.desc).map (fun d => d.parameters.length) = some 4 := by decide +kernel
set_option maxRecDepth 20000 in
set_option maxHeartbeats 4000000 in
theorem ct_X6_meet {l : Launch} {h : PH} {a0 : Nat} {a1 : Int32} {a2 : Int32} {a3 : Int32} {a4 : Int32} {r : Int32} (hf : f_X6_meet h a0 a1 a2 a3 a4 = some r) : CT l yX6_meet cX6_meet 6 (some .int) 0 0 [.ref (a0), .int (a1), .int (a2), .int (a3), .int (a4)] h (some (.int r)) h := by
  refine CT.of (own := RX6) rfl (by decide) (Nat.le_of_ble_eq_true rfl) ?_
  intro p e R s m args below meth c g X hR C
  subst hR
  unfold f_X6_meet at hf
  obtain ⟨hok, hf⟩ := gd_ok hf
  have hj55 : ∀ (x5 : Int32), f_X6_meet_J55 h (x5) = some r → G p l e ({ frames := 0, cells := 0, slots := 0, locals := 0 } : Room) s m args below meth c 6 g X h 0 0 (MQ below (QW g X h s.heap.size (some (.int r)) h) args s 0 0 (AF X h s.heap.size)) 55 [(5, .int (x5))] [] h := by
    intro x5 hf
    unfold f_X6_meet_J55 at hf
    refine G.iload C 0 dX6_meet_55 rfl ?_
    cases hf
    exact G.iret C rfl dX6_meet_57
  have hj64 : f_X6_meet_J64 h = some r → G p l e ({ frames := 0, cells := 0, slots := 0, locals := 0 } : Room) s m args below meth c 6 g X h 0 0 (MQ below (QW g X h s.heap.size (some (.int r)) h) args s 0 0 (AF X h s.heap.size)) 64 [] [] h := by
    intro hf
    unfold f_X6_meet_J64 at hf
    refine G.iconst (v := (-1)) C dX6_meet_64 (by decide) ?_
    cases hf
    exact G.iret C rfl dX6_meet_65
  have hj12 : ∀ (x0 : Nat) (x1 : Int32) (x2 : Int32) (x3 : Int32) (x4 : Int32) (k0 : Int32), f_X6_meet_J12 h (x0) (x1) (x2) (x3) (x4) k0 = some r → G p l e ({ frames := 0, cells := 0, slots := 0, locals := 0 } : Room) s m args below meth c 6 g X h 0 0 (MQ below (QW g X h s.heap.size (some (.int r)) h) args s 0 0 (AF X h s.heap.size)) 12 [(0, .ref (x0)), (1, .int (x1)), (2, .int (x2)), (3, .int (x3)), (4, .int (x4))] [.int (k0)] h := by
    intro x0 x1 x2 x3 x4 k0 hf
    unfold f_X6_meet_J12 at hf
    refine G.istore (lv' := [(5, .int (k0)), (0, .ref (x0)), (1, .int (x1)), (2, .int (x2)), (3, .int (x3)), (4, .int (x4))]) C dX6_meet_12 (by decide) rfl ?_
    obtain ⟨z8, hlp8, hfo8⟩ := bind_some hf
    clear hf
    have hloop8 : ∀ (k : Nat), ∀ (x5 : Int32), (lpn (f_X6_meet_L14 (h) (x0) (x1) (x2) (x3) (x4)) k (x5)) = some z8 → G p l e ({ frames := 0, cells := 0, slots := 0, locals := 0 } : Room) s m args below meth c 6 g X h 0 0 (MQ below (QW g X h s.heap.size (some (.int r)) h) args s 0 0 (AF X h s.heap.size)) 14 [(0, .ref (x0)), (1, .int (x1)), (2, .int (x2)), (3, .int (x3)), (4, .int (x4)), (5, .int (x5))] [] h := by
      intro k
      induction k with
      | zero => intro x5 hlp8; exact (lpn_0 hlp8).elim
      | succ k ih8 =>
        intro x5 hlp8
        obtain ⟨y8, hf, hlp8⟩ := lpn_s hlp8
        unfold f_X6_meet_L14 at hf
        try dsimp only at hf
        have hj58 : ∀ (x5 : Int32), f_X6_meet_J58 h (x0) (x1) (x2) (x3) (x4) (x5) = some y8 → G p l e ({ frames := 0, cells := 0, slots := 0, locals := 0 } : Room) s m args below meth c 6 g X h 0 0 (MQ below (QW g X h s.heap.size (some (.int r)) h) args s 0 0 (AF X h s.heap.size)) 58 [(0, .ref (x0)), (1, .int (x1)), (2, .int (x2)), (3, .int (x3)), (4, .int (x4)), (5, .int (x5))] [] h := by
          intro x5 hf
          unfold f_X6_meet_J58 at hf
          refine G.iinc (k := 5) (v := (x5 + 1)) (lv' := [(5, .int ((x5 + 1))), (0, .ref (x0)), (1, .int (x1)), (2, .int (x2)), (3, .int (x3)), (4, .int (x4))]) C dX6_meet_58 rfl rfl (by decide) rfl ?_
          refine G.goto (tgt := 14) C dX6_meet_61 (by decide) ?_
          cases hf
          refine G.sub C [1, 2, 3, 4, 5, 0] (lv' := [(0, .ref (x0)), (1, .int (x1)), (2, .int (x2)), (3, .int (x3)), (4, .int (x4)), (5, .int ((x5 + 1)))]) rfl ?_
          exact ih8 _ hlp8
        refine G.iload C 5 dX6_meet_14 rfl ?_
        refine G.sipush (v := 800) C dX6_meet_16 (by decide) ?_
        refine G.icmp_ge (tgt := 64) C dX6_meet_19 (by decide) hf (fun c17 hf => ?_) (fun c17 hf => ?_)
        · cases hf
          change some _ = some _ at hlp8
          have hf := hfo8
          try rw [← Option.some.inj hlp8] at hf
          try dsimp only at hf
          refine G.sub C [] (lv' := []) rfl ?_
          exact hj64  hf
        · refine G.iload C 5 dX6_meet_22 rfl ?_
          refine G.iload_n C 2 dX6_meet_24 rfl rfl ?_
          refine G.isub C dX6_meet_25 ?_
          refine G.aload_n C 0 dX6_meet_26 rfl rfl ?_
          refine G.getR (ci := 5) (k := 1) C rfl inlX6 (by decide) m9_70 rfl hf dX6_meet_27 (fun v9 hv9 hf => ?_)
          try dsimp only at hf
          refine G.iconst (v := 0) C dX6_meet_30 (by decide) ?_
          refine G.iload_n C 1 dX6_meet_31 rfl rfl ?_
          refine G.iadd C dX6_meet_32 ?_
          refine G.iald C hf dX6_meet_33 (fun v10 hv10 hf => ?_)
          try dsimp only at hf
          obtain ⟨c11, hf⟩ := gd_ok hf
          refine G.irem C dX6_meet_34 c11 ?_
          refine G.if_ne (tgt := 58) C dX6_meet_35 (by decide) hf (fun c16 hf => ?_) (fun c16 hf => ?_)
          · refine G.sub C [0, 1, 2, 3, 4, 5] (lv' := [(0, .ref (x0)), (1, .int (x1)), (2, .int (x2)), (3, .int (x3)), (4, .int (x4)), (5, .int (x5))]) rfl ?_
            exact hj58 _ hf
          · refine G.iload C 5 dX6_meet_38 rfl ?_
            refine G.iload C 4 dX6_meet_40 rfl ?_
            refine G.isub C dX6_meet_42 ?_
            refine G.aload_n C 0 dX6_meet_43 rfl rfl ?_
            refine G.getR (ci := 5) (k := 1) C rfl inlX6 (by decide) m9_70 rfl hf dX6_meet_44 (fun v12 hv12 hf => ?_)
            try dsimp only at hf
            refine G.iconst (v := 0) C dX6_meet_47 (by decide) ?_
            refine G.iload_n C 3 dX6_meet_48 rfl rfl ?_
            refine G.iadd C dX6_meet_49 ?_
            refine G.iald C hf dX6_meet_50 (fun v13 hv13 hf => ?_)
            try dsimp only at hf
            obtain ⟨c14, hf⟩ := gd_ok hf
            refine G.irem C dX6_meet_51 c14 ?_
            refine G.if_ne (tgt := 58) C dX6_meet_52 (by decide) hf (fun c15 hf => ?_) (fun c15 hf => ?_)
            · refine G.sub C [0, 1, 2, 3, 4, 5] (lv' := [(0, .ref (x0)), (1, .int (x1)), (2, .int (x2)), (3, .int (x3)), (4, .int (x4)), (5, .int (x5))]) rfl ?_
              exact hj58 _ hf
            · cases hf
              change some _ = some _ at hlp8
              have hf := hfo8
              try rw [← Option.some.inj hlp8] at hf
              try dsimp only at hf
              refine G.sub C [5] (lv' := [(5, .int (x5))]) rfl ?_
              exact hj55 _ hf
    refine G.sub C [1, 2, 3, 4, 5, 0] (lv' := [(0, .ref (x0)), (1, .int (x1)), (2, .int (x2)), (3, .int (x3)), (4, .int (x4)), (5, .int (k0))]) rfl ?_
    exact hloop8 LF _ hlp8
  refine G.sub C [0, 1, 2, 3, 4] (lv' := [(0, .ref (a0)), (1, .int (a1)), (2, .int (a2)), (3, .int (a3)), (4, .int (a4))]) rfl ?_
  refine G.iload_n C 2 dX6_meet_0 rfl rfl ?_
  refine G.iload C 4 dX6_meet_1 rfl ?_
  refine G.icmp_le (tgt := 10) C dX6_meet_3 (by decide) hf (fun c1 hf => ?_) (fun c1 hf => ?_)
  · refine G.iload C 4 dX6_meet_10 rfl ?_
    refine G.sub C [0, 1, 2, 3, 4] (lv' := [(0, .ref (a0)), (1, .int (a1)), (2, .int (a2)), (3, .int (a3)), (4, .int (a4))]) rfl ?_
    exact hj12 _ _ _ _ _ _ hf
  · refine G.iload_n C 2 dX6_meet_6 rfl rfl ?_
    refine G.goto (tgt := 12) C dX6_meet_7 (by decide) ?_
    refine G.sub C [0, 1, 2, 3, 4] (lv' := [(0, .ref (a0)), (1, .int (a1)), (2, .int (a2)), (3, .int (a3)), (4, .int (a4))]) rfl ?_
    exact hj12 _ _ _ _ _ _ hf
theorem ko_X6_canMeet {h : PH} {a0 : Nat} {a1 : Int32} {a2 : Int32} {a3 : Int32} {a4 : Int32} {r : (Int32 × PH)} (hf : f_X6_canMeet h a0 a1 a2 a3 a4 = some r) : kO h a0 5 := by
  unfold f_X6_canMeet at hf
  exact okO_k (gd_ok hf).1
theorem kd_X6_canMeet : yX6_canMeet.cls = RX6 ∧ yX6_canMeet.cls ≠ "java/lang/invoke/MethodHandle" ∧ yX6_canMeet.cls ≠ "java/lang/invoke/VarHandle" ∧ (parseMethodDescriptor yX6_canMeet.desc).map (fun d => d.parameters.length) = some 4 := by decide +kernel
set_option maxRecDepth 20000 in
set_option maxHeartbeats 4000000 in
theorem ct_X6_canMeet {l : Launch} {h : PH} {a0 : Nat} {a1 : Int32} {a2 : Int32} {a3 : Int32} {a4 : Int32} {r : (Int32 × PH)} (hf : f_X6_canMeet h a0 a1 a2 a3 a4 = some r) : CT l yX6_canMeet cX6_canMeet 6 (some .boolean) 2 44 [.ref (a0), .int (a1), .int (a2), .int (a3), .int (a4)] h (some (.int r.1)) r.2 := by
  refine CT.of (own := RX6) rfl (by decide) (Nat.le_of_ble_eq_true rfl) ?_
  intro p e R s m args below meth c g X hR C
  subst hR
  unfold f_X6_canMeet at hf
  obtain ⟨hok, hf⟩ := gd_ok hf
  have hj55 : ∀ (k0 : Nat) (k1 : Int32), f_X6_canMeet_J55 h k0 k1 = some r → G p l e ({ frames := 2, cells := 0, slots := 0, locals := 44 } : Room) s m args below meth c 6 g X h 0 0 (MQ below (QW g X h s.heap.size (some (.int r.1)) r.2) args s 0 0 (AF X h s.heap.size)) 55 [] [.int (k1), .ref (k0)] h := by
    intro k0 k1 hf
    unfold f_X6_canMeet_J55 at hf
    obtain ⟨⟨v9, h10⟩, hv9, hf⟩ := bind_some hf
    try dsimp only at hf
    refine G.callV C (st := []) (st2 := [.int (v9)]) (ct_X6_holds hv9) (ko_X6_holds hv9) rfl m9_162 m9_163 m9_164 m9_5 m9_165 kd_X6_holds ⟨Nat.le_of_ble_eq_true rfl, Nat.le_of_ble_eq_true rfl⟩ ⟨Nat.zero_le _, Nat.zero_le _⟩ (Nat.le_of_ble_eq_true rfl) rfl rfl dX6_canMeet_55 ?_
    obtain ⟨c12, hf⟩ := gd_ok hf
    cases hf
    exact G.zret C rfl (z01_n c12) dX6_canMeet_58
  have hj50 : ∀ (k0 : Nat), f_X6_canMeet_J50 h k0 = some r → G p l e ({ frames := 2, cells := 0, slots := 0, locals := 44 } : Room) s m args below meth c 6 g X h 0 0 (MQ below (QW g X h s.heap.size (some (.int r.1)) r.2) args s 0 0 (AF X h s.heap.size)) 50 [] [.ref (k0)] h := by
    intro k0 hf
    unfold f_X6_canMeet_J50 at hf
    refine G.iconst (v := 2) C dX6_canMeet_50 (by decide) ?_
    refine G.goto (tgt := 55) C dX6_canMeet_51 (by decide) ?_
    refine G.sub C [] (lv' := []) rfl ?_
    exact hj55 _ _ hf
  have hj19 : ∀ (x0 : Nat) (x1 : Int32) (x2 : Int32) (x3 : Int32) (x4 : Int32) (k0 : Int32), f_X6_canMeet_J19 h (x0) (x1) (x2) (x3) (x4) k0 = some r → G p l e ({ frames := 2, cells := 0, slots := 0, locals := 44 } : Room) s m args below meth c 6 g X h 0 0 (MQ below (QW g X h s.heap.size (some (.int r.1)) r.2) args s 0 0 (AF X h s.heap.size)) 19 [(0, .ref (x0)), (1, .int (x1)), (2, .int (x2)), (3, .int (x3)), (4, .int (x4))] [.int (k0)] h := by
    intro x0 x1 x2 x3 x4 k0 hf
    unfold f_X6_canMeet_J19 at hf
    refine G.istore (lv' := [(5, .int (k0)), (0, .ref (x0)), (1, .int (x1)), (2, .int (x2)), (3, .int (x3)), (4, .int (x4))]) C dX6_canMeet_19 (by decide) rfl ?_
    refine G.aload_n C 1 dX6_canMeet_21 rfl rfl ?_
    refine G.iload C 0 dX6_canMeet_22 rfl ?_
    refine G.if_ne (tgt := 31) C dX6_canMeet_24 (by decide) hf (fun c17 hf => ?_) (fun c17 hf => ?_)
    · refine G.aload_n C 1 dX6_canMeet_31 rfl rfl ?_
      refine G.iload_n C 2 dX6_canMeet_32 rfl rfl ?_
      refine G.iload_n C 3 dX6_canMeet_33 rfl rfl ?_
      obtain ⟨v13, hv13, hf⟩ := bind_some hf
      try dsimp only at hf
      refine G.callV C (st := [.ref (x0)]) (st2 := [.int (v13), .ref (x0)]) (ct_X6_isPhase hv13) (ko_X6_isPhase hv13) rfl m9_291 m9_292 m9_293 m9_5 m9_294 kd_X6_isPhase ⟨Nat.le_of_ble_eq_true rfl, Nat.le_of_ble_eq_true rfl⟩ ⟨Nat.zero_le _, Nat.zero_le _⟩ (Nat.le_of_ble_eq_true rfl) rfl rfl dX6_canMeet_34 ?_
      refine G.if_eq (tgt := 50) C dX6_canMeet_37 (by decide) hf (fun c16 hf => ?_) (fun c16 hf => ?_)
      · refine G.sub C [] (lv' := []) rfl ?_
        exact hj50 _ hf
      · refine G.aload_n C 1 dX6_canMeet_40 rfl rfl ?_
        refine G.iload_n C 4 dX6_canMeet_41 rfl rfl ?_
        refine G.iload C 5 dX6_canMeet_42 rfl ?_
        obtain ⟨v14, hv14, hf⟩ := bind_some hf
        try dsimp only at hf
        refine G.callV C (st := [.ref (x0)]) (st2 := [.int (v14), .ref (x0)]) (ct_X6_isPhase hv14) (ko_X6_isPhase hv14) rfl m9_291 m9_292 m9_293 m9_5 m9_294 kd_X6_isPhase ⟨Nat.le_of_ble_eq_true rfl, Nat.le_of_ble_eq_true rfl⟩ ⟨Nat.zero_le _, Nat.zero_le _⟩ (Nat.le_of_ble_eq_true rfl) rfl rfl dX6_canMeet_44 ?_
        refine G.if_ne (tgt := 54) C dX6_canMeet_47 (by decide) hf (fun c15 hf => ?_) (fun c15 hf => ?_)
        · refine G.iconst (v := 0) C dX6_canMeet_54 (by decide) ?_
          refine G.sub C [] (lv' := []) rfl ?_
          exact hj55 _ _ hf
        · refine G.sub C [] (lv' := []) rfl ?_
          exact hj50 _ hf
    · refine G.iconst (v := 1) C dX6_canMeet_27 (by decide) ?_
      refine G.goto (tgt := 55) C dX6_canMeet_28 (by decide) ?_
      refine G.sub C [] (lv' := []) rfl ?_
      exact hj55 _ _ hf
  have hj18 : ∀ (x0 : Nat) (x1 : Int32) (x2 : Int32) (x3 : Int32) (x4 : Int32), f_X6_canMeet_J18 h (x0) (x1) (x2) (x3) (x4) = some r → G p l e ({ frames := 2, cells := 0, slots := 0, locals := 44 } : Room) s m args below meth c 6 g X h 0 0 (MQ below (QW g X h s.heap.size (some (.int r.1)) r.2) args s 0 0 (AF X h s.heap.size)) 18 [(0, .ref (x0)), (1, .int (x1)), (2, .int (x2)), (3, .int (x3)), (4, .int (x4))] [] h := by
    intro x0 x1 x2 x3 x4 hf
    unfold f_X6_canMeet_J18 at hf
    refine G.iconst (v := 0) C dX6_canMeet_18 (by decide) ?_
    refine G.sub C [0, 1, 2, 3, 4] (lv' := [(0, .ref (x0)), (1, .int (x1)), (2, .int (x2)), (3, .int (x3)), (4, .int (x4))]) rfl ?_
    exact hj19 _ _ _ _ _ _ hf
  refine G.sub C [0, 1, 2, 3, 4] (lv' := [(0, .ref (a0)), (1, .int (a1)), (2, .int (a2)), (3, .int (a3)), (4, .int (a4))]) rfl ?_
  refine G.iload_n C 1 dX6_canMeet_0 rfl rfl ?_
  obtain ⟨v1, hv1, hf⟩ := bind_some hf
  try dsimp only at hf
  refine G.callS C (st := []) (st2 := [.int (v1)]) (ct_X6_isHue hv1) m9_141 m9_142 m9_5 m9_143 kd_X6_isHue ⟨Nat.le_of_ble_eq_true rfl, Nat.le_of_ble_eq_true rfl⟩ ⟨Nat.zero_le _, Nat.zero_le _⟩ (Nat.le_of_ble_eq_true rfl) rfl rfl dX6_canMeet_1 ?_
  refine G.if_eq (tgt := 18) C dX6_canMeet_4 (by decide) hf (fun c4 hf => ?_) (fun c4 hf => ?_)
  · refine G.sub C [0, 1, 2, 3, 4] (lv' := [(0, .ref (a0)), (1, .int (a1)), (2, .int (a2)), (3, .int (a3)), (4, .int (a4))]) rfl ?_
    exact hj18 _ _ _ _ _ hf
  · refine G.iload_n C 3 dX6_canMeet_7 rfl rfl ?_
    obtain ⟨v2, hv2, hf⟩ := bind_some hf
    try dsimp only at hf
    refine G.callS C (st := []) (st2 := [.int (v2)]) (ct_X6_isHue hv2) m9_141 m9_142 m9_5 m9_143 kd_X6_isHue ⟨Nat.le_of_ble_eq_true rfl, Nat.le_of_ble_eq_true rfl⟩ ⟨Nat.zero_le _, Nat.zero_le _⟩ (Nat.le_of_ble_eq_true rfl) rfl rfl dX6_canMeet_8 ?_
    refine G.if_eq (tgt := 18) C dX6_canMeet_11 (by decide) hf (fun c3 hf => ?_) (fun c3 hf => ?_)
    · refine G.sub C [0, 1, 2, 3, 4] (lv' := [(0, .ref (a0)), (1, .int (a1)), (2, .int (a2)), (3, .int (a3)), (4, .int (a4))]) rfl ?_
      exact hj18 _ _ _ _ _ hf
    · refine G.iconst (v := 1) C dX6_canMeet_14 (by decide) ?_
      refine G.goto (tgt := 19) C dX6_canMeet_15 (by decide) ?_
      refine G.sub C [0, 1, 2, 3, 4] (lv' := [(0, .ref (a0)), (1, .int (a1)), (2, .int (a2)), (3, .int (a3)), (4, .int (a4))]) rfl ?_
      exact hj19 _ _ _ _ _ _ hf
theorem ko_X6_meeting {h : PH} {a0 : Nat} {a1 : Int32} {a2 : Int32} {a3 : Int32} {a4 : Int32} {r : (Int32 × PH)} (hf : f_X6_meeting h a0 a1 a2 a3 a4 = some r) : kO h a0 5 := by
  unfold f_X6_meeting at hf
  exact okO_k (gd_ok hf).1
theorem kd_X6_meeting : yX6_meeting.cls = RX6 ∧ yX6_meeting.cls ≠ "java/lang/invoke/MethodHandle" ∧ yX6_meeting.cls ≠ "java/lang/invoke/VarHandle" ∧ (parseMethodDescriptor yX6_meeting.desc).map (fun d => d.parameters.length) = some 4 := by decide +kernel
set_option maxRecDepth 20000 in
set_option maxHeartbeats 4000000 in
theorem ct_X6_meeting {l : Launch} {h : PH} {a0 : Nat} {a1 : Int32} {a2 : Int32} {a3 : Int32} {a4 : Int32} {r : (Int32 × PH)} (hf : f_X6_meeting h a0 a1 a2 a3 a4 = some r) : CT l yX6_meeting cX6_meeting 5 (some .int) 3 69 [.ref (a0), .int (a1), .int (a2), .int (a3), .int (a4)] h (some (.int r.1)) r.2 := by
  refine CT.of (own := RX6) rfl (by decide) (Nat.le_of_ble_eq_true rfl) ?_
  intro p e R s m args below meth c g X hR C
  subst hR
  unfold f_X6_meeting at hf
  obtain ⟨hok, hf⟩ := gd_ok hf
  have hj25 : ∀ (hh : PH) (k0 : Int32), f_X6_meeting_J25 hh k0 = some r → G p l e ({ frames := 3, cells := 0, slots := 0, locals := 69 } : Room) s m args below meth c 5 g X h 0 0 (MQ below (QW g X h s.heap.size (some (.int r.1)) r.2) args s 0 0 (AF X h s.heap.size)) 25 [] [.int (k0)] hh := by
    intro hh k0 hf
    unfold f_X6_meeting_J25 at hf
    cases hf
    exact G.iret C rfl dX6_meeting_25
  refine G.sub C [0, 1, 2, 3, 4] (lv' := [(0, .ref (a0)), (1, .int (a1)), (2, .int (a2)), (3, .int (a3)), (4, .int (a4))]) rfl ?_
  refine G.aload_n C 0 dX6_meeting_0 rfl rfl ?_
  refine G.iload_n C 1 dX6_meeting_1 rfl rfl ?_
  refine G.iload_n C 2 dX6_meeting_2 rfl rfl ?_
  refine G.iload_n C 3 dX6_meeting_3 rfl rfl ?_
  refine G.iload C 4 dX6_meeting_4 rfl ?_
  obtain ⟨⟨v1, h2⟩, hv1, hf⟩ := bind_some hf
  try dsimp only at hf
  refine G.callV C (st := []) (st2 := [.int (v1)]) (ct_X6_canMeet hv1) (ko_X6_canMeet hv1) rfl m9_861 m9_862 m9_863 m9_5 m9_864 kd_X6_canMeet ⟨Nat.le_of_ble_eq_true rfl, Nat.le_of_ble_eq_true rfl⟩ ⟨Nat.zero_le _, Nat.zero_le _⟩ (Nat.le_of_ble_eq_true rfl) rfl rfl dX6_meeting_6 ?_
  refine G.if_eq (tgt := 24) C dX6_meeting_9 (by decide) hf (fun c5 hf => ?_) (fun c5 hf => ?_)
  · refine G.iconst (v := 0) C dX6_meeting_24 (by decide) ?_
    refine G.sub C [] (lv' := []) rfl ?_
    exact hj25 _ _ hf
  · refine G.aload_n C 0 dX6_meeting_12 rfl rfl ?_
    refine G.iload_n C 1 dX6_meeting_13 rfl rfl ?_
    refine G.iload_n C 2 dX6_meeting_14 rfl rfl ?_
    refine G.iload_n C 3 dX6_meeting_15 rfl rfl ?_
    refine G.iload C 4 dX6_meeting_16 rfl ?_
    obtain ⟨v4, hv4, hf⟩ := bind_some hf
    try dsimp only at hf
    refine G.callV C (st := []) (st2 := [.int (v4)]) (ct_X6_meet hv4) (ko_X6_meet hv4) rfl m9_865 m9_866 m9_867 m9_5 m9_868 kd_X6_meet ⟨Nat.le_of_ble_eq_true rfl, Nat.le_of_ble_eq_true rfl⟩ ⟨Nat.zero_le _, Nat.zero_le _⟩ (Nat.le_of_ble_eq_true rfl) rfl rfl dX6_meeting_18 ?_
    refine G.goto (tgt := 25) C dX6_meeting_21 (by decide) ?_
    refine G.sub C [] (lv' := []) rfl ?_
    exact hj25 _ _ hf
theorem ko_X6_walked {h : PH} {a0 : Nat} {a1 : Int32} {a2 : Int32} {a3 : Int32} {a4 : Int32} {r : (Int32 × PH)} (hf : f_X6_walked h a0 a1 a2 a3 a4 = some r) : kO h a0 5 := by
  unfold f_X6_walked at hf
  exact okO_k (gd_ok hf).1
theorem kd_X6_walked : yX6_walked.cls = RX6 ∧ yX6_walked.cls ≠ "java/lang/invoke/MethodHandle" ∧ yX6_walked.cls ≠ "java/lang/invoke/VarHandle" ∧ (parseMethodDescriptor yX6_walked.desc).map (fun d => d.parameters.length) = some 4 := by decide +kernel
set_option maxRecDepth 20000 in
set_option maxHeartbeats 4000000 in
theorem ct_X6_walked {l : Launch} {h : PH} {a0 : Nat} {a1 : Int32} {a2 : Int32} {a3 : Int32} {a4 : Int32} {r : (Int32 × PH)} (hf : f_X6_walked h a0 a1 a2 a3 a4 = some r) : CT l yX6_walked cX6_walked 5 (some .int) 3 69 [.ref (a0), .int (a1), .int (a2), .int (a3), .int (a4)] h (some (.int r.1)) r.2 := by
  refine CT.of (own := RX6) rfl (by decide) (Nat.le_of_ble_eq_true rfl) ?_
  intro p e R s m args below meth c g X hR C
  subst hR
  unfold f_X6_walked at hf
  obtain ⟨hok, hf⟩ := gd_ok hf
  have hj25 : ∀ (hh : PH) (k0 : Int32), f_X6_walked_J25 hh k0 = some r → G p l e ({ frames := 3, cells := 0, slots := 0, locals := 69 } : Room) s m args below meth c 5 g X h 0 0 (MQ below (QW g X h s.heap.size (some (.int r.1)) r.2) args s 0 0 (AF X h s.heap.size)) 25 [] [.int (k0)] hh := by
    intro hh k0 hf
    unfold f_X6_walked_J25 at hf
    cases hf
    exact G.iret C rfl dX6_walked_25
  refine G.sub C [0, 1, 2, 3, 4] (lv' := [(0, .ref (a0)), (1, .int (a1)), (2, .int (a2)), (3, .int (a3)), (4, .int (a4))]) rfl ?_
  refine G.aload_n C 0 dX6_walked_0 rfl rfl ?_
  refine G.iload_n C 1 dX6_walked_1 rfl rfl ?_
  refine G.iload_n C 2 dX6_walked_2 rfl rfl ?_
  refine G.iload_n C 3 dX6_walked_3 rfl rfl ?_
  refine G.iload C 4 dX6_walked_4 rfl ?_
  obtain ⟨⟨v1, h2⟩, hv1, hf⟩ := bind_some hf
  try dsimp only at hf
  refine G.callV C (st := []) (st2 := [.int (v1)]) (ct_X6_canMeet hv1) (ko_X6_canMeet hv1) rfl m9_861 m9_862 m9_863 m9_5 m9_864 kd_X6_canMeet ⟨Nat.le_of_ble_eq_true rfl, Nat.le_of_ble_eq_true rfl⟩ ⟨Nat.zero_le _, Nat.zero_le _⟩ (Nat.le_of_ble_eq_true rfl) rfl rfl dX6_walked_6 ?_
  refine G.if_eq (tgt := 24) C dX6_walked_9 (by decide) hf (fun c5 hf => ?_) (fun c5 hf => ?_)
  · refine G.iconst (v := 0) C dX6_walked_24 (by decide) ?_
    refine G.sub C [] (lv' := []) rfl ?_
    exact hj25 _ _ hf
  · refine G.aload_n C 0 dX6_walked_12 rfl rfl ?_
    refine G.iload_n C 1 dX6_walked_13 rfl rfl ?_
    refine G.iload_n C 2 dX6_walked_14 rfl rfl ?_
    refine G.iload_n C 3 dX6_walked_15 rfl rfl ?_
    refine G.iload C 4 dX6_walked_16 rfl ?_
    obtain ⟨v4, hv4, hf⟩ := bind_some hf
    try dsimp only at hf
    refine G.callV C (st := []) (st2 := [.int (v4)]) (ct_X6_meet hv4) (ko_X6_meet hv4) rfl m9_865 m9_866 m9_867 m9_5 m9_868 kd_X6_meet ⟨Nat.le_of_ble_eq_true rfl, Nat.le_of_ble_eq_true rfl⟩ ⟨Nat.zero_le _, Nat.zero_le _⟩ (Nat.le_of_ble_eq_true rfl) rfl rfl dX6_walked_18 ?_
    refine G.goto (tgt := 25) C dX6_walked_21 (by decide) ?_
    refine G.sub C [] (lv' := []) rfl ?_
    exact hj25 _ _ hf
theorem ko_X6_wouldTake {h : PH} {a0 : Nat} {a1 : Int32} {a2 : Int32} {a3 : Int32} {r : Int32} (hf : f_X6_wouldTake h a0 a1 a2 a3 = some r) : kO h a0 5 := by
  unfold f_X6_wouldTake at hf
  exact okO_k (gd_ok hf).1
theorem kd_X6_wouldTake : yX6_wouldTake.cls = RX6 ∧ yX6_wouldTake.cls ≠ "java/lang/invoke/MethodHandle" ∧ yX6_wouldTake.cls ≠ "java/lang/invoke/VarHandle" ∧ (parseMethodDescriptor yX6_wouldTake.desc).map (fun d => d.parameters.length) = some 3 := by decide +kernel
set_option maxRecDepth 20000 in
set_option maxHeartbeats 4000000 in
theorem ct_X6_wouldTake {l : Launch} {h : PH} {a0 : Nat} {a1 : Int32} {a2 : Int32} {a3 : Int32} {r : Int32} (hf : f_X6_wouldTake h a0 a1 a2 a3 = some r) : CT l yX6_wouldTake cX6_wouldTake 4 (some .int) 1 21 [.ref (a0), .int (a1), .int (a2), .int (a3)] h (some (.int r)) h := by
  refine CT.of (own := RX6) rfl (by decide) (Nat.le_of_ble_eq_true rfl) ?_
  intro p e R s m args below meth c g X hR C
  subst hR
  unfold f_X6_wouldTake at hf
  obtain ⟨hok, hf⟩ := gd_ok hf
  refine G.sub C [0, 1, 2, 3] (lv' := [(0, .ref (a0)), (1, .int (a1)), (2, .int (a2)), (3, .int (a3))]) rfl ?_
  refine G.aload_n C 0 dX6_wouldTake_0 rfl rfl ?_
  refine G.getR (ci := 5) (k := 1) C rfl inlX6 (by decide) m9_70 rfl hf dX6_wouldTake_1 (fun v1 hv1 hf => ?_)
  try dsimp only at hf
  refine G.iload_n C 1 dX6_wouldTake_4 rfl rfl ?_
  refine G.iconst (v := 0) C dX6_wouldTake_5 (by decide) ?_
  obtain ⟨v2, hv2, hf⟩ := bind_some hf
  try dsimp only at hf
  refine G.callS C (st := [.ref (v1)]) (st2 := [.int (v2), .ref (v1)]) (ct_X6_of hv2) m9_159 m9_160 m9_5 m9_161 kd_X6_of ⟨Nat.le_of_ble_eq_true rfl, Nat.le_of_ble_eq_true rfl⟩ ⟨Nat.zero_le _, Nat.zero_le _⟩ (Nat.le_of_ble_eq_true rfl) rfl rfl dX6_wouldTake_6 ?_
  refine G.iald C hf dX6_wouldTake_9 (fun v3 hv3 hf => ?_)
  try dsimp only at hf
  refine G.iload_n C 3 dX6_wouldTake_10 rfl rfl ?_
  refine G.isub C dX6_wouldTake_11 ?_
  refine G.aload_n C 0 dX6_wouldTake_12 rfl rfl ?_
  refine G.getR (ci := 5) (k := 1) C rfl inlX6 (by decide) m9_70 rfl hf dX6_wouldTake_13 (fun v4 hv4 hf => ?_)
  try dsimp only at hf
  refine G.iconst (v := 0) C dX6_wouldTake_16 (by decide) ?_
  refine G.iload_n C 2 dX6_wouldTake_17 rfl rfl ?_
  refine G.iadd C dX6_wouldTake_18 ?_
  refine G.iald C hf dX6_wouldTake_19 (fun v5 hv5 hf => ?_)
  try dsimp only at hf
  refine G.iadd C dX6_wouldTake_20 ?_
  refine G.iconst (v := 1) C dX6_wouldTake_21 (by decide) ?_
  refine G.isub C dX6_wouldTake_22 ?_
  refine G.aload_n C 0 dX6_wouldTake_23 rfl rfl ?_
  refine G.getR (ci := 5) (k := 1) C rfl inlX6 (by decide) m9_70 rfl hf dX6_wouldTake_24 (fun v6 hv6 hf => ?_)
  try dsimp only at hf
  refine G.iconst (v := 0) C dX6_wouldTake_27 (by decide) ?_
  refine G.iload_n C 2 dX6_wouldTake_28 rfl rfl ?_
  refine G.iadd C dX6_wouldTake_29 ?_
  refine G.iald C hf dX6_wouldTake_30 (fun v7 hv7 hf => ?_)
  try dsimp only at hf
  obtain ⟨c8, hf⟩ := gd_ok hf
  refine G.idiv C dX6_wouldTake_31 c8 ?_
  cases hf
  exact G.iret C rfl dX6_wouldTake_32
theorem ko_X6_toldOfPhases {h : PH} {a0 : Nat} {a1 : Int32} {a2 : Int32} {a3 : Int32} {r : Int32} (hf : f_X6_toldOfPhases h a0 a1 a2 a3 = some r) : kO h a0 5 := by
  unfold f_X6_toldOfPhases at hf
  exact okO_k (gd_ok hf).1
theorem kd_X6_toldOfPhases : yX6_toldOfPhases.cls = RX6 ∧ yX6_toldOfPhases.cls ≠ "java/lang/invoke/MethodHandle" ∧ yX6_toldOfPhases.cls ≠ "java/lang/invoke/VarHandle" ∧ (parseMethodDescriptor yX6_toldOfPhases.desc).map (fun d => d.parameters.length) = some 3 := by decide +kernel
set_option maxRecDepth 20000 in
set_option maxHeartbeats 4000000 in
theorem ct_X6_toldOfPhases {l : Launch} {h : PH} {a0 : Nat} {a1 : Int32} {a2 : Int32} {a3 : Int32} {r : Int32} (hf : f_X6_toldOfPhases h a0 a1 a2 a3 = some r) : CT l yX6_toldOfPhases cX6_toldOfPhases 9 (some .int) 5 116 [.ref (a0), .int (a1), .int (a2), .int (a3)] h (some (.int r)) h := by
  refine CT.of (own := RX6) rfl (by decide) (Nat.le_of_ble_eq_true rfl) ?_
  intro p e R s m args below meth c g X hR C
  subst hR
  unfold f_X6_toldOfPhases at hf
  obtain ⟨hok, hf⟩ := gd_ok hf
  have hj139 : ∀ (k0 : Int32), f_X6_toldOfPhases_J139 h k0 = some r → G p l e ({ frames := 5, cells := 0, slots := 0, locals := 116 } : Room) s m args below meth c 9 g X h 0 0 (MQ below (QW g X h s.heap.size (some (.int r)) h) args s 0 0 (AF X h s.heap.size)) 139 [] [.int (k0)] h := by
    intro k0 hf
    unfold f_X6_toldOfPhases_J139 at hf
    cases hf
    exact G.iret C rfl dX6_toldOfPhases_139
  have hj118 : ∀ (x3 : Int32) (x4 : Int32) (x5 : Int32) (x6 : Int32), f_X6_toldOfPhases_J118 h (x3) (x4) (x5) (x6) = some r → G p l e ({ frames := 5, cells := 0, slots := 0, locals := 116 } : Room) s m args below meth c 9 g X h 0 0 (MQ below (QW g X h s.heap.size (some (.int r)) h) args s 0 0 (AF X h s.heap.size)) 118 [(3, .int (x3)), (4, .int (x4)), (5, .int (x5)), (6, .int (x6))] [] h := by
    intro x3 x4 x5 x6 hf
    unfold f_X6_toldOfPhases_J118 at hf
    refine G.iload_n C 0 dX6_toldOfPhases_118 rfl rfl ?_
    refine G.if_ne (tgt := 127) C dX6_toldOfPhases_119 (by decide) hf (fun c8 hf => ?_) (fun c8 hf => ?_)
    · refine G.iload_n C 0 dX6_toldOfPhases_127 rfl rfl ?_
      refine G.iconst (v := 1) C dX6_toldOfPhases_128 (by decide) ?_
      refine G.icmp_ne (tgt := 137) C dX6_toldOfPhases_129 (by decide) hf (fun c7 hf => ?_) (fun c7 hf => ?_)
      · refine G.iload C 3 dX6_toldOfPhases_137 rfl ?_
        refine G.sub C [] (lv' := []) rfl ?_
        exact hj139 _ hf
      · refine G.iload C 2 dX6_toldOfPhases_132 rfl ?_
        refine G.goto (tgt := 139) C dX6_toldOfPhases_134 (by decide) ?_
        refine G.sub C [] (lv' := []) rfl ?_
        exact hj139 _ hf
    · refine G.iload C 1 dX6_toldOfPhases_122 rfl ?_
      refine G.goto (tgt := 139) C dX6_toldOfPhases_124 (by decide) ?_
      refine G.sub C [] (lv' := []) rfl ?_
      exact hj139 _ hf
  refine G.sub C [0, 1, 2, 3] (lv' := [(0, .ref (a0)), (1, .int (a1)), (2, .int (a2)), (3, .int (a3))]) rfl ?_
  refine G.iconst (v := 0) C dX6_toldOfPhases_0 (by decide) ?_
  refine G.istore (lv' := [(4, .int ((0 : Int32))), (0, .ref (a0)), (1, .int (a1)), (2, .int (a2)), (3, .int (a3))]) C dX6_toldOfPhases_1 (by decide) rfl ?_
  refine G.iconst (v := (-1)) C dX6_toldOfPhases_3 (by decide) ?_
  refine G.istore (lv' := [(5, .int (((-1) : Int32))), (4, .int ((0 : Int32))), (0, .ref (a0)), (1, .int (a1)), (2, .int (a2)), (3, .int (a3))]) C dX6_toldOfPhases_4 (by decide) rfl ?_
  refine G.iconst (v := (-1)) C dX6_toldOfPhases_6 (by decide) ?_
  refine G.istore (lv' := [(6, .int (((-1) : Int32))), (5, .int (((-1) : Int32))), (4, .int ((0 : Int32))), (0, .ref (a0)), (1, .int (a1)), (2, .int (a2)), (3, .int (a3))]) C dX6_toldOfPhases_7 (by decide) rfl ?_
  refine G.aload_n C 3 dX6_toldOfPhases_9 rfl rfl ?_
  refine G.getR (ci := 5) (k := 1) C rfl inlX6 (by decide) m9_70 rfl hf dX6_toldOfPhases_10 (fun v1 hv1 hf => ?_)
  try dsimp only at hf
  refine G.iconst (v := 0) C dX6_toldOfPhases_13 (by decide) ?_
  refine G.iload_n C 5 dX6_toldOfPhases_14 rfl rfl ?_
  refine G.iadd C dX6_toldOfPhases_15 ?_
  refine G.iald C hf dX6_toldOfPhases_16 (fun v2 hv2 hf => ?_)
  try dsimp only at hf
  refine G.iconst (v := 1) C dX6_toldOfPhases_17 (by decide) ?_
  refine G.isub C dX6_toldOfPhases_18 ?_
  refine G.istore (lv' := [(7, .int ((v2 - (1 : Int32)))), (6, .int (((-1) : Int32))), (5, .int (((-1) : Int32))), (4, .int ((0 : Int32))), (0, .ref (a0)), (1, .int (a1)), (2, .int (a2)), (3, .int (a3))]) C dX6_toldOfPhases_19 (by decide) rfl ?_
  obtain ⟨z3, hlp3, hfo3⟩ := bind_some hf
  clear hf
  have hloop3 : ∀ (k : Nat), ∀ (x4 : Int32) (x5 : Int32) (x6 : Int32) (x7 : Int32), (lpn (f_X6_toldOfPhases_L21 (h) (a0) (a1) (a2) (a3)) k (x4, x5, x6, x7)) = some z3 → G p l e ({ frames := 5, cells := 0, slots := 0, locals := 116 } : Room) s m args below meth c 9 g X h 0 0 (MQ below (QW g X h s.heap.size (some (.int r)) h) args s 0 0 (AF X h s.heap.size)) 21 [(0, .ref (a0)), (1, .int (a1)), (2, .int (a2)), (3, .int (a3)), (4, .int (x4)), (5, .int (x5)), (6, .int (x6)), (7, .int (x7))] [] h := by
    intro k
    induction k with
    | zero => intro x4 x5 x6 x7 hlp3; exact (lpn_0 hlp3).elim
    | succ k ih3 =>
      intro x4 x5 x6 x7 hlp3
      obtain ⟨y3, hf, hlp3⟩ := lpn_s hlp3
      unfold f_X6_toldOfPhases_L21 at hf
      try dsimp only at hf
      have hj110 : ∀ (x4 : Int32) (x5 : Int32) (x7 : Int32) (k0 : Int32), f_X6_toldOfPhases_J110 h (a0) (a1) (a2) (a3) (x4) (x5) (x7) k0 = some y3 → G p l e ({ frames := 5, cells := 0, slots := 0, locals := 116 } : Room) s m args below meth c 9 g X h 0 0 (MQ below (QW g X h s.heap.size (some (.int r)) h) args s 0 0 (AF X h s.heap.size)) 110 [(0, .ref (a0)), (1, .int (a1)), (2, .int (a2)), (3, .int (a3)), (4, .int (x4)), (5, .int (x5)), (7, .int (x7))] [.int (k0)] h := by
        intro x4 x5 x7 k0 hf
        unfold f_X6_toldOfPhases_J110 at hf
        refine G.istore (lv' := [(6, .int (k0)), (0, .ref (a0)), (1, .int (a1)), (2, .int (a2)), (3, .int (a3)), (4, .int (x4)), (5, .int (x5)), (7, .int (x7))]) C dX6_toldOfPhases_110 (by decide) rfl ?_
        refine G.iinc (k := 7) (v := (x7 + (-1))) (lv' := [(7, .int ((x7 + (-1)))), (6, .int (k0)), (0, .ref (a0)), (1, .int (a1)), (2, .int (a2)), (3, .int (a3)), (4, .int (x4)), (5, .int (x5))]) C dX6_toldOfPhases_112 rfl rfl (by decide) rfl ?_
        refine G.goto (tgt := 21) C dX6_toldOfPhases_115 (by decide) ?_
        cases hf
        refine G.sub C [2, 3, 4, 5, 6, 7, 1, 0] (lv' := [(0, .ref (a0)), (1, .int (a1)), (2, .int (a2)), (3, .int (a3)), (4, .int (x4)), (5, .int (x5)), (6, .int (k0)), (7, .int ((x7 + (-1))))]) rfl ?_
        exact ih3 _ _ _ _ hlp3
      have hj103 : ∀ (x4 : Int32) (x5 : Int32) (x7 : Int32), f_X6_toldOfPhases_J103 h (a0) (a1) (a2) (a3) (x4) (x5) (x7) = some y3 → G p l e ({ frames := 5, cells := 0, slots := 0, locals := 116 } : Room) s m args below meth c 9 g X h 0 0 (MQ below (QW g X h s.heap.size (some (.int r)) h) args s 0 0 (AF X h s.heap.size)) 103 [(0, .ref (a0)), (1, .int (a1)), (2, .int (a2)), (3, .int (a3)), (4, .int (x4)), (5, .int (x5)), (7, .int (x7))] [] h := by
        intro x4 x5 x7 hf
        unfold f_X6_toldOfPhases_J103 at hf
        refine G.iload C 6 dX6_toldOfPhases_103 rfl ?_
        refine G.goto (tgt := 110) C dX6_toldOfPhases_105 (by decide) ?_
        refine G.sub C [0, 1, 2, 3, 4, 5, 6] (lv' := [(0, .ref (a0)), (1, .int (a1)), (2, .int (a2)), (3, .int (a3)), (4, .int (x4)), (5, .int (x5)), (7, .int (x7))]) rfl ?_
        exact hj110 _ _ _ _ hf
      have hj108 : ∀ (x4 : Int32) (x5 : Int32) (x6 : Int32) (x7 : Int32), f_X6_toldOfPhases_J108 h (a0) (a1) (a2) (a3) (x4) (x5) (x6) (x7) = some y3 → G p l e ({ frames := 5, cells := 0, slots := 0, locals := 116 } : Room) s m args below meth c 9 g X h 0 0 (MQ below (QW g X h s.heap.size (some (.int r)) h) args s 0 0 (AF X h s.heap.size)) 108 [(0, .ref (a0)), (1, .int (a1)), (2, .int (a2)), (3, .int (a3)), (4, .int (x4)), (5, .int (x5)), (6, .int (x6)), (7, .int (x7))] [] h := by
        intro x4 x5 x6 x7 hf
        unfold f_X6_toldOfPhases_J108 at hf
        refine G.iload C 6 dX6_toldOfPhases_108 rfl ?_
        refine G.sub C [0, 1, 2, 3, 4, 5, 7] (lv' := [(0, .ref (a0)), (1, .int (a1)), (2, .int (a2)), (3, .int (a3)), (4, .int (x4)), (5, .int (x5)), (7, .int (x7))]) rfl ?_
        exact hj110 _ _ _ _ hf
      have hj71 : ∀ (x4 : Int32) (x6 : Int32) (x7 : Int32) (x8 : Int32) (k0 : Int32), f_X6_toldOfPhases_J71 h (a0) (a1) (a2) (a3) (x4) (x6) (x7) (x8) k0 = some y3 → G p l e ({ frames := 5, cells := 0, slots := 0, locals := 116 } : Room) s m args below meth c 9 g X h 0 0 (MQ below (QW g X h s.heap.size (some (.int r)) h) args s 0 0 (AF X h s.heap.size)) 71 [(0, .ref (a0)), (1, .int (a1)), (2, .int (a2)), (3, .int (a3)), (4, .int (x4)), (6, .int (x6)), (7, .int (x7)), (8, .int (x8))] [.int (k0)] h := by
        intro x4 x6 x7 x8 k0 hf
        unfold f_X6_toldOfPhases_J71 at hf
        refine G.istore (lv' := [(5, .int (k0)), (0, .ref (a0)), (1, .int (a1)), (2, .int (a2)), (3, .int (a3)), (4, .int (x4)), (6, .int (x6)), (7, .int (x7)), (8, .int (x8))]) C dX6_toldOfPhases_71 (by decide) rfl ?_
        refine G.iload C 8 dX6_toldOfPhases_73 rfl ?_
        refine G.if_eq (tgt := 108) C dX6_toldOfPhases_75 (by decide) hf (fun c8 hf => ?_) (fun c8 hf => ?_)
        · refine G.sub C [1, 2, 3, 4, 5, 0, 6, 7] (lv' := [(0, .ref (a0)), (1, .int (a1)), (2, .int (a2)), (3, .int (a3)), (4, .int (x4)), (5, .int (k0)), (6, .int (x6)), (7, .int (x7))]) rfl ?_
          exact hj108 _ _ _ _ hf
        · refine G.iload C 6 dX6_toldOfPhases_78 rfl ?_
          refine G.iconst (v := (-1)) C dX6_toldOfPhases_80 (by decide) ?_
          refine G.icmp_eq (tgt := 103) C dX6_toldOfPhases_81 (by decide) hf (fun c7 hf => ?_) (fun c7 hf => ?_)
          · refine G.sub C [1, 2, 3, 4, 5, 0, 7] (lv' := [(0, .ref (a0)), (1, .int (a1)), (2, .int (a2)), (3, .int (a3)), (4, .int (x4)), (5, .int (k0)), (7, .int (x7))]) rfl ?_
            exact hj103 _ _ _ hf
          · refine G.aload_n C 1 dX6_toldOfPhases_84 rfl rfl ?_
            refine G.iload_n C 2 dX6_toldOfPhases_85 rfl rfl ?_
            refine G.iload_n C 3 dX6_toldOfPhases_86 rfl rfl ?_
            refine G.iload C 7 dX6_toldOfPhases_87 rfl ?_
            obtain ⟨v4, hv4, hf⟩ := bind_some hf
            try dsimp only at hf
            refine G.callV C (st := []) (st2 := [.int (v4)]) (ct_X6_wouldTake hv4) (ko_X6_wouldTake hv4) rfl m9_919 m9_920 m9_921 m9_5 m9_922 kd_X6_wouldTake ⟨Nat.le_of_ble_eq_true rfl, Nat.le_of_ble_eq_true rfl⟩ ⟨Nat.zero_le _, Nat.zero_le _⟩ (Nat.le_of_ble_eq_true rfl) rfl rfl dX6_toldOfPhases_89 ?_
            refine G.aload_n C 1 dX6_toldOfPhases_92 rfl rfl ?_
            refine G.iload_n C 2 dX6_toldOfPhases_93 rfl rfl ?_
            refine G.iload_n C 3 dX6_toldOfPhases_94 rfl rfl ?_
            refine G.iload C 6 dX6_toldOfPhases_95 rfl ?_
            obtain ⟨v5, hv5, hf⟩ := bind_some hf
            try dsimp only at hf
            refine G.callV C (st := [.int (v4)]) (st2 := [.int (v5), .int (v4)]) (ct_X6_wouldTake hv5) (ko_X6_wouldTake hv5) rfl m9_919 m9_920 m9_921 m9_5 m9_922 kd_X6_wouldTake ⟨Nat.le_of_ble_eq_true rfl, Nat.le_of_ble_eq_true rfl⟩ ⟨Nat.zero_le _, Nat.zero_le _⟩ (Nat.le_of_ble_eq_true rfl) rfl rfl dX6_toldOfPhases_97 ?_
            refine G.icmp_lt (tgt := 108) C dX6_toldOfPhases_100 (by decide) hf (fun c6 hf => ?_) (fun c6 hf => ?_)
            · refine G.sub C [1, 2, 3, 4, 5, 0, 6, 7] (lv' := [(0, .ref (a0)), (1, .int (a1)), (2, .int (a2)), (3, .int (a3)), (4, .int (x4)), (5, .int (k0)), (6, .int (x6)), (7, .int (x7))]) rfl ?_
              exact hj108 _ _ _ _ hf
            · refine G.sub C [1, 2, 3, 4, 5, 0, 7] (lv' := [(0, .ref (a0)), (1, .int (a1)), (2, .int (a2)), (3, .int (a3)), (4, .int (x4)), (5, .int (k0)), (7, .int (x7))]) rfl ?_
              exact hj103 _ _ _ hf
      have hj56 : ∀ (x5 : Int32) (x6 : Int32) (x7 : Int32) (x8 : Int32) (k0 : Int32) (k1 : Int32), f_X6_toldOfPhases_J56 h (a0) (a1) (a2) (a3) (x5) (x6) (x7) (x8) k0 k1 = some y3 → G p l e ({ frames := 5, cells := 0, slots := 0, locals := 116 } : Room) s m args below meth c 9 g X h 0 0 (MQ below (QW g X h s.heap.size (some (.int r)) h) args s 0 0 (AF X h s.heap.size)) 56 [(0, .ref (a0)), (1, .int (a1)), (2, .int (a2)), (3, .int (a3)), (5, .int (x5)), (6, .int (x6)), (7, .int (x7)), (8, .int (x8))] [.int (k1), .int (k0)] h := by
        intro x5 x6 x7 x8 k0 k1 hf
        unfold f_X6_toldOfPhases_J56 at hf
        refine G.iadd C dX6_toldOfPhases_56 ?_
        refine G.istore (lv' := [(4, .int ((k0 + k1))), (0, .ref (a0)), (1, .int (a1)), (2, .int (a2)), (3, .int (a3)), (5, .int (x5)), (6, .int (x6)), (7, .int (x7)), (8, .int (x8))]) C dX6_toldOfPhases_57 (by decide) rfl ?_
        refine G.iload C 8 dX6_toldOfPhases_59 rfl ?_
        refine G.if_eq (tgt := 69) C dX6_toldOfPhases_61 (by decide) hf (fun c9 hf => ?_) (fun c9 hf => ?_)
        · refine G.iload C 5 dX6_toldOfPhases_69 rfl ?_
          refine G.sub C [1, 2, 3, 4, 0, 6, 7, 8] (lv' := [(0, .ref (a0)), (1, .int (a1)), (2, .int (a2)), (3, .int (a3)), (4, .int ((k0 + k1))), (6, .int (x6)), (7, .int (x7)), (8, .int (x8))]) rfl ?_
          exact hj71 _ _ _ _ _ hf
        · refine G.iload C 7 dX6_toldOfPhases_64 rfl ?_
          refine G.goto (tgt := 71) C dX6_toldOfPhases_66 (by decide) ?_
          refine G.sub C [1, 2, 3, 4, 0, 6, 7, 8] (lv' := [(0, .ref (a0)), (1, .int (a1)), (2, .int (a2)), (3, .int (a3)), (4, .int ((k0 + k1))), (6, .int (x6)), (7, .int (x7)), (8, .int (x8))]) rfl ?_
          exact hj71 _ _ _ _ _ hf
      have hj42 : ∀ (x4 : Int32) (x5 : Int32) (x6 : Int32) (x7 : Int32) (k0 : Int32), f_X6_toldOfPhases_J42 h (a0) (a1) (a2) (a3) (x4) (x5) (x6) (x7) k0 = some y3 → G p l e ({ frames := 5, cells := 0, slots := 0, locals := 116 } : Room) s m args below meth c 9 g X h 0 0 (MQ below (QW g X h s.heap.size (some (.int r)) h) args s 0 0 (AF X h s.heap.size)) 42 [(0, .ref (a0)), (1, .int (a1)), (2, .int (a2)), (3, .int (a3)), (4, .int (x4)), (5, .int (x5)), (6, .int (x6)), (7, .int (x7))] [.int (k0)] h := by
        intro x4 x5 x6 x7 k0 hf
        unfold f_X6_toldOfPhases_J42 at hf
        refine G.istore (lv' := [(8, .int (k0)), (0, .ref (a0)), (1, .int (a1)), (2, .int (a2)), (3, .int (a3)), (4, .int (x4)), (5, .int (x5)), (6, .int (x6)), (7, .int (x7))]) C dX6_toldOfPhases_42 (by decide) rfl ?_
        refine G.iload C 5 dX6_toldOfPhases_44 rfl ?_
        refine G.iload C 0 dX6_toldOfPhases_46 rfl ?_
        refine G.if_eq (tgt := 55) C dX6_toldOfPhases_48 (by decide) hf (fun c10 hf => ?_) (fun c10 hf => ?_)
        · refine G.iconst (v := 0) C dX6_toldOfPhases_55 (by decide) ?_
          refine G.sub C [1, 2, 3, 4, 6, 7, 8, 0] (lv' := [(0, .ref (a0)), (1, .int (a1)), (2, .int (a2)), (3, .int (a3)), (5, .int (x5)), (6, .int (x6)), (7, .int (x7)), (8, .int (k0))]) rfl ?_
          exact hj56 _ _ _ _ _ _ hf
        · refine G.iconst (v := 1) C dX6_toldOfPhases_51 (by decide) ?_
          refine G.goto (tgt := 56) C dX6_toldOfPhases_52 (by decide) ?_
          refine G.sub C [1, 2, 3, 4, 6, 7, 8, 0] (lv' := [(0, .ref (a0)), (1, .int (a1)), (2, .int (a2)), (3, .int (a3)), (5, .int (x5)), (6, .int (x6)), (7, .int (x7)), (8, .int (k0))]) rfl ?_
          exact hj56 _ _ _ _ _ _ hf
      refine G.iload C 7 dX6_toldOfPhases_21 rfl ?_
      refine G.if_lt (tgt := 118) C dX6_toldOfPhases_23 (by decide) hf (fun c13 hf => ?_) (fun c13 hf => ?_)
      · cases hf
        change some _ = some _ at hlp3
        have hf := hfo3
        try rw [← Option.some.inj hlp3] at hf
        try dsimp only at hf
        refine G.sub C [3, 4, 5, 6] (lv' := [(3, .int (a3)), (4, .int (x4)), (5, .int (x5)), (6, .int (x6))]) rfl ?_
        exact hj118 _ _ _ _ hf
      · refine G.aload_n C 0 dX6_toldOfPhases_26 rfl rfl ?_
        refine G.iload_n C 1 dX6_toldOfPhases_27 rfl rfl ?_
        refine G.iload_n C 2 dX6_toldOfPhases_28 rfl rfl ?_
        refine G.iload C 7 dX6_toldOfPhases_29 rfl ?_
        obtain ⟨v11, hv11, hf⟩ := bind_some hf
        try dsimp only at hf
        refine G.callV C (st := []) (st2 := [.int (v11)]) (ct_X6_why hv11) (ko_X6_why hv11) rfl m9_295 m9_296 m9_297 m9_5 m9_298 kd_X6_why ⟨Nat.le_of_ble_eq_true rfl, Nat.le_of_ble_eq_true rfl⟩ ⟨Nat.zero_le _, Nat.zero_le _⟩ (Nat.le_of_ble_eq_true rfl) rfl rfl dX6_toldOfPhases_31 ?_
        refine G.if_ne (tgt := 41) C dX6_toldOfPhases_34 (by decide) hf (fun c12 hf => ?_) (fun c12 hf => ?_)
        · refine G.iconst (v := 0) C dX6_toldOfPhases_41 (by decide) ?_
          refine G.sub C [0, 1, 2, 3, 4, 5, 6, 7] (lv' := [(0, .ref (a0)), (1, .int (a1)), (2, .int (a2)), (3, .int (a3)), (4, .int (x4)), (5, .int (x5)), (6, .int (x6)), (7, .int (x7))]) rfl ?_
          exact hj42 _ _ _ _ _ hf
        · refine G.iconst (v := 1) C dX6_toldOfPhases_37 (by decide) ?_
          refine G.goto (tgt := 42) C dX6_toldOfPhases_38 (by decide) ?_
          refine G.sub C [0, 1, 2, 3, 4, 5, 6, 7] (lv' := [(0, .ref (a0)), (1, .int (a1)), (2, .int (a2)), (3, .int (a3)), (4, .int (x4)), (5, .int (x5)), (6, .int (x6)), (7, .int (x7))]) rfl ?_
          exact hj42 _ _ _ _ _ hf
  refine G.sub C [4, 5, 6, 7, 3, 2, 1, 0] (lv' := [(0, .ref (a0)), (1, .int (a1)), (2, .int (a2)), (3, .int (a3)), (4, .int ((0 : Int32))), (5, .int (((-1) : Int32))), (6, .int (((-1) : Int32))), (7, .int ((v2 - (1 : Int32))))]) rfl ?_
  exact hloop3 LF _ _ _ _ hlp3
theorem ko_X6_phases {h : PH} {a0 : Nat} {a1 : Int32} {a2 : Int32} {a3 : Int32} {r : (Int32 × PH)} (hf : f_X6_phases h a0 a1 a2 a3 = some r) : kO h a0 5 := by
  unfold f_X6_phases at hf
  exact okO_k (gd_ok hf).1
theorem kd_X6_phases : yX6_phases.cls = RX6 ∧ yX6_phases.cls ≠ "java/lang/invoke/MethodHandle" ∧ yX6_phases.cls ≠ "java/lang/invoke/VarHandle" ∧ (parseMethodDescriptor yX6_phases.desc).map (fun d => d.parameters.length) = some 3 := by decide +kernel
set_option maxRecDepth 20000 in
set_option maxHeartbeats 4000000 in
theorem ct_X6_phases {l : Launch} {h : PH} {a0 : Nat} {a1 : Int32} {a2 : Int32} {a3 : Int32} {r : (Int32 × PH)} (hf : f_X6_phases h a0 a1 a2 a3 = some r) : CT l yX6_phases cX6_phases 4 (some .int) 6 144 [.ref (a0), .int (a1), .int (a2), .int (a3)] h (some (.int r.1)) r.2 := by
  refine CT.of (own := RX6) rfl (by decide) (Nat.le_of_ble_eq_true rfl) ?_
  intro p e R s m args below meth c g X hR C
  subst hR
  unfold f_X6_phases at hf
  obtain ⟨hok, hf⟩ := gd_ok hf
  have hj45 : ∀ (hh : PH) (k0 : Int32), f_X6_phases_J45 hh k0 = some r → G p l e ({ frames := 6, cells := 0, slots := 0, locals := 144 } : Room) s m args below meth c 4 g X h 0 0 (MQ below (QW g X h s.heap.size (some (.int r.1)) r.2) args s 0 0 (AF X h s.heap.size)) 45 [] [.int (k0)] hh := by
    intro hh k0 hf
    unfold f_X6_phases_J45 at hf
    cases hf
    exact G.iret C rfl dX6_phases_45
  have hj28 : ∀ (x0 : Nat) (x1 : Int32) (x2 : Int32) (x3 : Int32) (k0 : Nat) (k1 : Int32), f_X6_phases_J28 h (x0) (x1) (x2) (x3) k0 k1 = some r → G p l e ({ frames := 6, cells := 0, slots := 0, locals := 144 } : Room) s m args below meth c 4 g X h 0 0 (MQ below (QW g X h s.heap.size (some (.int r.1)) r.2) args s 0 0 (AF X h s.heap.size)) 28 [(0, .ref (x0)), (1, .int (x1)), (2, .int (x2)), (3, .int (x3))] [.int (k1), .ref (k0)] h := by
    intro x0 x1 x2 x3 k0 k1 hf
    unfold f_X6_phases_J28 at hf
    obtain ⟨⟨v7, h8⟩, hv7, hf⟩ := bind_some hf
    try dsimp only at hf
    refine G.callV C (st := []) (st2 := [.int (v7)]) (ct_X6_holds hv7) (ko_X6_holds hv7) rfl m9_162 m9_163 m9_164 m9_5 m9_165 kd_X6_holds ⟨Nat.le_of_ble_eq_true rfl, Nat.le_of_ble_eq_true rfl⟩ ⟨Nat.zero_le _, Nat.zero_le _⟩ (Nat.le_of_ble_eq_true rfl) rfl rfl dX6_phases_28 ?_
    refine G.if_eq (tgt := 44) C dX6_phases_31 (by decide) hf (fun c11 hf => ?_) (fun c11 hf => ?_)
    · refine G.iconst (v := 0) C dX6_phases_44 (by decide) ?_
      refine G.sub C [] (lv' := []) rfl ?_
      exact hj45 _ _ hf
    · refine G.aload_n C 0 dX6_phases_34 rfl rfl ?_
      refine G.iload_n C 1 dX6_phases_35 rfl rfl ?_
      refine G.iload_n C 2 dX6_phases_36 rfl rfl ?_
      refine G.iload_n C 3 dX6_phases_37 rfl rfl ?_
      obtain ⟨v10, hv10, hf⟩ := bind_some hf
      try dsimp only at hf
      refine G.callV C (st := []) (st2 := [.int (v10)]) (ct_X6_toldOfPhases hv10) (ko_X6_toldOfPhases hv10) rfl m9_915 m9_916 m9_917 m9_5 m9_918 kd_X6_toldOfPhases ⟨Nat.le_of_ble_eq_true rfl, Nat.le_of_ble_eq_true rfl⟩ ⟨Nat.zero_le _, Nat.zero_le _⟩ (Nat.le_of_ble_eq_true rfl) rfl rfl dX6_phases_38 ?_
      refine G.goto (tgt := 45) C dX6_phases_41 (by decide) ?_
      refine G.sub C [] (lv' := []) rfl ?_
      exact hj45 _ _ hf
  refine G.sub C [0, 1, 2, 3] (lv' := [(0, .ref (a0)), (1, .int (a1)), (2, .int (a2)), (3, .int (a3))]) rfl ?_
  refine G.aload_n C 0 dX6_phases_0 rfl rfl ?_
  refine G.aload_n C 0 dX6_phases_1 rfl rfl ?_
  refine G.iload_n C 1 dX6_phases_2 rfl rfl ?_
  refine G.iload_n C 2 dX6_phases_3 rfl rfl ?_
  obtain ⟨v1, hv1, hf⟩ := bind_some hf
  try dsimp only at hf
  refine G.callV C (st := [.ref (a0)]) (st2 := [.int (v1), .ref (a0)]) (ct_X6_areThere hv1) (ko_X6_areThere hv1) rfl m9_287 m9_288 m9_289 m9_5 m9_290 kd_X6_areThere ⟨Nat.le_of_ble_eq_true rfl, Nat.le_of_ble_eq_true rfl⟩ ⟨Nat.zero_le _, Nat.zero_le _⟩ (Nat.le_of_ble_eq_true rfl) rfl rfl dX6_phases_4 ?_
  refine G.if_ne (tgt := 14) C dX6_phases_7 (by decide) hf (fun c4 hf => ?_) (fun c4 hf => ?_)
  · refine G.iload_n C 3 dX6_phases_14 rfl rfl ?_
    refine G.iconst (v := 0) C dX6_phases_15 (by decide) ?_
    refine G.iconst (v := 2) C dX6_phases_16 (by decide) ?_
    obtain ⟨v2, hv2, hf⟩ := bind_some hf
    try dsimp only at hf
    refine G.callS C (st := [.ref (a0)]) (st2 := [.int (v2), .ref (a0)]) (ct_X6_in hv2) m9_144 m9_145 m9_5 m9_146 kd_X6_in ⟨Nat.le_of_ble_eq_true rfl, Nat.le_of_ble_eq_true rfl⟩ ⟨Nat.zero_le _, Nat.zero_le _⟩ (Nat.le_of_ble_eq_true rfl) rfl rfl dX6_phases_17 ?_
    refine G.if_ne (tgt := 27) C dX6_phases_20 (by decide) hf (fun c3 hf => ?_) (fun c3 hf => ?_)
    · refine G.iconst (v := 0) C dX6_phases_27 (by decide) ?_
      refine G.sub C [0, 1, 2, 3] (lv' := [(0, .ref (a0)), (1, .int (a1)), (2, .int (a2)), (3, .int (a3))]) rfl ?_
      exact hj28 _ _ _ _ _ _ hf
    · refine G.iconst (v := 2) C dX6_phases_23 (by decide) ?_
      refine G.goto (tgt := 28) C dX6_phases_24 (by decide) ?_
      refine G.sub C [0, 1, 2, 3] (lv' := [(0, .ref (a0)), (1, .int (a1)), (2, .int (a2)), (3, .int (a3))]) rfl ?_
      exact hj28 _ _ _ _ _ _ hf
  · refine G.iconst (v := 1) C dX6_phases_10 (by decide) ?_
    refine G.goto (tgt := 28) C dX6_phases_11 (by decide) ?_
    refine G.sub C [0, 1, 2, 3] (lv' := [(0, .ref (a0)), (1, .int (a1)), (2, .int (a2)), (3, .int (a3))]) rfl ?_
    exact hj28 _ _ _ _ _ _ hf
theorem ko_X6_best {h : PH} {a0 : Nat} {a1 : Int32} {r : Int32} (hf : f_X6_best h a0 a1 = some r) : kO h a0 5 := by
  unfold f_X6_best at hf
  exact okO_k (gd_ok hf).1
theorem kd_X6_best : yX6_best.cls = RX6 ∧ yX6_best.cls ≠ "java/lang/invoke/MethodHandle" ∧ yX6_best.cls ≠ "java/lang/invoke/VarHandle" ∧ (parseMethodDescriptor yX6_best.desc).map (fun d => d.parameters.length) = some 1 := by decide +kernel
set_option maxRecDepth 20000 in
set_option maxHeartbeats 4000000 in
theorem ct_X6_best {l : Launch} {h : PH} {a0 : Nat} {a1 : Int32} {r : Int32} (hf : f_X6_best h a0 a1 = some r) : CT l yX6_best cX6_best 7 (some .int) 6 144 [.ref (a0), .int (a1)] h (some (.int r)) h := by
  refine CT.of (own := RX6) rfl (by decide) (Nat.le_of_ble_eq_true rfl) ?_
  intro p e R s m args below meth c g X hR C
  subst hR
  unfold f_X6_best at hf
  obtain ⟨hok, hf⟩ := gd_ok hf
  have hj77 : ∀ (x2 : Int32), f_X6_best_J77 h (x2) = some r → G p l e ({ frames := 6, cells := 0, slots := 0, locals := 144 } : Room) s m args below meth c 7 g X h 0 0 (MQ below (QW g X h s.heap.size (some (.int r)) h) args s 0 0 (AF X h s.heap.size)) 77 [(2, .int (x2))] [] h := by
    intro x2 hf
    unfold f_X6_best_J77 at hf
    refine G.iload_n C 0 dX6_best_77 rfl rfl ?_
    cases hf
    exact G.iret C rfl dX6_best_78
  refine G.sub C [0, 1] (lv' := [(0, .ref (a0)), (1, .int (a1))]) rfl ?_
  refine G.iconst (v := (-1)) C dX6_best_0 (by decide) ?_
  refine G.istore_n (lv' := [(2, .int (((-1) : Int32))), (0, .ref (a0)), (1, .int (a1))]) C dX6_best_1 rfl (by decide) rfl ?_
  refine G.iconst (v := 0) C dX6_best_2 (by decide) ?_
  refine G.istore_n (lv' := [(3, .int ((0 : Int32))), (2, .int (((-1) : Int32))), (0, .ref (a0)), (1, .int (a1))]) C dX6_best_3 rfl (by decide) rfl ?_
  refine G.iconst (v := 0) C dX6_best_4 (by decide) ?_
  refine G.istore (lv' := [(4, .int ((0 : Int32))), (3, .int ((0 : Int32))), (2, .int (((-1) : Int32))), (0, .ref (a0)), (1, .int (a1))]) C dX6_best_5 (by decide) rfl ?_
  obtain ⟨z1, hlp1, hfo1⟩ := bind_some hf
  clear hf
  have hloop1 : ∀ (k : Nat), ∀ (x2 : Int32) (x3 : Int32) (x4 : Int32), (lpn (f_X6_best_L7 (h) (a0) (a1)) k (x2, x3, x4)) = some z1 → G p l e ({ frames := 6, cells := 0, slots := 0, locals := 144 } : Room) s m args below meth c 7 g X h 0 0 (MQ below (QW g X h s.heap.size (some (.int r)) h) args s 0 0 (AF X h s.heap.size)) 7 [(0, .ref (a0)), (1, .int (a1)), (2, .int (x2)), (3, .int (x3)), (4, .int (x4))] [] h := by
    intro k
    induction k with
    | zero => intro x2 x3 x4 hlp1; exact (lpn_0 hlp1).elim
    | succ k ih1 =>
      intro x2 x3 x4 hlp1
      obtain ⟨y1, hf, hlp1⟩ := lpn_s hlp1
      unfold f_X6_best_L7 at hf
      try dsimp only at hf
      have hj70 : ∀ (x2 : Int32) (x4 : Int32) (k0 : Int32), f_X6_best_J70 h (a0) (a1) (x2) (x4) k0 = some y1 → G p l e ({ frames := 6, cells := 0, slots := 0, locals := 144 } : Room) s m args below meth c 7 g X h 0 0 (MQ below (QW g X h s.heap.size (some (.int r)) h) args s 0 0 (AF X h s.heap.size)) 70 [(0, .ref (a0)), (1, .int (a1)), (2, .int (x2)), (4, .int (x4))] [.int (k0)] h := by
        intro x2 x4 k0 hf
        unfold f_X6_best_J70 at hf
        refine G.istore_n (lv' := [(3, .int (k0)), (0, .ref (a0)), (1, .int (a1)), (2, .int (x2)), (4, .int (x4))]) C dX6_best_70 rfl (by decide) rfl ?_
        refine G.iinc (k := 4) (v := (x4 + 1)) (lv' := [(4, .int ((x4 + 1))), (3, .int (k0)), (0, .ref (a0)), (1, .int (a1)), (2, .int (x2))]) C dX6_best_71 rfl rfl (by decide) rfl ?_
        refine G.goto (tgt := 7) C dX6_best_74 (by decide) ?_
        cases hf
        refine G.sub C [2, 3, 4, 1, 0] (lv' := [(0, .ref (a0)), (1, .int (a1)), (2, .int (x2)), (3, .int (k0)), (4, .int ((x4 + 1)))]) rfl ?_
        exact ih1 _ _ _ hlp1
      have hj57 : ∀ (x3 : Int32) (x4 : Int32) (x6 : Int32) (k0 : Int32), f_X6_best_J57 h (a0) (a1) (x3) (x4) (x6) k0 = some y1 → G p l e ({ frames := 6, cells := 0, slots := 0, locals := 144 } : Room) s m args below meth c 7 g X h 0 0 (MQ below (QW g X h s.heap.size (some (.int r)) h) args s 0 0 (AF X h s.heap.size)) 57 [(0, .ref (a0)), (1, .int (a1)), (3, .int (x3)), (4, .int (x4)), (6, .int (x6))] [.int (k0)] h := by
        intro x3 x4 x6 k0 hf
        unfold f_X6_best_J57 at hf
        refine G.istore_n (lv' := [(2, .int (k0)), (0, .ref (a0)), (1, .int (a1)), (3, .int (x3)), (4, .int (x4)), (6, .int (x6))]) C dX6_best_57 rfl (by decide) rfl ?_
        refine G.iload C 5 dX6_best_58 rfl ?_
        refine G.iload_n C 3 dX6_best_60 rfl rfl ?_
        refine G.icmp_le (tgt := 69) C dX6_best_61 (by decide) hf (fun c2 hf => ?_) (fun c2 hf => ?_)
        · refine G.iload_n C 3 dX6_best_69 rfl rfl ?_
          refine G.sub C [1, 2, 0, 4] (lv' := [(0, .ref (a0)), (1, .int (a1)), (2, .int (k0)), (4, .int (x4))]) rfl ?_
          exact hj70 _ _ _ hf
        · refine G.iload C 5 dX6_best_64 rfl ?_
          refine G.goto (tgt := 70) C dX6_best_66 (by decide) ?_
          refine G.sub C [1, 2, 0, 4] (lv' := [(0, .ref (a0)), (1, .int (a1)), (2, .int (k0)), (4, .int (x4))]) rfl ?_
          exact hj70 _ _ _ hf
      have hj43 : ∀ (x2 : Int32) (x3 : Int32) (x4 : Int32) (k0 : Int32), f_X6_best_J43 h (a0) (a1) (x2) (x3) (x4) k0 = some y1 → G p l e ({ frames := 6, cells := 0, slots := 0, locals := 144 } : Room) s m args below meth c 7 g X h 0 0 (MQ below (QW g X h s.heap.size (some (.int r)) h) args s 0 0 (AF X h s.heap.size)) 43 [(0, .ref (a0)), (1, .int (a1)), (2, .int (x2)), (3, .int (x3)), (4, .int (x4))] [.int (k0)] h := by
        intro x2 x3 x4 k0 hf
        unfold f_X6_best_J43 at hf
        refine G.istore (lv' := [(6, .int (k0)), (0, .ref (a0)), (1, .int (a1)), (2, .int (x2)), (3, .int (x3)), (4, .int (x4))]) C dX6_best_43 (by decide) rfl ?_
        refine G.iload C 0 dX6_best_45 rfl ?_
        refine G.iload_n C 4 dX6_best_47 rfl rfl ?_
        refine G.icmp_le (tgt := 56) C dX6_best_48 (by decide) hf (fun c3 hf => ?_) (fun c3 hf => ?_)
        · refine G.iload_n C 3 dX6_best_56 rfl rfl ?_
          refine G.sub C [1, 2, 4, 5, 0] (lv' := [(0, .ref (a0)), (1, .int (a1)), (3, .int (x3)), (4, .int (x4)), (6, .int (k0))]) rfl ?_
          exact hj57 _ _ _ _ hf
        · refine G.iload C 5 dX6_best_51 rfl ?_
          refine G.goto (tgt := 57) C dX6_best_53 (by decide) ?_
          refine G.sub C [1, 2, 4, 5, 0] (lv' := [(0, .ref (a0)), (1, .int (a1)), (3, .int (x3)), (4, .int (x4)), (6, .int (k0))]) rfl ?_
          exact hj57 _ _ _ _ hf
      refine G.iload C 4 dX6_best_7 rfl ?_
      refine G.bipush (v := 8) C dX6_best_9 (by decide) ?_
      refine G.icmp_ge (tgt := 77) C dX6_best_11 (by decide) hf (fun c7 hf => ?_) (fun c7 hf => ?_)
      · cases hf
        change some _ = some _ at hlp1
        have hf := hfo1
        try rw [← Option.some.inj hlp1] at hf
        try dsimp only at hf
        refine G.sub C [2] (lv' := [(2, .int (x2))]) rfl ?_
        exact hj77 _ hf
      · refine G.aload_n C 0 dX6_best_14 rfl rfl ?_
        refine G.iload_n C 1 dX6_best_15 rfl rfl ?_
        refine G.iload C 4 dX6_best_16 rfl ?_
        refine G.iconst (v := 2) C dX6_best_18 (by decide) ?_
        obtain ⟨v4, hv4, hf⟩ := bind_some hf
        try dsimp only at hf
        refine G.callV C (st := []) (st2 := [.int (v4)]) (ct_X6_toldOfPhases hv4) (ko_X6_toldOfPhases hv4) rfl m9_915 m9_916 m9_917 m9_5 m9_918 kd_X6_toldOfPhases ⟨Nat.le_of_ble_eq_true rfl, Nat.le_of_ble_eq_true rfl⟩ ⟨Nat.zero_le _, Nat.zero_le _⟩ (Nat.le_of_ble_eq_true rfl) rfl rfl dX6_best_19 ?_
        refine G.istore (lv' := [(5, .int (v4)), (0, .ref (a0)), (1, .int (a1)), (2, .int (x2)), (3, .int (x3)), (4, .int (x4))]) C dX6_best_22 (by decide) rfl ?_
        refine G.iload C 0 dX6_best_24 rfl ?_
        refine G.iconst (v := (-1)) C dX6_best_26 (by decide) ?_
        refine G.icmp_ne (tgt := 34) C dX6_best_27 (by decide) hf (fun c6 hf => ?_) (fun c6 hf => ?_)
        · refine G.aload_n C 1 dX6_best_34 rfl rfl ?_
          refine G.iload_n C 2 dX6_best_35 rfl rfl ?_
          refine G.iload C 5 dX6_best_36 rfl ?_
          refine G.iload C 0 dX6_best_38 rfl ?_
          obtain ⟨v5, hv5, hf⟩ := bind_some hf
          try dsimp only at hf
          refine G.callV C (st := []) (st2 := [.int (v5)]) (ct_X6_wouldTake hv5) (ko_X6_wouldTake hv5) rfl m9_919 m9_920 m9_921 m9_5 m9_922 kd_X6_wouldTake ⟨Nat.le_of_ble_eq_true rfl, Nat.le_of_ble_eq_true rfl⟩ ⟨Nat.zero_le _, Nat.zero_le _⟩ (Nat.le_of_ble_eq_true rfl) rfl rfl dX6_best_40 ?_
          refine G.sub C [1, 2, 3, 4, 5] (lv' := [(0, .ref (a0)), (1, .int (a1)), (2, .int (x2)), (3, .int (x3)), (4, .int (x4))]) rfl ?_
          exact hj43 _ _ _ _ hf
        · refine G.iconst (v := 0) C dX6_best_30 (by decide) ?_
          refine G.goto (tgt := 43) C dX6_best_31 (by decide) ?_
          refine G.sub C [1, 2, 3, 4, 5] (lv' := [(0, .ref (a0)), (1, .int (a1)), (2, .int (x2)), (3, .int (x3)), (4, .int (x4))]) rfl ?_
          exact hj43 _ _ _ _ hf
  refine G.sub C [3, 4, 2, 1, 0] (lv' := [(0, .ref (a0)), (1, .int (a1)), (2, .int (((-1) : Int32))), (3, .int ((0 : Int32))), (4, .int ((0 : Int32)))]) rfl ?_
  exact hloop1 LF _ _ _ hlp1
theorem ko_X6_bestHue {h : PH} {a0 : Nat} {a1 : Int32} {r : (Int32 × PH)} (hf : f_X6_bestHue h a0 a1 = some r) : kO h a0 5 := by
  unfold f_X6_bestHue at hf
  exact okO_k (gd_ok hf).1
theorem kd_X6_bestHue : yX6_bestHue.cls = RX6 ∧ yX6_bestHue.cls ≠ "java/lang/invoke/MethodHandle" ∧ yX6_bestHue.cls ≠ "java/lang/invoke/VarHandle" ∧ (parseMethodDescriptor yX6_bestHue.desc).map (fun d => d.parameters.length) = some 1 := by decide +kernel
set_option maxRecDepth 20000 in
set_option maxHeartbeats 4000000 in
theorem ct_X6_bestHue {l : Launch} {h : PH} {a0 : Nat} {a1 : Int32} {r : (Int32 × PH)} (hf : f_X6_bestHue h a0 a1 = some r) : CT l yX6_bestHue cX6_bestHue 2 (some .int) 7 170 [.ref (a0), .int (a1)] h (some (.int r.1)) r.2 := by
  refine CT.of (own := RX6) rfl (by decide) (Nat.le_of_ble_eq_true rfl) ?_
  intro p e R s m args below meth c g X hR C
  subst hR
  unfold f_X6_bestHue at hf
  obtain ⟨hok, hf⟩ := gd_ok hf
  have hj29 : ∀ (hh : PH) (k0 : Int32), f_X6_bestHue_J29 hh k0 = some r → G p l e ({ frames := 7, cells := 0, slots := 0, locals := 170 } : Room) s m args below meth c 2 g X h 0 0 (MQ below (QW g X h s.heap.size (some (.int r.1)) r.2) args s 0 0 (AF X h s.heap.size)) 29 [] [.int (k0)] hh := by
    intro hh k0 hf
    unfold f_X6_bestHue_J29 at hf
    cases hf
    exact G.iret C rfl dX6_bestHue_29
  have hj14 : ∀ (x0 : Nat) (x1 : Int32) (k0 : Nat) (k1 : Int32), f_X6_bestHue_J14 h (x0) (x1) k0 k1 = some r → G p l e ({ frames := 7, cells := 0, slots := 0, locals := 170 } : Room) s m args below meth c 2 g X h 0 0 (MQ below (QW g X h s.heap.size (some (.int r.1)) r.2) args s 0 0 (AF X h s.heap.size)) 14 [(0, .ref (x0)), (1, .int (x1))] [.int (k1), .ref (k0)] h := by
    intro x0 x1 k0 k1 hf
    unfold f_X6_bestHue_J14 at hf
    obtain ⟨⟨v6, h7⟩, hv6, hf⟩ := bind_some hf
    try dsimp only at hf
    refine G.callV C (st := []) (st2 := [.int (v6)]) (ct_X6_holds hv6) (ko_X6_holds hv6) rfl m9_162 m9_163 m9_164 m9_5 m9_165 kd_X6_holds ⟨Nat.le_of_ble_eq_true rfl, Nat.le_of_ble_eq_true rfl⟩ ⟨Nat.zero_le _, Nat.zero_le _⟩ (Nat.le_of_ble_eq_true rfl) rfl rfl dX6_bestHue_14 ?_
    refine G.if_eq (tgt := 28) C dX6_bestHue_17 (by decide) hf (fun c10 hf => ?_) (fun c10 hf => ?_)
    · refine G.iconst (v := 0) C dX6_bestHue_28 (by decide) ?_
      refine G.sub C [] (lv' := []) rfl ?_
      exact hj29 _ _ hf
    · refine G.aload_n C 0 dX6_bestHue_20 rfl rfl ?_
      refine G.iload_n C 1 dX6_bestHue_21 rfl rfl ?_
      obtain ⟨v9, hv9, hf⟩ := bind_some hf
      try dsimp only at hf
      refine G.callV C (st := []) (st2 := [.int (v9)]) (ct_X6_best hv9) (ko_X6_best hv9) rfl m9_940 m9_941 m9_942 m9_5 m9_943 kd_X6_best ⟨Nat.le_of_ble_eq_true rfl, Nat.le_of_ble_eq_true rfl⟩ ⟨Nat.zero_le _, Nat.zero_le _⟩ (Nat.le_of_ble_eq_true rfl) rfl rfl dX6_bestHue_22 ?_
      refine G.goto (tgt := 29) C dX6_bestHue_25 (by decide) ?_
      refine G.sub C [] (lv' := []) rfl ?_
      exact hj29 _ _ hf
  refine G.sub C [0, 1] (lv' := [(0, .ref (a0)), (1, .int (a1))]) rfl ?_
  refine G.aload_n C 0 dX6_bestHue_0 rfl rfl ?_
  refine G.aload_n C 0 dX6_bestHue_1 rfl rfl ?_
  refine G.iload_n C 1 dX6_bestHue_2 rfl rfl ?_
  obtain ⟨v1, hv1, hf⟩ := bind_some hf
  try dsimp only at hf
  refine G.callV C (st := [.ref (a0)]) (st2 := [.int (v1), .ref (a0)]) (ct_X6_isRope hv1) (ko_X6_isRope hv1) rfl m9_242 m9_243 m9_244 m9_5 m9_245 kd_X6_isRope ⟨Nat.le_of_ble_eq_true rfl, Nat.le_of_ble_eq_true rfl⟩ ⟨Nat.zero_le _, Nat.zero_le _⟩ (Nat.le_of_ble_eq_true rfl) rfl rfl dX6_bestHue_3 ?_
  refine G.if_eq (tgt := 13) C dX6_bestHue_6 (by decide) hf (fun c2 hf => ?_) (fun c2 hf => ?_)
  · refine G.iconst (v := 1) C dX6_bestHue_13 (by decide) ?_
    refine G.sub C [0, 1] (lv' := [(0, .ref (a0)), (1, .int (a1))]) rfl ?_
    exact hj14 _ _ _ _ hf
  · refine G.iconst (v := 0) C dX6_bestHue_9 (by decide) ?_
    refine G.goto (tgt := 14) C dX6_bestHue_10 (by decide) ?_
    refine G.sub C [0, 1] (lv' := [(0, .ref (a0)), (1, .int (a1))]) rfl ?_
    exact hj14 _ _ _ _ hf
theorem ko_X6_joining {h : PH} {a0 : Nat} {a1 : Int32} {a2 : Int32} {r : (Int32 × PH)} (hf : f_X6_joining h a0 a1 a2 = some r) : kO h a0 5 := by
  unfold f_X6_joining at hf
  exact okO_k (gd_ok hf).1
theorem kd_X6_joining : yX6_joining.cls = RX6 ∧ yX6_joining.cls ≠ "java/lang/invoke/MethodHandle" ∧ yX6_joining.cls ≠ "java/lang/invoke/VarHandle" ∧ (parseMethodDescriptor yX6_joining.desc).map (fun d => d.parameters.length) = some 2 := by decide +kernel
set_option maxRecDepth 20000 in
set_option maxHeartbeats 4000000 in
theorem ct_X6_joining {l : Launch} {h : PH} {a0 : Nat} {a1 : Int32} {a2 : Int32} {r : (Int32 × PH)} (hf : f_X6_joining h a0 a1 a2 = some r) : CT l yX6_joining cX6_joining 3 (some .int) 6 138 [.ref (a0), .int (a1), .int (a2)] h (some (.int r.1)) r.2 := by
  refine CT.of (own := RX6) rfl (by decide) (Nat.le_of_ble_eq_true rfl) ?_
  intro p e R s m args below meth c g X hR C
  subst hR
  unfold f_X6_joining at hf
  obtain ⟨hok, hf⟩ := gd_ok hf
  have hj38 : ∀ (hh : PH) (k0 : Int32), f_X6_joining_J38 hh k0 = some r → G p l e ({ frames := 6, cells := 0, slots := 0, locals := 138 } : Room) s m args below meth c 3 g X h 0 0 (MQ below (QW g X h s.heap.size (some (.int r.1)) r.2) args s 0 0 (AF X h s.heap.size)) 38 [] [.int (k0)] hh := by
    intro hh k0 hf
    unfold f_X6_joining_J38 at hf
    cases hf
    exact G.iret C rfl dX6_joining_38
  have hj22 : ∀ (x0 : Nat) (x1 : Int32) (x2 : Int32) (k0 : Nat) (k1 : Int32), f_X6_joining_J22 h (x0) (x1) (x2) k0 k1 = some r → G p l e ({ frames := 6, cells := 0, slots := 0, locals := 138 } : Room) s m args below meth c 3 g X h 0 0 (MQ below (QW g X h s.heap.size (some (.int r.1)) r.2) args s 0 0 (AF X h s.heap.size)) 22 [(0, .ref (x0)), (1, .int (x1)), (2, .int (x2))] [.int (k1), .ref (k0)] h := by
    intro x0 x1 x2 k0 k1 hf
    unfold f_X6_joining_J22 at hf
    obtain ⟨⟨v9, h10⟩, hv9, hf⟩ := bind_some hf
    try dsimp only at hf
    refine G.callV C (st := []) (st2 := [.int (v9)]) (ct_X6_holds hv9) (ko_X6_holds hv9) rfl m9_162 m9_163 m9_164 m9_5 m9_165 kd_X6_holds ⟨Nat.le_of_ble_eq_true rfl, Nat.le_of_ble_eq_true rfl⟩ ⟨Nat.zero_le _, Nat.zero_le _⟩ (Nat.le_of_ble_eq_true rfl) rfl rfl dX6_joining_22 ?_
    refine G.if_eq (tgt := 37) C dX6_joining_25 (by decide) hf (fun c15 hf => ?_) (fun c15 hf => ?_)
    · refine G.iconst (v := 0) C dX6_joining_37 (by decide) ?_
      refine G.sub C [] (lv' := []) rfl ?_
      exact hj38 _ _ hf
    · refine G.aload_n C 0 dX6_joining_28 rfl rfl ?_
      refine G.iload_n C 1 dX6_joining_29 rfl rfl ?_
      refine G.iload_n C 2 dX6_joining_30 rfl rfl ?_
      obtain ⟨⟨v12, h13⟩, hv12, hf⟩ := bind_some hf
      try dsimp only at hf
      refine G.callV C (st := []) (st2 := [.int (v12)]) (ct_X6_whyNotJoined hv12) (ko_X6_whyNotJoined hv12) rfl m9_482 m9_483 m9_484 m9_5 m9_485 kd_X6_whyNotJoined ⟨Nat.le_of_ble_eq_true rfl, Nat.le_of_ble_eq_true rfl⟩ ⟨Nat.zero_le _, Nat.zero_le _⟩ (Nat.le_of_ble_eq_true rfl) rfl rfl dX6_joining_31 ?_
      refine G.goto (tgt := 38) C dX6_joining_34 (by decide) ?_
      refine G.sub C [] (lv' := []) rfl ?_
      exact hj38 _ _ hf
  have hj21 : ∀ (x0 : Nat) (x1 : Int32) (x2 : Int32) (k0 : Nat), f_X6_joining_J21 h (x0) (x1) (x2) k0 = some r → G p l e ({ frames := 6, cells := 0, slots := 0, locals := 138 } : Room) s m args below meth c 3 g X h 0 0 (MQ below (QW g X h s.heap.size (some (.int r.1)) r.2) args s 0 0 (AF X h s.heap.size)) 21 [(0, .ref (x0)), (1, .int (x1)), (2, .int (x2))] [.ref (k0)] h := by
    intro x0 x1 x2 k0 hf
    unfold f_X6_joining_J21 at hf
    refine G.iconst (v := 1) C dX6_joining_21 (by decide) ?_
    refine G.sub C [0, 1, 2] (lv' := [(0, .ref (x0)), (1, .int (x1)), (2, .int (x2))]) rfl ?_
    exact hj22 _ _ _ _ _ hf
  refine G.sub C [0, 1, 2] (lv' := [(0, .ref (a0)), (1, .int (a1)), (2, .int (a2))]) rfl ?_
  refine G.aload_n C 0 dX6_joining_0 rfl rfl ?_
  refine G.aload_n C 0 dX6_joining_1 rfl rfl ?_
  refine G.iload_n C 1 dX6_joining_2 rfl rfl ?_
  obtain ⟨v1, hv1, hf⟩ := bind_some hf
  try dsimp only at hf
  refine G.callV C (st := [.ref (a0)]) (st2 := [.int (v1), .ref (a0)]) (ct_X6_isRope hv1) (ko_X6_isRope hv1) rfl m9_242 m9_243 m9_244 m9_5 m9_245 kd_X6_isRope ⟨Nat.le_of_ble_eq_true rfl, Nat.le_of_ble_eq_true rfl⟩ ⟨Nat.zero_le _, Nat.zero_le _⟩ (Nat.le_of_ble_eq_true rfl) rfl rfl dX6_joining_3 ?_
  refine G.if_eq (tgt := 21) C dX6_joining_6 (by decide) hf (fun c4 hf => ?_) (fun c4 hf => ?_)
  · refine G.sub C [0, 1, 2] (lv' := [(0, .ref (a0)), (1, .int (a1)), (2, .int (a2))]) rfl ?_
    exact hj21 _ _ _ _ hf
  · refine G.aload_n C 0 dX6_joining_9 rfl rfl ?_
    refine G.iload_n C 2 dX6_joining_10 rfl rfl ?_
    obtain ⟨v2, hv2, hf⟩ := bind_some hf
    try dsimp only at hf
    refine G.callV C (st := [.ref (a0)]) (st2 := [.int (v2), .ref (a0)]) (ct_X6_isRope hv2) (ko_X6_isRope hv2) rfl m9_242 m9_243 m9_244 m9_5 m9_245 kd_X6_isRope ⟨Nat.le_of_ble_eq_true rfl, Nat.le_of_ble_eq_true rfl⟩ ⟨Nat.zero_le _, Nat.zero_le _⟩ (Nat.le_of_ble_eq_true rfl) rfl rfl dX6_joining_11 ?_
    refine G.if_eq (tgt := 21) C dX6_joining_14 (by decide) hf (fun c3 hf => ?_) (fun c3 hf => ?_)
    · refine G.sub C [0, 1, 2] (lv' := [(0, .ref (a0)), (1, .int (a1)), (2, .int (a2))]) rfl ?_
      exact hj21 _ _ _ _ hf
    · refine G.iconst (v := 0) C dX6_joining_17 (by decide) ?_
      refine G.goto (tgt := 22) C dX6_joining_18 (by decide) ?_
      refine G.sub C [0, 1, 2] (lv' := [(0, .ref (a0)), (1, .int (a1)), (2, .int (a2))]) rfl ?_
      exact hj22 _ _ _ _ _ hf
theorem ko_X6_greatest {h : PH} {a0 : Nat} {a1 : Int32} {r : (Int32 × PH)} (hf : f_X6_greatest h a0 a1 = some r) : kO h a0 5 := by
  unfold f_X6_greatest at hf
  exact okO_k (gd_ok hf).1
theorem kd_X6_greatest : yX6_greatest.cls = RX6 ∧ yX6_greatest.cls ≠ "java/lang/invoke/MethodHandle" ∧ yX6_greatest.cls ≠ "java/lang/invoke/VarHandle" ∧ (parseMethodDescriptor yX6_greatest.desc).map (fun d => d.parameters.length) = some 1 := by decide +kernel
set_option maxRecDepth 20000 in
set_option maxHeartbeats 4000000 in
theorem ct_X6_greatest {l : Launch} {h : PH} {a0 : Nat} {a1 : Int32} {r : (Int32 × PH)} (hf : f_X6_greatest h a0 a1 = some r) : CT l yX6_greatest cX6_greatest 2 (some .int) 5 113 [.ref (a0), .int (a1)] h (some (.int r.1)) r.2 := by
  refine CT.of (own := RX6) rfl (by decide) (Nat.le_of_ble_eq_true rfl) ?_
  intro p e R s m args below meth c g X hR C
  subst hR
  unfold f_X6_greatest at hf
  obtain ⟨hok, hf⟩ := gd_ok hf
  have hj29 : ∀ (hh : PH) (k0 : Int32), f_X6_greatest_J29 hh k0 = some r → G p l e ({ frames := 5, cells := 0, slots := 0, locals := 113 } : Room) s m args below meth c 2 g X h 0 0 (MQ below (QW g X h s.heap.size (some (.int r.1)) r.2) args s 0 0 (AF X h s.heap.size)) 29 [] [.int (k0)] hh := by
    intro hh k0 hf
    unfold f_X6_greatest_J29 at hf
    cases hf
    exact G.iret C rfl dX6_greatest_29
  have hj14 : ∀ (x0 : Nat) (x1 : Int32) (k0 : Nat) (k1 : Int32), f_X6_greatest_J14 h (x0) (x1) k0 k1 = some r → G p l e ({ frames := 5, cells := 0, slots := 0, locals := 113 } : Room) s m args below meth c 2 g X h 0 0 (MQ below (QW g X h s.heap.size (some (.int r.1)) r.2) args s 0 0 (AF X h s.heap.size)) 14 [(0, .ref (x0)), (1, .int (x1))] [.int (k1), .ref (k0)] h := by
    intro x0 x1 k0 k1 hf
    unfold f_X6_greatest_J14 at hf
    obtain ⟨⟨v6, h7⟩, hv6, hf⟩ := bind_some hf
    try dsimp only at hf
    refine G.callV C (st := []) (st2 := [.int (v6)]) (ct_X6_holds hv6) (ko_X6_holds hv6) rfl m9_162 m9_163 m9_164 m9_5 m9_165 kd_X6_holds ⟨Nat.le_of_ble_eq_true rfl, Nat.le_of_ble_eq_true rfl⟩ ⟨Nat.zero_le _, Nat.zero_le _⟩ (Nat.le_of_ble_eq_true rfl) rfl rfl dX6_greatest_14 ?_
    refine G.if_eq (tgt := 28) C dX6_greatest_17 (by decide) hf (fun c10 hf => ?_) (fun c10 hf => ?_)
    · refine G.iconst (v := 0) C dX6_greatest_28 (by decide) ?_
      refine G.sub C [] (lv' := []) rfl ?_
      exact hj29 _ _ hf
    · refine G.aload_n C 0 dX6_greatest_20 rfl rfl ?_
      refine G.iload_n C 1 dX6_greatest_21 rfl rfl ?_
      obtain ⟨v9, hv9, hf⟩ := bind_some hf
      try dsimp only at hf
      refine G.callV C (st := []) (st2 := [.int (v9)]) (ct_X6_clash hv9) (ko_X6_clash hv9) rfl m9_389 m9_390 m9_391 m9_5 m9_392 kd_X6_clash ⟨Nat.le_of_ble_eq_true rfl, Nat.le_of_ble_eq_true rfl⟩ ⟨Nat.zero_le _, Nat.zero_le _⟩ (Nat.le_of_ble_eq_true rfl) rfl rfl dX6_greatest_22 ?_
      refine G.goto (tgt := 29) C dX6_greatest_25 (by decide) ?_
      refine G.sub C [] (lv' := []) rfl ?_
      exact hj29 _ _ hf
  refine G.sub C [0, 1] (lv' := [(0, .ref (a0)), (1, .int (a1))]) rfl ?_
  refine G.aload_n C 0 dX6_greatest_0 rfl rfl ?_
  refine G.aload_n C 0 dX6_greatest_1 rfl rfl ?_
  refine G.iload_n C 1 dX6_greatest_2 rfl rfl ?_
  obtain ⟨v1, hv1, hf⟩ := bind_some hf
  try dsimp only at hf
  refine G.callV C (st := [.ref (a0)]) (st2 := [.int (v1), .ref (a0)]) (ct_X6_isRope hv1) (ko_X6_isRope hv1) rfl m9_242 m9_243 m9_244 m9_5 m9_245 kd_X6_isRope ⟨Nat.le_of_ble_eq_true rfl, Nat.le_of_ble_eq_true rfl⟩ ⟨Nat.zero_le _, Nat.zero_le _⟩ (Nat.le_of_ble_eq_true rfl) rfl rfl dX6_greatest_3 ?_
  refine G.if_eq (tgt := 13) C dX6_greatest_6 (by decide) hf (fun c2 hf => ?_) (fun c2 hf => ?_)
  · refine G.iconst (v := 1) C dX6_greatest_13 (by decide) ?_
    refine G.sub C [0, 1] (lv' := [(0, .ref (a0)), (1, .int (a1))]) rfl ?_
    exact hj14 _ _ _ _ hf
  · refine G.iconst (v := 0) C dX6_greatest_9 (by decide) ?_
    refine G.goto (tgt := 14) C dX6_greatest_10 (by decide) ?_
    refine G.sub C [0, 1] (lv' := [(0, .ref (a0)), (1, .int (a1))]) rfl ?_
    exact hj14 _ _ _ _ hf
theorem ko_X6_share {h : PH} {a0 : Nat} {r : UInt64} (hf : f_X6_share h a0 = some r) : kO h a0 5 := by
  unfold f_X6_share at hf
  exact okO_k (gd_ok hf).1
theorem kd_X6_share : yX6_share.cls = RX6 ∧ yX6_share.cls ≠ "java/lang/invoke/MethodHandle" ∧ yX6_share.cls ≠ "java/lang/invoke/VarHandle" ∧ (parseMethodDescriptor yX6_share.desc).map (fun d => d.parameters.length) = some 0 := by decide +kernel
set_option maxRecDepth 20000 in
set_option maxHeartbeats 4000000 in
theorem ct_X6_share {l : Launch} {h : PH} {a0 : Nat} {r : UInt64} (hf : f_X6_share h a0 = some r) : CT l yX6_share cX6_share 1 (some .double) 6 137 [.ref (a0)] h (some (.double r)) h := by
  refine CT.of (own := RX6) rfl (by decide) (Nat.le_of_ble_eq_true rfl) ?_
  intro p e R s m args below meth c g X hR C
  subst hR
  unfold f_X6_share at hf
  obtain ⟨hok, hf⟩ := gd_ok hf
  have hj33 : ∀ (k0 : UInt64), f_X6_share_J33 h k0 = some r → G p l e ({ frames := 6, cells := 0, slots := 0, locals := 137 } : Room) s m args below meth c 1 g X h 0 0 (MQ below (QW g X h s.heap.size (some (.double r)) h) args s 0 0 (AF X h s.heap.size)) 33 [] [.double (k0)] h := by
    intro k0 hf
    unfold f_X6_share_J33 at hf
    cases hf
    exact G.dret C rfl dX6_share_33
  refine G.sub C [0] (lv' := [(0, .ref (a0))]) rfl ?_
  refine G.aload_n C 0 dX6_share_0 rfl rfl ?_
  refine G.getR (ci := 5) (k := 1) C rfl inlX6 (by decide) m9_70 rfl hf dX6_share_1 (fun v1 hv1 hf => ?_)
  try dsimp only at hf
  refine G.bipush (v := 8) C dX6_share_4 (by decide) ?_
  refine G.iald C hf dX6_share_6 (fun v2 hv2 hf => ?_)
  try dsimp only at hf
  refine G.if_ne (tgt := 14) C dX6_share_7 (by decide) hf (fun c7 hf => ?_) (fun c7 hf => ?_)
  · refine G.aload_n C 0 dX6_share_14 rfl rfl ?_
    refine G.iconst (v := 0) C dX6_share_15 (by decide) ?_
    obtain ⟨v3, hv3, hf⟩ := bind_some hf
    try dsimp only at hf
    refine G.callV C (st := []) (st2 := [.int (v3)]) (ct_X6_sum hv3) (ko_X6_sum hv3) rfl m9_827 m9_828 m9_829 m9_5 m9_830 kd_X6_sum ⟨Nat.le_of_ble_eq_true rfl, Nat.le_of_ble_eq_true rfl⟩ ⟨Nat.zero_le _, Nat.zero_le _⟩ (Nat.le_of_ble_eq_true rfl) rfl rfl dX6_share_16 ?_
    refine G.aload_n C 0 dX6_share_19 rfl rfl ?_
    refine G.iconst (v := 1) C dX6_share_20 (by decide) ?_
    obtain ⟨v4, hv4, hf⟩ := bind_some hf
    try dsimp only at hf
    refine G.callV C (st := [.int (v3)]) (st2 := [.int (v4), .int (v3)]) (ct_X6_sum hv4) (ko_X6_sum hv4) rfl m9_827 m9_828 m9_829 m9_5 m9_830 kd_X6_sum ⟨Nat.le_of_ble_eq_true rfl, Nat.le_of_ble_eq_true rfl⟩ ⟨Nat.zero_le _, Nat.zero_le _⟩ (Nat.le_of_ble_eq_true rfl) rfl rfl dX6_share_21 ?_
    refine G.isub C dX6_share_24 ?_
    refine G.i2d C dX6_share_25 ?_
    refine G.aload_n C 0 dX6_share_26 rfl rfl ?_
    refine G.iconst (v := 0) C dX6_share_27 (by decide) ?_
    obtain ⟨v5, hv5, hf⟩ := bind_some hf
    try dsimp only at hf
    refine G.callV C (st := [.double ((FP.i2d (v3 - v4)))]) (st2 := [.int (v5), .double ((FP.i2d (v3 - v4)))]) (ct_X6_sum hv5) (ko_X6_sum hv5) rfl m9_827 m9_828 m9_829 m9_5 m9_830 kd_X6_sum ⟨Nat.le_of_ble_eq_true rfl, Nat.le_of_ble_eq_true rfl⟩ ⟨Nat.zero_le _, Nat.zero_le _⟩ (Nat.le_of_ble_eq_true rfl) rfl rfl dX6_share_28 ?_
    refine G.i2d C dX6_share_31 ?_
    obtain ⟨c6, hf⟩ := gd_ok hf
    refine G.ddiv C dX6_share_32 (nn64_ok c6) ?_
    refine G.sub C [] (lv' := []) rfl ?_
    exact hj33 _ hf
  · refine G.dconst1 C dX6_share_10 ?_
    refine G.goto (tgt := 33) C dX6_share_11 (by decide) ?_
    refine G.sub C [] (lv' := []) rfl ?_
    exact hj33 _ hf
theorem ko_X6_fullness {h : PH} {a0 : Nat} {r : (UInt64 × PH)} (hf : f_X6_fullness h a0 = some r) : kO h a0 5 := by
  unfold f_X6_fullness at hf
  exact okO_k (gd_ok hf).1
theorem kd_X6_fullness : yX6_fullness.cls = RX6 ∧ yX6_fullness.cls ≠ "java/lang/invoke/MethodHandle" ∧ yX6_fullness.cls ≠ "java/lang/invoke/VarHandle" ∧ (parseMethodDescriptor yX6_fullness.desc).map (fun d => d.parameters.length) = some 0 := by decide +kernel
set_option maxRecDepth 20000 in
set_option maxHeartbeats 4000000 in
theorem ct_X6_fullness {l : Launch} {h : PH} {a0 : Nat} {r : (UInt64 × PH)} (hf : f_X6_fullness h a0 = some r) : CT l yX6_fullness cX6_fullness 1 (some .double) 7 157 [.ref (a0)] h (some (.double r.1)) r.2 := by
  refine CT.of (own := RX6) rfl (by decide) (Nat.le_of_ble_eq_true rfl) ?_
  intro p e R s m args below meth c g X hR C
  subst hR
  unfold f_X6_fullness at hf
  obtain ⟨hok, hf⟩ := gd_ok hf
  refine G.sub C [0] (lv' := [(0, .ref (a0))]) rfl ?_
  refine G.aload_n C 0 dX6_fullness_0 rfl rfl ?_
  refine G.iconst (v := 0) C dX6_fullness_1 (by decide) ?_
  refine G.put (ci := 5) (k := 0) C rfl inlX6 (by decide) m9_166 rfl tyX6 tyX6_ok nmX6 rfl rfl rfl hf dX6_fullness_2 (fun h1 hh1 hf => ?_)
  try dsimp only at hf
  refine G.aload_n C 0 dX6_fullness_5 rfl rfl ?_
  obtain ⟨v2, hv2, hf⟩ := bind_some hf
  try dsimp only at hf
  refine G.callV C (st := []) (st2 := [.double (v2)]) (ct_X6_share hv2) (ko_X6_share hv2) rfl m9_974 m9_975 m9_976 m9_5 m9_977 kd_X6_share ⟨Nat.le_of_ble_eq_true rfl, Nat.le_of_ble_eq_true rfl⟩ ⟨Nat.zero_le _, Nat.zero_le _⟩ (Nat.le_of_ble_eq_true rfl) rfl rfl dX6_fullness_6 ?_
  cases hf
  exact G.dret C rfl dX6_fullness_9
theorem kd_X6_bitsOf : yX6_bitsOf.cls ≠ "java/lang/invoke/MethodHandle" ∧ yX6_bitsOf.cls ≠ "java/lang/invoke/VarHandle" ∧ (parseMethodDescriptor yX6_bitsOf.desc).map (fun d => d.parameters.length) = some 1 := by decide +kernel
set_option maxRecDepth 20000 in
set_option maxHeartbeats 4000000 in
theorem ct_X6_bitsOf {l : Launch} {h : PH} {a0 : UInt64} {r : Int64} (hf : f_X6_bitsOf h a0 = some r) : CT l yX6_bitsOf cX6_bitsOf 6 (some .long) 0 0 [.double (a0)] h (some (.long r)) h := by
  refine CT.of (own := RX6) rfl (by decide) (Nat.le_of_ble_eq_true rfl) ?_
  intro p e R s m args below meth c g X hR C
  subst hR
  unfold f_X6_bitsOf at hf
  have hj37 : ∀ (x2 : Int64) (x4 : UInt64), f_X6_bitsOf_J37 h (x2) (x4) = some r → G p l e ({ frames := 0, cells := 0, slots := 0, locals := 0 } : Room) s m args below meth c 6 g X h 0 0 (MQ below (QW g X h s.heap.size (some (.long r)) h) args s 0 0 (AF X h s.heap.size)) 37 [(2, .long (x2)), (4, .double (x4))] [] h := by
    intro x2 x4 hf
    unfold f_X6_bitsOf_J37 at hf
    refine G.lload_n C 0 dX6_bitsOf_37 rfl rfl ?_
    refine G.ldc2 (v := 4503599627370496) C m9_1022 dX6_bitsOf_38 ?_
    refine G.lmul C dX6_bitsOf_41 ?_
    refine G.dload C 1 dX6_bitsOf_42 rfl ?_
    refine G.dconst1 C dX6_bitsOf_44 ?_
    obtain ⟨c5, hf⟩ := gd_ok hf
    refine G.dsub C dX6_bitsOf_45 (nn64_ok c5) ?_
    refine G.ldc2d (v := 4841369599423283200) C m9_1023 dX6_bitsOf_46 ?_
    obtain ⟨c6, hf⟩ := gd_ok hf
    refine G.dmul C dX6_bitsOf_49 (nn64_ok c6) ?_
    refine G.d2l C dX6_bitsOf_50 ?_
    refine G.ladd C dX6_bitsOf_51 ?_
    cases hf
    exact G.lret C rfl dX6_bitsOf_52
  refine G.sub C [0] (lv' := [(0, .double (a0))]) rfl ?_
  refine G.dload_n C 0 dX6_bitsOf_0 rfl rfl ?_
  refine G.dconst0 C dX6_bitsOf_1 ?_
  refine G.dcmp C dX6_bitsOf_2 ?_
  refine G.if_ne (tgt := 8) C dX6_bitsOf_3 (by decide) hf (fun c4 hf => ?_) (fun c4 hf => ?_)
  · refine G.ldc2 (v := 1023) C m9_1020 dX6_bitsOf_8 ?_
    refine G.lstore_n (lv' := [(2, .long ((1023 : Int64))), (0, .double (a0))]) C dX6_bitsOf_11 rfl (by decide) rfl ?_
    refine G.dload_n C 1 dX6_bitsOf_12 rfl rfl ?_
    refine G.dstore (lv' := [(4, .double (a0)), (2, .long ((1023 : Int64))), (0, .double (a0))]) C dX6_bitsOf_13 (by decide) rfl ?_
    obtain ⟨z1, hlp1, hfo1⟩ := bind_some hf
    clear hf
    have hloop1 : ∀ (k : Nat), ∀ (x2 : Int64) (x4 : UInt64), (lpn (f_X6_bitsOf_L15 (h)) k (x2, x4)) = some z1 → G p l e ({ frames := 0, cells := 0, slots := 0, locals := 0 } : Room) s m args below meth c 6 g X h 0 0 (MQ below (QW g X h s.heap.size (some (.long r)) h) args s 0 0 (AF X h s.heap.size)) 15 [(2, .long (x2)), (4, .double (x4))] [] h := by
      intro k
      induction k with
      | zero => intro x2 x4 hlp1; exact (lpn_0 hlp1).elim
      | succ k ih1 =>
        intro x2 x4 hlp1
        obtain ⟨y1, hf, hlp1⟩ := lpn_s hlp1
        unfold f_X6_bitsOf_L15 at hf
        try dsimp only at hf
        refine G.dload C 1 dX6_bitsOf_15 rfl ?_
        refine G.dconst1 C dX6_bitsOf_17 ?_
        refine G.dcmp C dX6_bitsOf_18 ?_
        refine G.if_ge (tgt := 37) C dX6_bitsOf_19 (by decide) hf (fun c3 hf => ?_) (fun c3 hf => ?_)
        · cases hf
          change some _ = some _ at hlp1
          have hf := hfo1
          try rw [← Option.some.inj hlp1] at hf
          try dsimp only at hf
          refine G.sub C [0, 1] (lv' := [(2, .long (x2)), (4, .double (x4))]) rfl ?_
          exact hj37 _ _ hf
        · refine G.dload C 1 dX6_bitsOf_22 rfl ?_
          refine G.ldc2d (v := 4611686018427387904) C m9_1021 dX6_bitsOf_24 ?_
          obtain ⟨c2, hf⟩ := gd_ok hf
          refine G.dmul C dX6_bitsOf_27 (nn64_ok c2) ?_
          refine G.dstore (lv' := [(4, .double ((FP.dmul x4 (4611686018427387904 : UInt64)))), (2, .long (x2))]) C dX6_bitsOf_28 (by decide) rfl ?_
          refine G.lload_n C 1 dX6_bitsOf_30 rfl rfl ?_
          refine G.lconst (v := 1) C dX6_bitsOf_31 (by decide) ?_
          refine G.lsub C dX6_bitsOf_32 ?_
          refine G.lstore_n (lv' := [(2, .long ((x2 - (1 : Int64)))), (4, .double ((FP.dmul x4 (4611686018427387904 : UInt64))))]) C dX6_bitsOf_33 rfl (by decide) rfl ?_
          refine G.goto (tgt := 15) C dX6_bitsOf_34 (by decide) ?_
          cases hf
          refine G.sub C [0, 1] (lv' := [(2, .long ((x2 - (1 : Int64)))), (4, .double ((FP.dmul x4 (4611686018427387904 : UInt64))))]) rfl ?_
          exact ih1 _ _ hlp1
    refine G.sub C [1, 0] (lv' := [(2, .long ((1023 : Int64))), (4, .double (a0))]) rfl ?_
    exact hloop1 LF _ _ hlp1
  · refine G.lconst (v := 0) C dX6_bitsOf_6 (by decide) ?_
    cases hf
    exact G.lret C rfl dX6_bitsOf_7
theorem ko_X6_digestOne {h : PH} {a0 : Nat} {a1 : Int64} {r : PH} (hf : f_X6_digestOne h a0 a1 = some r) : kO h a0 5 := by
  unfold f_X6_digestOne at hf
  exact okO_k (gd_ok hf).1
theorem kd_X6_digestOne : yX6_digestOne.cls = RX6 ∧ yX6_digestOne.cls ≠ "java/lang/invoke/MethodHandle" ∧ yX6_digestOne.cls ≠ "java/lang/invoke/VarHandle" ∧ (parseMethodDescriptor yX6_digestOne.desc).map (fun d => d.parameters.length) = some 1 := by decide +kernel
set_option maxRecDepth 20000 in
set_option maxHeartbeats 4000000 in
theorem ct_X6_digestOne {l : Launch} {h : PH} {a0 : Nat} {a1 : Int64} {r : PH} (hf : f_X6_digestOne h a0 a1 = some r) : CT l yX6_digestOne cX6_digestOne 3 none 0 0 [.ref (a0), .long (a1)] h none r := by
  refine CT.of (own := RX6) rfl (by decide) (Nat.le_of_ble_eq_true rfl) ?_
  intro p e R s m args below meth c g X hR C
  subst hR
  unfold f_X6_digestOne at hf
  obtain ⟨hok, hf⟩ := gd_ok hf
  refine G.sub C [0, 1] (lv' := [(0, .ref (a0)), (1, .long (a1))]) rfl ?_
  refine G.aload_n C 0 dX6_digestOne_0 rfl rfl ?_
  refine G.ldc2 (v := 31) C m9_1012 dX6_digestOne_1 ?_
  refine G.aload_n C 0 dX6_digestOne_4 rfl rfl ?_
  refine G.getJ (ci := 5) (k := 15) C rfl inlX6 (by decide) m9_1007 rfl hf dX6_digestOne_5 (fun v1 hv1 hf => ?_)
  try dsimp only at hf
  refine G.lmul C dX6_digestOne_8 ?_
  refine G.lload_n C 1 dX6_digestOne_9 rfl rfl ?_
  refine G.ladd C dX6_digestOne_10 ?_
  refine G.put (ci := 5) (k := 15) C rfl inlX6 (by decide) m9_1007 rfl tyX6 tyX6_ok nmX6 rfl rfl rfl hf dX6_digestOne_11 (fun h2 hh2 hf => ?_)
  try dsimp only at hf
  cases hf
  exact G.vret C rfl dX6_digestOne_14
theorem ko_X6_digestRope {h : PH} {a0 : Nat} {a1 : Int32} {r : PH} (hf : f_X6_digestRope h a0 a1 = some r) : kO h a0 5 := by
  unfold f_X6_digestRope at hf
  exact okO_k (gd_ok hf).1
theorem kd_X6_digestRope : yX6_digestRope.cls = RX6 ∧ yX6_digestRope.cls ≠ "java/lang/invoke/MethodHandle" ∧ yX6_digestRope.cls ≠ "java/lang/invoke/VarHandle" ∧ (parseMethodDescriptor yX6_digestRope.desc).map (fun d => d.parameters.length) = some 1 := by decide +kernel
set_option maxRecDepth 20000 in
set_option maxHeartbeats 4000000 in
theorem ct_X6_digestRope {l : Launch} {h : PH} {a0 : Nat} {a1 : Int32} {r : PH} (hf : f_X6_digestRope h a0 a1 = some r) : CT l yX6_digestRope cX6_digestRope 4 none 7 170 [.ref (a0), .int (a1)] h none r := by
  refine CT.of (own := RX6) rfl (by decide) (Nat.le_of_ble_eq_true rfl) ?_
  intro p e R s m args below meth c g X hR C
  subst hR
  unfold f_X6_digestRope at hf
  obtain ⟨hok, hf⟩ := gd_ok hf
  have hj122 : ∀ (hh : PH) (x0 : Nat) (x1 : Int32), f_X6_digestRope_J122 hh (x0) (x1) = some r → G p l e ({ frames := 7, cells := 0, slots := 0, locals := 170 } : Room) s m args below meth c 4 g X h 0 0 (MQ below (QW g X h s.heap.size none r) args s 0 0 (AF X h s.heap.size)) 122 [(0, .ref (x0)), (1, .int (x1))] [] hh := by
    intro hh x0 x1 hf
    unfold f_X6_digestRope_J122 at hf
    refine G.aload_n C 0 dX6_digestRope_122 rfl rfl ?_
    refine G.aload_n C 0 dX6_digestRope_123 rfl rfl ?_
    refine G.iload_n C 1 dX6_digestRope_124 rfl rfl ?_
    obtain ⟨v25, hv25, hf⟩ := bind_some hf
    try dsimp only at hf
    refine G.callV C (st := [.ref (x0)]) (st2 := [.int (v25), .ref (x0)]) (ct_X6_best hv25) (ko_X6_best hv25) rfl m9_940 m9_941 m9_942 m9_5 m9_943 kd_X6_best ⟨Nat.le_of_ble_eq_true rfl, Nat.le_of_ble_eq_true rfl⟩ ⟨Nat.zero_le _, Nat.zero_le _⟩ (Nat.le_of_ble_eq_true rfl) rfl rfl dX6_digestRope_125 ?_
    refine G.i2l C dX6_digestRope_128 ?_
    obtain ⟨h26, hh26, hf⟩ := bind_some hf
    try dsimp only at hf
    refine G.callV C (st := []) (st2 := []) (ct_X6_digestOne hh26) (ko_X6_digestOne hh26) rfl m9_1008 m9_1009 m9_1010 m9_5 m9_1011 kd_X6_digestOne ⟨Nat.le_of_ble_eq_true rfl, Nat.le_of_ble_eq_true rfl⟩ ⟨Nat.zero_le _, Nat.zero_le _⟩ (Nat.le_of_ble_eq_true rfl) rfl rfl dX6_digestRope_129 ?_
    refine G.aload_n C 0 dX6_digestRope_132 rfl rfl ?_
    refine G.aload_n C 0 dX6_digestRope_133 rfl rfl ?_
    refine G.iload_n C 1 dX6_digestRope_134 rfl rfl ?_
    obtain ⟨v27, hv27, hf⟩ := bind_some hf
    try dsimp only at hf
    refine G.callV C (st := [.ref (x0)]) (st2 := [.int (v27), .ref (x0)]) (ct_X6_clash hv27) (ko_X6_clash hv27) rfl m9_389 m9_390 m9_391 m9_5 m9_392 kd_X6_clash ⟨Nat.le_of_ble_eq_true rfl, Nat.le_of_ble_eq_true rfl⟩ ⟨Nat.zero_le _, Nat.zero_le _⟩ (Nat.le_of_ble_eq_true rfl) rfl rfl dX6_digestRope_135 ?_
    refine G.i2l C dX6_digestRope_138 ?_
    obtain ⟨h28, hh28, hf⟩ := bind_some hf
    try dsimp only at hf
    refine G.callV C (st := []) (st2 := []) (ct_X6_digestOne hh28) (ko_X6_digestOne hh28) rfl m9_1008 m9_1009 m9_1010 m9_5 m9_1011 kd_X6_digestOne ⟨Nat.le_of_ble_eq_true rfl, Nat.le_of_ble_eq_true rfl⟩ ⟨Nat.zero_le _, Nat.zero_le _⟩ (Nat.le_of_ble_eq_true rfl) rfl rfl dX6_digestRope_139 ?_
    refine G.aload_n C 0 dX6_digestRope_142 rfl rfl ?_
    refine G.aload_n C 0 dX6_digestRope_143 rfl rfl ?_
    refine G.iload_n C 1 dX6_digestRope_144 rfl rfl ?_
    refine G.iconst (v := 0) C dX6_digestRope_145 (by decide) ?_
    obtain ⟨⟨v29, h30⟩, hv29, hf⟩ := bind_some hf
    try dsimp only at hf
    refine G.callV C (st := [.ref (x0)]) (st2 := [.int (v29), .ref (x0)]) (ct_X6_whyNotJoined hv29) (ko_X6_whyNotJoined hv29) rfl m9_482 m9_483 m9_484 m9_5 m9_485 kd_X6_whyNotJoined ⟨Nat.le_of_ble_eq_true rfl, Nat.le_of_ble_eq_true rfl⟩ ⟨Nat.zero_le _, Nat.zero_le _⟩ (Nat.le_of_ble_eq_true rfl) rfl rfl dX6_digestRope_146 ?_
    refine G.i2l C dX6_digestRope_149 ?_
    obtain ⟨h32, hh32, hf⟩ := bind_some hf
    try dsimp only at hf
    refine G.callV C (st := []) (st2 := []) (ct_X6_digestOne hh32) (ko_X6_digestOne hh32) rfl m9_1008 m9_1009 m9_1010 m9_5 m9_1011 kd_X6_digestOne ⟨Nat.le_of_ble_eq_true rfl, Nat.le_of_ble_eq_true rfl⟩ ⟨Nat.zero_le _, Nat.zero_le _⟩ (Nat.le_of_ble_eq_true rfl) rfl rfl dX6_digestRope_150 ?_
    cases hf
    exact G.vret C rfl dX6_digestRope_153
  have hj58 : ∀ (hh : PH) (x0 : Nat) (x1 : Int32), f_X6_digestRope_J58 hh (x0) (x1) = some r → G p l e ({ frames := 7, cells := 0, slots := 0, locals := 170 } : Room) s m args below meth c 4 g X h 0 0 (MQ below (QW g X h s.heap.size none r) args s 0 0 (AF X h s.heap.size)) 58 [(0, .ref (x0)), (1, .int (x1))] [] hh := by
    intro hh x0 x1 hf
    unfold f_X6_digestRope_J58 at hf
    refine G.iconst (v := 0) C dX6_digestRope_58 (by decide) ?_
    refine G.istore_n (lv' := [(2, .int ((0 : Int32))), (0, .ref (x0)), (1, .int (x1))]) C dX6_digestRope_59 rfl (by decide) rfl ?_
    obtain ⟨z33, hlp33, hfo33⟩ := bind_some hf
    clear hf
    have hloop33 : ∀ (k : Nat), ∀ (x2 : Int32) (hh : PH), (lpn (f_X6_digestRope_L60 (x0) (x1)) k (x2, hh)) = some z33 → G p l e ({ frames := 7, cells := 0, slots := 0, locals := 170 } : Room) s m args below meth c 4 g X h 0 0 (MQ below (QW g X h s.heap.size none r) args s 0 0 (AF X h s.heap.size)) 60 [(0, .ref (x0)), (1, .int (x1)), (2, .int (x2))] [] hh := by
      intro k
      induction k with
      | zero => intro x2 hh hlp33; exact (lpn_0 hlp33).elim
      | succ k ih33 =>
        intro x2 hh hlp33
        obtain ⟨y33, hf, hlp33⟩ := lpn_s hlp33
        unfold f_X6_digestRope_L60 at hf
        try dsimp only at hf
        have hj116 : ∀ (hh : PH) (x2 : Int32), f_X6_digestRope_J116 hh (x0) (x1) (x2) = some y33 → G p l e ({ frames := 7, cells := 0, slots := 0, locals := 170 } : Room) s m args below meth c 4 g X h 0 0 (MQ below (QW g X h s.heap.size none r) args s 0 0 (AF X h s.heap.size)) 116 [(0, .ref (x0)), (1, .int (x1)), (2, .int (x2))] [] hh := by
          intro hh x2 hf
          unfold f_X6_digestRope_J116 at hf
          refine G.iinc (k := 2) (v := (x2 + 1)) (lv' := [(2, .int ((x2 + 1))), (0, .ref (x0)), (1, .int (x1))]) C dX6_digestRope_116 rfl rfl (by decide) rfl ?_
          refine G.goto (tgt := 60) C dX6_digestRope_119 (by decide) ?_
          cases hf
          refine G.sub C [1, 2, 0] (lv' := [(0, .ref (x0)), (1, .int (x1)), (2, .int ((x2 + 1)))]) rfl ?_
          exact ih33 _ _ hlp33
        have hj91 : ∀ (hh : PH) (x2 : Int32), f_X6_digestRope_J91 hh (x0) (x1) (x2) = some y33 → G p l e ({ frames := 7, cells := 0, slots := 0, locals := 170 } : Room) s m args below meth c 4 g X h 0 0 (MQ below (QW g X h s.heap.size none r) args s 0 0 (AF X h s.heap.size)) 91 [(0, .ref (x0)), (1, .int (x1)), (2, .int (x2))] [] hh := by
          intro hh x2 hf
          unfold f_X6_digestRope_J91 at hf
          refine G.iconst (v := 0) C dX6_digestRope_91 (by decide) ?_
          refine G.istore_n (lv' := [(3, .int ((0 : Int32))), (0, .ref (x0)), (1, .int (x1)), (2, .int (x2))]) C dX6_digestRope_92 rfl (by decide) rfl ?_
          obtain ⟨z34, hlp34, hfo34⟩ := bind_some hf
          clear hf
          have hloop34 : ∀ (k : Nat), ∀ (x3 : Int32) (hh : PH), (lpn (f_X6_digestRope_L93 (x0) (x1) (x2)) k (x3, hh)) = some z34 → G p l e ({ frames := 7, cells := 0, slots := 0, locals := 170 } : Room) s m args below meth c 4 g X h 0 0 (MQ below (QW g X h s.heap.size none r) args s 0 0 (AF X h s.heap.size)) 93 [(0, .ref (x0)), (1, .int (x1)), (2, .int (x2)), (3, .int (x3))] [] hh := by
            intro k
            induction k with
            | zero => intro x3 hh hlp34; exact (lpn_0 hlp34).elim
            | succ k ih34 =>
              intro x3 hh hlp34
              obtain ⟨y34, hf, hlp34⟩ := lpn_s hlp34
              unfold f_X6_digestRope_L93 at hf
              try dsimp only at hf
              refine G.iload_n C 3 dX6_digestRope_93 rfl rfl ?_
              refine G.iconst (v := 3) C dX6_digestRope_94 (by decide) ?_
              refine G.icmp_ge (tgt := 116) C dX6_digestRope_95 (by decide) hf (fun c37 hf => ?_) (fun c37 hf => ?_)
              · cases hf
                change some _ = some _ at hlp34
                have hf := hfo34
                try rw [← Option.some.inj hlp34] at hf
                try dsimp only at hf
                refine G.sub C [0, 1, 2] (lv' := [(0, .ref (x0)), (1, .int (x1)), (2, .int (x2))]) rfl ?_
                exact hj116 _ _ hf
              · refine G.aload_n C 0 dX6_digestRope_98 rfl rfl ?_
                refine G.aload_n C 0 dX6_digestRope_99 rfl rfl ?_
                refine G.iload_n C 1 dX6_digestRope_100 rfl rfl ?_
                refine G.iload_n C 2 dX6_digestRope_101 rfl rfl ?_
                refine G.iload_n C 3 dX6_digestRope_102 rfl rfl ?_
                obtain ⟨v35, hv35, hf⟩ := bind_some hf
                try dsimp only at hf
                refine G.callV C (st := [.ref (x0)]) (st2 := [.int (v35), .ref (x0)]) (ct_X6_toldOfPhases hv35) (ko_X6_toldOfPhases hv35) rfl m9_915 m9_916 m9_917 m9_5 m9_918 kd_X6_toldOfPhases ⟨Nat.le_of_ble_eq_true rfl, Nat.le_of_ble_eq_true rfl⟩ ⟨Nat.zero_le _, Nat.zero_le _⟩ (Nat.le_of_ble_eq_true rfl) rfl rfl dX6_digestRope_103 ?_
                refine G.i2l C dX6_digestRope_106 ?_
                obtain ⟨h36, hh36, hf⟩ := bind_some hf
                try dsimp only at hf
                refine G.callV C (st := []) (st2 := []) (ct_X6_digestOne hh36) (ko_X6_digestOne hh36) rfl m9_1008 m9_1009 m9_1010 m9_5 m9_1011 kd_X6_digestOne ⟨Nat.le_of_ble_eq_true rfl, Nat.le_of_ble_eq_true rfl⟩ ⟨Nat.zero_le _, Nat.zero_le _⟩ (Nat.le_of_ble_eq_true rfl) rfl rfl dX6_digestRope_107 ?_
                refine G.iinc (k := 3) (v := (x3 + 1)) (lv' := [(3, .int ((x3 + 1))), (0, .ref (x0)), (1, .int (x1)), (2, .int (x2))]) C dX6_digestRope_110 rfl rfl (by decide) rfl ?_
                refine G.goto (tgt := 93) C dX6_digestRope_113 (by decide) ?_
                cases hf
                refine G.sub C [1, 2, 3, 0] (lv' := [(0, .ref (x0)), (1, .int (x1)), (2, .int (x2)), (3, .int ((x3 + 1)))]) rfl ?_
                exact ih34 _ _ hlp34
          refine G.sub C [1, 2, 3, 0] (lv' := [(0, .ref (x0)), (1, .int (x1)), (2, .int (x2)), (3, .int ((0 : Int32)))]) rfl ?_
          exact hloop34 LF _ _ hlp34
        refine G.iload_n C 2 dX6_digestRope_60 rfl rfl ?_
        refine G.bipush (v := 8) C dX6_digestRope_61 (by decide) ?_
        refine G.icmp_ge (tgt := 122) C dX6_digestRope_63 (by decide) hf (fun c42 hf => ?_) (fun c42 hf => ?_)
        · cases hf
          change some _ = some _ at hlp33
          have hf := hfo33
          try rw [← Option.some.inj hlp33] at hf
          try dsimp only at hf
          refine G.sub C [0, 1] (lv' := [(0, .ref (x0)), (1, .int (x1))]) rfl ?_
          exact hj122 _ _ _ hf
        · refine G.iconst (v := 0) C dX6_digestRope_66 (by decide) ?_
          refine G.istore_n (lv' := [(3, .int ((0 : Int32))), (0, .ref (x0)), (1, .int (x1)), (2, .int (x2))]) C dX6_digestRope_67 rfl (by decide) rfl ?_
          obtain ⟨z38, hlp38, hfo38⟩ := bind_some hf
          clear hf
          have hloop38 : ∀ (k : Nat), ∀ (x3 : Int32) (hh : PH), (lpn (f_X6_digestRope_L68 (x0) (x1) (x2)) k (x3, hh)) = some z38 → G p l e ({ frames := 7, cells := 0, slots := 0, locals := 170 } : Room) s m args below meth c 4 g X h 0 0 (MQ below (QW g X h s.heap.size none r) args s 0 0 (AF X h s.heap.size)) 68 [(0, .ref (x0)), (1, .int (x1)), (2, .int (x2)), (3, .int (x3))] [] hh := by
            intro k
            induction k with
            | zero => intro x3 hh hlp38; exact (lpn_0 hlp38).elim
            | succ k ih38 =>
              intro x3 hh hlp38
              obtain ⟨y38, hf, hlp38⟩ := lpn_s hlp38
              unfold f_X6_digestRope_L68 at hf
              try dsimp only at hf
              refine G.iload_n C 3 dX6_digestRope_68 rfl rfl ?_
              refine G.iconst (v := 4) C dX6_digestRope_69 (by decide) ?_
              refine G.icmp_ge (tgt := 91) C dX6_digestRope_70 (by decide) hf (fun c41 hf => ?_) (fun c41 hf => ?_)
              · cases hf
                change some _ = some _ at hlp38
                have hf := hfo38
                try rw [← Option.some.inj hlp38] at hf
                try dsimp only at hf
                refine G.sub C [0, 1, 2] (lv' := [(0, .ref (x0)), (1, .int (x1)), (2, .int (x2))]) rfl ?_
                exact hj91 _ _ hf
              · refine G.aload_n C 0 dX6_digestRope_73 rfl rfl ?_
                refine G.aload_n C 0 dX6_digestRope_74 rfl rfl ?_
                refine G.iload_n C 1 dX6_digestRope_75 rfl rfl ?_
                refine G.iload_n C 2 dX6_digestRope_76 rfl rfl ?_
                refine G.iload_n C 3 dX6_digestRope_77 rfl rfl ?_
                obtain ⟨v39, hv39, hf⟩ := bind_some hf
                try dsimp only at hf
                refine G.callV C (st := [.ref (x0)]) (st2 := [.int (v39), .ref (x0)]) (ct_X6_toldOfHue hv39) (ko_X6_toldOfHue hv39) rfl m9_762 m9_763 m9_764 m9_5 m9_765 kd_X6_toldOfHue ⟨Nat.le_of_ble_eq_true rfl, Nat.le_of_ble_eq_true rfl⟩ ⟨Nat.zero_le _, Nat.zero_le _⟩ (Nat.le_of_ble_eq_true rfl) rfl rfl dX6_digestRope_78 ?_
                refine G.i2l C dX6_digestRope_81 ?_
                obtain ⟨h40, hh40, hf⟩ := bind_some hf
                try dsimp only at hf
                refine G.callV C (st := []) (st2 := []) (ct_X6_digestOne hh40) (ko_X6_digestOne hh40) rfl m9_1008 m9_1009 m9_1010 m9_5 m9_1011 kd_X6_digestOne ⟨Nat.le_of_ble_eq_true rfl, Nat.le_of_ble_eq_true rfl⟩ ⟨Nat.zero_le _, Nat.zero_le _⟩ (Nat.le_of_ble_eq_true rfl) rfl rfl dX6_digestRope_82 ?_
                refine G.iinc (k := 3) (v := (x3 + 1)) (lv' := [(3, .int ((x3 + 1))), (0, .ref (x0)), (1, .int (x1)), (2, .int (x2))]) C dX6_digestRope_85 rfl rfl (by decide) rfl ?_
                refine G.goto (tgt := 68) C dX6_digestRope_88 (by decide) ?_
                cases hf
                refine G.sub C [1, 2, 3, 0] (lv' := [(0, .ref (x0)), (1, .int (x1)), (2, .int (x2)), (3, .int ((x3 + 1)))]) rfl ?_
                exact ih38 _ _ hlp38
          refine G.sub C [1, 2, 3, 0] (lv' := [(0, .ref (x0)), (1, .int (x1)), (2, .int (x2)), (3, .int ((0 : Int32)))]) rfl ?_
          exact hloop38 LF _ _ hlp38
    refine G.sub C [1, 2, 0] (lv' := [(0, .ref (x0)), (1, .int (x1)), (2, .int ((0 : Int32)))]) rfl ?_
    exact hloop33 LF _ _ hlp33
  have hj25 : ∀ (hh : PH) (x0 : Nat) (x1 : Int32), f_X6_digestRope_J25 hh (x0) (x1) = some r → G p l e ({ frames := 7, cells := 0, slots := 0, locals := 170 } : Room) s m args below meth c 4 g X h 0 0 (MQ below (QW g X h s.heap.size none r) args s 0 0 (AF X h s.heap.size)) 25 [(0, .ref (x0)), (1, .int (x1))] [] hh := by
    intro hh x0 x1 hf
    unfold f_X6_digestRope_J25 at hf
    refine G.iconst (v := 0) C dX6_digestRope_25 (by decide) ?_
    refine G.istore_n (lv' := [(2, .int ((0 : Int32))), (0, .ref (x0)), (1, .int (x1))]) C dX6_digestRope_26 rfl (by decide) rfl ?_
    obtain ⟨z43, hlp43, hfo43⟩ := bind_some hf
    clear hf
    have hloop43 : ∀ (k : Nat), ∀ (x2 : Int32) (hh : PH), (lpn (f_X6_digestRope_L27 (x0) (x1)) k (x2, hh)) = some z43 → G p l e ({ frames := 7, cells := 0, slots := 0, locals := 170 } : Room) s m args below meth c 4 g X h 0 0 (MQ below (QW g X h s.heap.size none r) args s 0 0 (AF X h s.heap.size)) 27 [(0, .ref (x0)), (1, .int (x1)), (2, .int (x2))] [] hh := by
      intro k
      induction k with
      | zero => intro x2 hh hlp43; exact (lpn_0 hlp43).elim
      | succ k ih43 =>
        intro x2 hh hlp43
        obtain ⟨y43, hf, hlp43⟩ := lpn_s hlp43
        unfold f_X6_digestRope_L27 at hf
        try dsimp only at hf
        refine G.iload_n C 2 dX6_digestRope_27 rfl rfl ?_
        refine G.aload_n C 0 dX6_digestRope_28 rfl rfl ?_
        refine G.getR (ci := 5) (k := 1) C rfl inlX6 (by decide) m9_70 rfl hf dX6_digestRope_29 (fun v44 hv44 hf => ?_)
        try dsimp only at hf
        refine G.iload_n C 1 dX6_digestRope_32 rfl rfl ?_
        refine G.iconst (v := 0) C dX6_digestRope_33 (by decide) ?_
        obtain ⟨v45, hv45, hf⟩ := bind_some hf
        try dsimp only at hf
        refine G.callS C (st := [.ref (v44), .int (x2)]) (st2 := [.int (v45), .ref (v44), .int (x2)]) (ct_X6_of hv45) m9_159 m9_160 m9_5 m9_161 kd_X6_of ⟨Nat.le_of_ble_eq_true rfl, Nat.le_of_ble_eq_true rfl⟩ ⟨Nat.zero_le _, Nat.zero_le _⟩ (Nat.le_of_ble_eq_true rfl) rfl rfl dX6_digestRope_34 ?_
        refine G.iald C hf dX6_digestRope_37 (fun v46 hv46 hf => ?_)
        try dsimp only at hf
        refine G.icmp_ge (tgt := 58) C dX6_digestRope_38 (by decide) hf (fun c49 hf => ?_) (fun c49 hf => ?_)
        · cases hf
          change some _ = some _ at hlp43
          have hf := hfo43
          try rw [← Option.some.inj hlp43] at hf
          try dsimp only at hf
          refine G.sub C [0, 1] (lv' := [(0, .ref (x0)), (1, .int (x1))]) rfl ?_
          exact hj58 _ _ _ hf
        · refine G.aload_n C 0 dX6_digestRope_41 rfl rfl ?_
          refine G.aload_n C 0 dX6_digestRope_42 rfl rfl ?_
          refine G.iload_n C 1 dX6_digestRope_43 rfl rfl ?_
          refine G.iload_n C 2 dX6_digestRope_44 rfl rfl ?_
          obtain ⟨v47, hv47, hf⟩ := bind_some hf
          try dsimp only at hf
          refine G.callV C (st := [.ref (x0)]) (st2 := [.int (v47), .ref (x0)]) (ct_X6_hueAt hv47) (ko_X6_hueAt hv47) rfl m9_299 m9_300 m9_301 m9_5 m9_302 kd_X6_hueAt ⟨Nat.le_of_ble_eq_true rfl, Nat.le_of_ble_eq_true rfl⟩ ⟨Nat.zero_le _, Nat.zero_le _⟩ (Nat.le_of_ble_eq_true rfl) rfl rfl dX6_digestRope_45 ?_
          refine G.i2l C dX6_digestRope_48 ?_
          obtain ⟨h48, hh48, hf⟩ := bind_some hf
          try dsimp only at hf
          refine G.callV C (st := []) (st2 := []) (ct_X6_digestOne hh48) (ko_X6_digestOne hh48) rfl m9_1008 m9_1009 m9_1010 m9_5 m9_1011 kd_X6_digestOne ⟨Nat.le_of_ble_eq_true rfl, Nat.le_of_ble_eq_true rfl⟩ ⟨Nat.zero_le _, Nat.zero_le _⟩ (Nat.le_of_ble_eq_true rfl) rfl rfl dX6_digestRope_49 ?_
          refine G.iinc (k := 2) (v := (x2 + 1)) (lv' := [(2, .int ((x2 + 1))), (0, .ref (x0)), (1, .int (x1))]) C dX6_digestRope_52 rfl rfl (by decide) rfl ?_
          refine G.goto (tgt := 27) C dX6_digestRope_55 (by decide) ?_
          cases hf
          refine G.sub C [1, 2, 0] (lv' := [(0, .ref (x0)), (1, .int (x1)), (2, .int ((x2 + 1)))]) rfl ?_
          exact ih43 _ _ hlp43
    refine G.sub C [1, 2, 0] (lv' := [(0, .ref (x0)), (1, .int (x1)), (2, .int ((0 : Int32)))]) rfl ?_
    exact hloop43 LF _ _ hlp43
  refine G.sub C [0, 1] (lv' := [(0, .ref (a0)), (1, .int (a1))]) rfl ?_
  refine G.iconst (v := 0) C dX6_digestRope_0 (by decide) ?_
  refine G.istore_n (lv' := [(2, .int ((0 : Int32))), (0, .ref (a0)), (1, .int (a1))]) C dX6_digestRope_1 rfl (by decide) rfl ?_
  obtain ⟨z1, hlp1, hfo1⟩ := bind_some hf
  clear hf
  have hloop1 : ∀ (k : Nat), ∀ (x2 : Int32) (hh : PH), (lpn (f_X6_digestRope_L2 (a0) (a1)) k (x2, hh)) = some z1 → G p l e ({ frames := 7, cells := 0, slots := 0, locals := 170 } : Room) s m args below meth c 4 g X h 0 0 (MQ below (QW g X h s.heap.size none r) args s 0 0 (AF X h s.heap.size)) 2 [(0, .ref (a0)), (1, .int (a1)), (2, .int (x2))] [] hh := by
    intro k
    induction k with
    | zero => intro x2 hh hlp1; exact (lpn_0 hlp1).elim
    | succ k ih1 =>
      intro x2 hh hlp1
      obtain ⟨y1, hf, hlp1⟩ := lpn_s hlp1
      unfold f_X6_digestRope_L2 at hf
      try dsimp only at hf
      refine G.iload_n C 2 dX6_digestRope_2 rfl rfl ?_
      refine G.bipush (v := 6) C dX6_digestRope_3 (by decide) ?_
      refine G.icmp_ge (tgt := 25) C dX6_digestRope_5 (by decide) hf (fun c4 hf => ?_) (fun c4 hf => ?_)
      · cases hf
        change some _ = some _ at hlp1
        have hf := hfo1
        try rw [← Option.some.inj hlp1] at hf
        try dsimp only at hf
        refine G.sub C [0, 1] (lv' := [(0, .ref (a0)), (1, .int (a1))]) rfl ?_
        exact hj25 _ _ _ hf
      · refine G.aload_n C 0 dX6_digestRope_8 rfl rfl ?_
        refine G.aload_n C 0 dX6_digestRope_9 rfl rfl ?_
        refine G.iload_n C 1 dX6_digestRope_10 rfl rfl ?_
        refine G.iload_n C 2 dX6_digestRope_11 rfl rfl ?_
        obtain ⟨v2, hv2, hf⟩ := bind_some hf
        try dsimp only at hf
        refine G.callV C (st := [.ref (a0)]) (st2 := [.int (v2), .ref (a0)]) (ct_X6_toldOfRope hv2) (ko_X6_toldOfRope hv2) rfl m9_722 m9_723 m9_724 m9_5 m9_725 kd_X6_toldOfRope ⟨Nat.le_of_ble_eq_true rfl, Nat.le_of_ble_eq_true rfl⟩ ⟨Nat.zero_le _, Nat.zero_le _⟩ (Nat.le_of_ble_eq_true rfl) rfl rfl dX6_digestRope_12 ?_
        refine G.i2l C dX6_digestRope_15 ?_
        obtain ⟨h3, hh3, hf⟩ := bind_some hf
        try dsimp only at hf
        refine G.callV C (st := []) (st2 := []) (ct_X6_digestOne hh3) (ko_X6_digestOne hh3) rfl m9_1008 m9_1009 m9_1010 m9_5 m9_1011 kd_X6_digestOne ⟨Nat.le_of_ble_eq_true rfl, Nat.le_of_ble_eq_true rfl⟩ ⟨Nat.zero_le _, Nat.zero_le _⟩ (Nat.le_of_ble_eq_true rfl) rfl rfl dX6_digestRope_16 ?_
        refine G.iinc (k := 2) (v := (x2 + 1)) (lv' := [(2, .int ((x2 + 1))), (0, .ref (a0)), (1, .int (a1))]) C dX6_digestRope_19 rfl rfl (by decide) rfl ?_
        refine G.goto (tgt := 2) C dX6_digestRope_22 (by decide) ?_
        cases hf
        refine G.sub C [1, 2, 0] (lv' := [(0, .ref (a0)), (1, .int (a1)), (2, .int ((x2 + 1)))]) rfl ?_
        exact ih1 _ _ hlp1
  refine G.sub C [1, 2, 0] (lv' := [(0, .ref (a0)), (1, .int (a1)), (2, .int ((0 : Int32)))]) rfl ?_
  exact hloop1 LF _ _ hlp1
theorem ko_X6_digest {h : PH} {a0 : Nat} {r : (Int64 × PH)} (hf : f_X6_digest h a0 = some r) : kO h a0 5 := by
  unfold f_X6_digest at hf
  exact okO_k (gd_ok hf).1
theorem kd_X6_digest : yX6_digest.cls = RX6 ∧ yX6_digest.cls ≠ "java/lang/invoke/MethodHandle" ∧ yX6_digest.cls ≠ "java/lang/invoke/VarHandle" ∧ (parseMethodDescriptor yX6_digest.desc).map (fun d => d.parameters.length) = some 0 := by decide +kernel
set_option maxRecDepth 20000 in
set_option maxHeartbeats 4000000 in
theorem ct_X6_digest {l : Launch} {h : PH} {a0 : Nat} {r : (Int64 × PH)} (hf : f_X6_digest h a0 = some r) : CT l yX6_digest cX6_digest 2 (some .long) 8 193 [.ref (a0)] h (some (.long r.1)) r.2 := by
  refine CT.of (own := RX6) rfl (by decide) (Nat.le_of_ble_eq_true rfl) ?_
  intro p e R s m args below meth c g X hR C
  subst hR
  unfold f_X6_digest at hf
  obtain ⟨hok, hf⟩ := gd_ok hf
  have hj161 : ∀ (hh : PH) (x0 : Nat), f_X6_digest_J161 hh (x0) = some r → G p l e ({ frames := 8, cells := 0, slots := 0, locals := 193 } : Room) s m args below meth c 2 g X h 0 0 (MQ below (QW g X h s.heap.size (some (.long r.1)) r.2) args s 0 0 (AF X h s.heap.size)) 161 [(0, .ref (x0))] [] hh := by
    intro hh x0 hf
    unfold f_X6_digest_J161 at hf
    refine G.aload_n C 0 dX6_digest_161 rfl rfl ?_
    refine G.getJ (ci := 5) (k := 15) C rfl inlX6 (by decide) m9_1007 rfl hf dX6_digest_162 (fun v28 hv28 hf => ?_)
    try dsimp only at hf
    cases hf
    exact G.lret C rfl dX6_digest_165
  have hj114 : ∀ (hh : PH) (x0 : Nat), f_X6_digest_J114 hh (x0) = some r → G p l e ({ frames := 8, cells := 0, slots := 0, locals := 193 } : Room) s m args below meth c 2 g X h 0 0 (MQ below (QW g X h s.heap.size (some (.long r.1)) r.2) args s 0 0 (AF X h s.heap.size)) 114 [(0, .ref (x0))] [] hh := by
    intro hh x0 hf
    unfold f_X6_digest_J114 at hf
    refine G.aload_n C 0 dX6_digest_114 rfl rfl ?_
    refine G.aload_n C 0 dX6_digest_115 rfl rfl ?_
    obtain ⟨v29, hv29, hf⟩ := bind_some hf
    try dsimp only at hf
    refine G.callV C (st := [.ref (x0)]) (st2 := [.double (v29), .ref (x0)]) (ct_X6_share hv29) (ko_X6_share hv29) rfl m9_974 m9_975 m9_976 m9_5 m9_977 kd_X6_share ⟨Nat.le_of_ble_eq_true rfl, Nat.le_of_ble_eq_true rfl⟩ ⟨Nat.zero_le _, Nat.zero_le _⟩ (Nat.le_of_ble_eq_true rfl) rfl rfl dX6_digest_116 ?_
    obtain ⟨v30, hv30, hf⟩ := bind_some hf
    try dsimp only at hf
    refine G.callS C (st := [.ref (x0)]) (st2 := [.long (v30), .ref (x0)]) (ct_X6_bitsOf hv30) m9_1017 m9_1018 m9_5 m9_1019 kd_X6_bitsOf ⟨Nat.le_of_ble_eq_true rfl, Nat.le_of_ble_eq_true rfl⟩ ⟨Nat.zero_le _, Nat.zero_le _⟩ (Nat.le_of_ble_eq_true rfl) rfl rfl dX6_digest_119 ?_
    obtain ⟨h31, hh31, hf⟩ := bind_some hf
    try dsimp only at hf
    refine G.callV C (st := []) (st2 := []) (ct_X6_digestOne hh31) (ko_X6_digestOne hh31) rfl m9_1008 m9_1009 m9_1010 m9_5 m9_1011 kd_X6_digestOne ⟨Nat.le_of_ble_eq_true rfl, Nat.le_of_ble_eq_true rfl⟩ ⟨Nat.zero_le _, Nat.zero_le _⟩ (Nat.le_of_ble_eq_true rfl) rfl rfl dX6_digest_122 ?_
    refine G.aload_n C 0 dX6_digest_125 rfl rfl ?_
    refine G.aload_n C 0 dX6_digest_126 rfl rfl ?_
    refine G.getI (ci := 5) (k := 8) C rfl inlX6 (by decide) m9_525 rfl hf dX6_digest_127 (fun v32 hv32 hf => ?_)
    try dsimp only at hf
    refine G.i2l C dX6_digest_130 ?_
    obtain ⟨h33, hh33, hf⟩ := bind_some hf
    try dsimp only at hf
    refine G.callV C (st := []) (st2 := []) (ct_X6_digestOne hh33) (ko_X6_digestOne hh33) rfl m9_1008 m9_1009 m9_1010 m9_5 m9_1011 kd_X6_digestOne ⟨Nat.le_of_ble_eq_true rfl, Nat.le_of_ble_eq_true rfl⟩ ⟨Nat.zero_le _, Nat.zero_le _⟩ (Nat.le_of_ble_eq_true rfl) rfl rfl dX6_digest_131 ?_
    refine G.iconst (v := 0) C dX6_digest_134 (by decide) ?_
    refine G.istore_n (lv' := [(1, .int ((0 : Int32))), (0, .ref (x0))]) C dX6_digest_135 rfl (by decide) rfl ?_
    obtain ⟨z34, hlp34, hfo34⟩ := bind_some hf
    clear hf
    have hloop34 : ∀ (k : Nat), ∀ (x1 : Int32) (hh : PH), (lpn (f_X6_digest_L136 (x0)) k (x1, hh)) = some z34 → G p l e ({ frames := 8, cells := 0, slots := 0, locals := 193 } : Room) s m args below meth c 2 g X h 0 0 (MQ below (QW g X h s.heap.size (some (.long r.1)) r.2) args s 0 0 (AF X h s.heap.size)) 136 [(0, .ref (x0)), (1, .int (x1))] [] hh := by
      intro k
      induction k with
      | zero => intro x1 hh hlp34; exact (lpn_0 hlp34).elim
      | succ k ih34 =>
        intro x1 hh hlp34
        obtain ⟨y34, hf, hlp34⟩ := lpn_s hlp34
        unfold f_X6_digest_L136 at hf
        try dsimp only at hf
        refine G.iload_n C 1 dX6_digest_136 rfl rfl ?_
        refine G.aload_n C 0 dX6_digest_137 rfl rfl ?_
        refine G.getI (ci := 5) (k := 8) C rfl inlX6 (by decide) m9_525 rfl hf dX6_digest_138 (fun v35 hv35 hf => ?_)
        try dsimp only at hf
        refine G.icmp_ge (tgt := 161) C dX6_digest_141 (by decide) hf (fun c39 hf => ?_) (fun c39 hf => ?_)
        · cases hf
          change some _ = some _ at hlp34
          have hf := hfo34
          try rw [← Option.some.inj hlp34] at hf
          try dsimp only at hf
          refine G.sub C [0] (lv' := [(0, .ref (x0))]) rfl ?_
          exact hj161 _ _ hf
        · refine G.aload_n C 0 dX6_digest_144 rfl rfl ?_
          refine G.aload_n C 0 dX6_digest_145 rfl rfl ?_
          refine G.getR (ci := 5) (k := 7) C rfl inlX6 (by decide) m9_74 rfl hf dX6_digest_146 (fun v36 hv36 hf => ?_)
          try dsimp only at hf
          refine G.iload_n C 1 dX6_digest_149 rfl rfl ?_
          refine G.iald C hf dX6_digest_150 (fun v37 hv37 hf => ?_)
          try dsimp only at hf
          refine G.i2l C dX6_digest_151 ?_
          obtain ⟨h38, hh38, hf⟩ := bind_some hf
          try dsimp only at hf
          refine G.callV C (st := []) (st2 := []) (ct_X6_digestOne hh38) (ko_X6_digestOne hh38) rfl m9_1008 m9_1009 m9_1010 m9_5 m9_1011 kd_X6_digestOne ⟨Nat.le_of_ble_eq_true rfl, Nat.le_of_ble_eq_true rfl⟩ ⟨Nat.zero_le _, Nat.zero_le _⟩ (Nat.le_of_ble_eq_true rfl) rfl rfl dX6_digest_152 ?_
          refine G.iinc (k := 1) (v := (x1 + 1)) (lv' := [(1, .int ((x1 + 1))), (0, .ref (x0))]) C dX6_digest_155 rfl rfl (by decide) rfl ?_
          refine G.goto (tgt := 136) C dX6_digest_158 (by decide) ?_
          cases hf
          refine G.sub C [1, 0] (lv' := [(0, .ref (x0)), (1, .int ((x1 + 1)))]) rfl ?_
          exact ih34 _ _ hlp34
    refine G.sub C [1, 0] (lv' := [(0, .ref (x0)), (1, .int ((0 : Int32)))]) rfl ?_
    exact hloop34 LF _ _ hlp34
  have hj87 : ∀ (hh : PH) (x0 : Nat), f_X6_digest_J87 hh (x0) = some r → G p l e ({ frames := 8, cells := 0, slots := 0, locals := 193 } : Room) s m args below meth c 2 g X h 0 0 (MQ below (QW g X h s.heap.size (some (.long r.1)) r.2) args s 0 0 (AF X h s.heap.size)) 87 [(0, .ref (x0))] [] hh := by
    intro hh x0 hf
    unfold f_X6_digest_J87 at hf
    refine G.iconst (v := 0) C dX6_digest_87 (by decide) ?_
    refine G.istore_n (lv' := [(1, .int ((0 : Int32))), (0, .ref (x0))]) C dX6_digest_88 rfl (by decide) rfl ?_
    obtain ⟨z40, hlp40, hfo40⟩ := bind_some hf
    clear hf
    have hloop40 : ∀ (k : Nat), ∀ (x1 : Int32) (hh : PH), (lpn (f_X6_digest_L89 (x0)) k (x1, hh)) = some z40 → G p l e ({ frames := 8, cells := 0, slots := 0, locals := 193 } : Room) s m args below meth c 2 g X h 0 0 (MQ below (QW g X h s.heap.size (some (.long r.1)) r.2) args s 0 0 (AF X h s.heap.size)) 89 [(0, .ref (x0)), (1, .int (x1))] [] hh := by
      intro k
      induction k with
      | zero => intro x1 hh hlp40; exact (lpn_0 hlp40).elim
      | succ k ih40 =>
        intro x1 hh hlp40
        obtain ⟨y40, hf, hlp40⟩ := lpn_s hlp40
        unfold f_X6_digest_L89 at hf
        try dsimp only at hf
        refine G.iload_n C 1 dX6_digest_89 rfl rfl ?_
        refine G.bipush (v := 8) C dX6_digest_90 (by decide) ?_
        refine G.icmp_ge (tgt := 114) C dX6_digest_92 (by decide) hf (fun c43 hf => ?_) (fun c43 hf => ?_)
        · cases hf
          change some _ = some _ at hlp40
          have hf := hfo40
          try rw [← Option.some.inj hlp40] at hf
          try dsimp only at hf
          refine G.sub C [0] (lv' := [(0, .ref (x0))]) rfl ?_
          exact hj114 _ _ hf
        · refine G.aload_n C 0 dX6_digest_95 rfl rfl ?_
          refine G.aload_n C 0 dX6_digest_96 rfl rfl ?_
          refine G.iconst (v := 0) C dX6_digest_97 (by decide) ?_
          refine G.iconst (v := 1) C dX6_digest_98 (by decide) ?_
          refine G.iload_n C 1 dX6_digest_99 rfl rfl ?_
          refine G.iconst (v := 0) C dX6_digest_100 (by decide) ?_
          obtain ⟨v41, hv41, hf⟩ := bind_some hf
          try dsimp only at hf
          refine G.callV C (st := [.ref (x0)]) (st2 := [.int (v41), .ref (x0)]) (ct_X6_meet hv41) (ko_X6_meet hv41) rfl m9_865 m9_866 m9_867 m9_5 m9_868 kd_X6_meet ⟨Nat.le_of_ble_eq_true rfl, Nat.le_of_ble_eq_true rfl⟩ ⟨Nat.zero_le _, Nat.zero_le _⟩ (Nat.le_of_ble_eq_true rfl) rfl rfl dX6_digest_101 ?_
          refine G.i2l C dX6_digest_104 ?_
          obtain ⟨h42, hh42, hf⟩ := bind_some hf
          try dsimp only at hf
          refine G.callV C (st := []) (st2 := []) (ct_X6_digestOne hh42) (ko_X6_digestOne hh42) rfl m9_1008 m9_1009 m9_1010 m9_5 m9_1011 kd_X6_digestOne ⟨Nat.le_of_ble_eq_true rfl, Nat.le_of_ble_eq_true rfl⟩ ⟨Nat.zero_le _, Nat.zero_le _⟩ (Nat.le_of_ble_eq_true rfl) rfl rfl dX6_digest_105 ?_
          refine G.iinc (k := 1) (v := (x1 + 1)) (lv' := [(1, .int ((x1 + 1))), (0, .ref (x0))]) C dX6_digest_108 rfl rfl (by decide) rfl ?_
          refine G.goto (tgt := 89) C dX6_digest_111 (by decide) ?_
          cases hf
          refine G.sub C [1, 0] (lv' := [(0, .ref (x0)), (1, .int ((x1 + 1)))]) rfl ?_
          exact ih40 _ _ hlp40
    refine G.sub C [1, 0] (lv' := [(0, .ref (x0)), (1, .int ((0 : Int32)))]) rfl ?_
    exact hloop40 LF _ _ hlp40
  have hj63 : ∀ (hh : PH) (x0 : Nat), f_X6_digest_J63 hh (x0) = some r → G p l e ({ frames := 8, cells := 0, slots := 0, locals := 193 } : Room) s m args below meth c 2 g X h 0 0 (MQ below (QW g X h s.heap.size (some (.long r.1)) r.2) args s 0 0 (AF X h s.heap.size)) 63 [(0, .ref (x0))] [] hh := by
    intro hh x0 hf
    unfold f_X6_digest_J63 at hf
    refine G.iconst (v := 0) C dX6_digest_63 (by decide) ?_
    refine G.istore_n (lv' := [(1, .int ((0 : Int32))), (0, .ref (x0))]) C dX6_digest_64 rfl (by decide) rfl ?_
    obtain ⟨z44, hlp44, hfo44⟩ := bind_some hf
    clear hf
    have hloop44 : ∀ (k : Nat), ∀ (x1 : Int32) (hh : PH), (lpn (f_X6_digest_L65 (x0)) k (x1, hh)) = some z44 → G p l e ({ frames := 8, cells := 0, slots := 0, locals := 193 } : Room) s m args below meth c 2 g X h 0 0 (MQ below (QW g X h s.heap.size (some (.long r.1)) r.2) args s 0 0 (AF X h s.heap.size)) 65 [(0, .ref (x0)), (1, .int (x1))] [] hh := by
      intro k
      induction k with
      | zero => intro x1 hh hlp44; exact (lpn_0 hlp44).elim
      | succ k ih44 =>
        intro x1 hh hlp44
        obtain ⟨y44, hf, hlp44⟩ := lpn_s hlp44
        unfold f_X6_digest_L65 at hf
        try dsimp only at hf
        refine G.iload_n C 1 dX6_digest_65 rfl rfl ?_
        refine G.aload_n C 0 dX6_digest_66 rfl rfl ?_
        refine G.getR (ci := 5) (k := 1) C rfl inlX6 (by decide) m9_70 rfl hf dX6_digest_67 (fun v45 hv45 hf => ?_)
        try dsimp only at hf
        refine G.bipush (v := 8) C dX6_digest_70 (by decide) ?_
        refine G.iald C hf dX6_digest_72 (fun v46 hv46 hf => ?_)
        try dsimp only at hf
        refine G.icmp_ge (tgt := 87) C dX6_digest_73 (by decide) hf (fun c48 hf => ?_) (fun c48 hf => ?_)
        · cases hf
          change some _ = some _ at hlp44
          have hf := hfo44
          try rw [← Option.some.inj hlp44] at hf
          try dsimp only at hf
          refine G.sub C [0] (lv' := [(0, .ref (x0))]) rfl ?_
          exact hj87 _ _ hf
        · refine G.aload_n C 0 dX6_digest_76 rfl rfl ?_
          refine G.iload_n C 1 dX6_digest_77 rfl rfl ?_
          obtain ⟨h47, hh47, hf⟩ := bind_some hf
          try dsimp only at hf
          refine G.callV C (st := []) (st2 := []) (ct_X6_digestRope hh47) (ko_X6_digestRope hh47) rfl m9_1013 m9_1014 m9_1015 m9_5 m9_1016 kd_X6_digestRope ⟨Nat.le_of_ble_eq_true rfl, Nat.le_of_ble_eq_true rfl⟩ ⟨Nat.zero_le _, Nat.zero_le _⟩ (Nat.le_of_ble_eq_true rfl) rfl rfl dX6_digest_78 ?_
          refine G.iinc (k := 1) (v := (x1 + 1)) (lv' := [(1, .int ((x1 + 1))), (0, .ref (x0))]) C dX6_digest_81 rfl rfl (by decide) rfl ?_
          refine G.goto (tgt := 65) C dX6_digest_84 (by decide) ?_
          cases hf
          refine G.sub C [1, 0] (lv' := [(0, .ref (x0)), (1, .int ((x1 + 1)))]) rfl ?_
          exact ih44 _ _ hlp44
    refine G.sub C [1, 0] (lv' := [(0, .ref (x0)), (1, .int ((0 : Int32)))]) rfl ?_
    exact hloop44 LF _ _ hlp44
  have hj36 : ∀ (hh : PH) (x0 : Nat), f_X6_digest_J36 hh (x0) = some r → G p l e ({ frames := 8, cells := 0, slots := 0, locals := 193 } : Room) s m args below meth c 2 g X h 0 0 (MQ below (QW g X h s.heap.size (some (.long r.1)) r.2) args s 0 0 (AF X h s.heap.size)) 36 [(0, .ref (x0))] [] hh := by
    intro hh x0 hf
    unfold f_X6_digest_J36 at hf
    refine G.iconst (v := 0) C dX6_digest_36 (by decide) ?_
    refine G.istore_n (lv' := [(1, .int ((0 : Int32))), (0, .ref (x0))]) C dX6_digest_37 rfl (by decide) rfl ?_
    obtain ⟨z49, hlp49, hfo49⟩ := bind_some hf
    clear hf
    have hloop49 : ∀ (k : Nat), ∀ (x1 : Int32) (hh : PH), (lpn (f_X6_digest_L38 (x0)) k (x1, hh)) = some z49 → G p l e ({ frames := 8, cells := 0, slots := 0, locals := 193 } : Room) s m args below meth c 2 g X h 0 0 (MQ below (QW g X h s.heap.size (some (.long r.1)) r.2) args s 0 0 (AF X h s.heap.size)) 38 [(0, .ref (x0)), (1, .int (x1))] [] hh := by
      intro k
      induction k with
      | zero => intro x1 hh hlp49; exact (lpn_0 hlp49).elim
      | succ k ih49 =>
        intro x1 hh hlp49
        obtain ⟨y49, hf, hlp49⟩ := lpn_s hlp49
        unfold f_X6_digest_L38 at hf
        try dsimp only at hf
        refine G.iload_n C 1 dX6_digest_38 rfl rfl ?_
        refine G.bipush (v := 8) C dX6_digest_39 (by decide) ?_
        refine G.icmp_ge (tgt := 63) C dX6_digest_41 (by decide) hf (fun c53 hf => ?_) (fun c53 hf => ?_)
        · cases hf
          change some _ = some _ at hlp49
          have hf := hfo49
          try rw [← Option.some.inj hlp49] at hf
          try dsimp only at hf
          refine G.sub C [0] (lv' := [(0, .ref (x0))]) rfl ?_
          exact hj63 _ _ hf
        · refine G.aload_n C 0 dX6_digest_44 rfl rfl ?_
          refine G.aload_n C 0 dX6_digest_45 rfl rfl ?_
          refine G.getR (ci := 5) (k := 1) C rfl inlX6 (by decide) m9_70 rfl hf dX6_digest_46 (fun v50 hv50 hf => ?_)
          try dsimp only at hf
          refine G.iconst (v := 0) C dX6_digest_49 (by decide) ?_
          refine G.iload_n C 1 dX6_digest_50 rfl rfl ?_
          refine G.iadd C dX6_digest_51 ?_
          refine G.iald C hf dX6_digest_52 (fun v51 hv51 hf => ?_)
          try dsimp only at hf
          refine G.i2l C dX6_digest_53 ?_
          obtain ⟨h52, hh52, hf⟩ := bind_some hf
          try dsimp only at hf
          refine G.callV C (st := []) (st2 := []) (ct_X6_digestOne hh52) (ko_X6_digestOne hh52) rfl m9_1008 m9_1009 m9_1010 m9_5 m9_1011 kd_X6_digestOne ⟨Nat.le_of_ble_eq_true rfl, Nat.le_of_ble_eq_true rfl⟩ ⟨Nat.zero_le _, Nat.zero_le _⟩ (Nat.le_of_ble_eq_true rfl) rfl rfl dX6_digest_54 ?_
          refine G.iinc (k := 1) (v := (x1 + 1)) (lv' := [(1, .int ((x1 + 1))), (0, .ref (x0))]) C dX6_digest_57 rfl rfl (by decide) rfl ?_
          refine G.goto (tgt := 38) C dX6_digest_60 (by decide) ?_
          cases hf
          refine G.sub C [1, 0] (lv' := [(0, .ref (x0)), (1, .int ((x1 + 1)))]) rfl ?_
          exact ih49 _ _ hlp49
    refine G.sub C [1, 0] (lv' := [(0, .ref (x0)), (1, .int ((0 : Int32)))]) rfl ?_
    exact hloop49 LF _ _ hlp49
  refine G.sub C [0] (lv' := [(0, .ref (a0))]) rfl ?_
  refine G.aload_n C 0 dX6_digest_0 rfl rfl ?_
  refine G.iconst (v := 0) C dX6_digest_1 (by decide) ?_
  refine G.put (ci := 5) (k := 0) C rfl inlX6 (by decide) m9_166 rfl tyX6 tyX6_ok nmX6 rfl rfl rfl hf dX6_digest_2 (fun h1 hh1 hf => ?_)
  try dsimp only at hf
  refine G.aload_n C 0 dX6_digest_5 rfl rfl ?_
  refine G.ldc2 (v := 3643) C m9_1006 dX6_digest_6 ?_
  refine G.put (ci := 5) (k := 15) C rfl inlX6 (by decide) m9_1007 rfl tyX6 tyX6_ok nmX6 rfl rfl rfl hf dX6_digest_9 (fun h2 hh2 hf => ?_)
  try dsimp only at hf
  refine G.iconst (v := 0) C dX6_digest_12 (by decide) ?_
  refine G.istore_n (lv' := [(1, .int ((0 : Int32))), (0, .ref (a0))]) C dX6_digest_13 rfl (by decide) rfl ?_
  obtain ⟨z3, hlp3, hfo3⟩ := bind_some hf
  clear hf
  have hloop3 : ∀ (k : Nat), ∀ (x1 : Int32) (hh : PH), (lpn (f_X6_digest_L14 (a0)) k (x1, hh)) = some z3 → G p l e ({ frames := 8, cells := 0, slots := 0, locals := 193 } : Room) s m args below meth c 2 g X h 0 0 (MQ below (QW g X h s.heap.size (some (.long r.1)) r.2) args s 0 0 (AF X h s.heap.size)) 14 [(0, .ref (a0)), (1, .int (x1))] [] hh := by
    intro k
    induction k with
    | zero => intro x1 hh hlp3; exact (lpn_0 hlp3).elim
    | succ k ih3 =>
      intro x1 hh hlp3
      obtain ⟨y3, hf, hlp3⟩ := lpn_s hlp3
      unfold f_X6_digest_L14 at hf
      try dsimp only at hf
      refine G.iload_n C 1 dX6_digest_14 rfl rfl ?_
      refine G.bipush (v := 8) C dX6_digest_15 (by decide) ?_
      refine G.icmp_ge (tgt := 36) C dX6_digest_17 (by decide) hf (fun c6 hf => ?_) (fun c6 hf => ?_)
      · cases hf
        change some _ = some _ at hlp3
        have hf := hfo3
        try rw [← Option.some.inj hlp3] at hf
        try dsimp only at hf
        refine G.sub C [0] (lv' := [(0, .ref (a0))]) rfl ?_
        exact hj36 _ _ hf
      · refine G.aload_n C 0 dX6_digest_20 rfl rfl ?_
        refine G.aload_n C 0 dX6_digest_21 rfl rfl ?_
        refine G.iload_n C 1 dX6_digest_22 rfl rfl ?_
        obtain ⟨v4, hv4, hf⟩ := bind_some hf
        try dsimp only at hf
        refine G.callV C (st := [.ref (a0)]) (st2 := [.int (v4), .ref (a0)]) (ct_X6_counted hv4) (ko_X6_counted hv4) rfl m9_823 m9_824 m9_825 m9_5 m9_826 kd_X6_counted ⟨Nat.le_of_ble_eq_true rfl, Nat.le_of_ble_eq_true rfl⟩ ⟨Nat.zero_le _, Nat.zero_le _⟩ (Nat.le_of_ble_eq_true rfl) rfl rfl dX6_digest_23 ?_
        refine G.i2l C dX6_digest_26 ?_
        obtain ⟨h5, hh5, hf⟩ := bind_some hf
        try dsimp only at hf
        refine G.callV C (st := []) (st2 := []) (ct_X6_digestOne hh5) (ko_X6_digestOne hh5) rfl m9_1008 m9_1009 m9_1010 m9_5 m9_1011 kd_X6_digestOne ⟨Nat.le_of_ble_eq_true rfl, Nat.le_of_ble_eq_true rfl⟩ ⟨Nat.zero_le _, Nat.zero_le _⟩ (Nat.le_of_ble_eq_true rfl) rfl rfl dX6_digest_27 ?_
        refine G.iinc (k := 1) (v := (x1 + 1)) (lv' := [(1, .int ((x1 + 1))), (0, .ref (a0))]) C dX6_digest_30 rfl rfl (by decide) rfl ?_
        refine G.goto (tgt := 14) C dX6_digest_33 (by decide) ?_
        cases hf
        refine G.sub C [1, 0] (lv' := [(0, .ref (a0)), (1, .int ((x1 + 1)))]) rfl ?_
        exact ih3 _ _ hlp3
  refine G.sub C [1, 0] (lv' := [(0, .ref (a0)), (1, .int ((0 : Int32)))]) rfl ?_
  exact hloop3 LF _ _ hlp3
