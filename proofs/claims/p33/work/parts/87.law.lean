set_option maxRecDepth 20000 in
set_option maxHeartbeats 8000000 in
theorem law_walk9 {p : Program} {l : Launch} {e : Env} {s : State} {m : MethodId} {args : Array Value} {below : List Frame} {meth : Method} {c : Code} {g : GC} {b9 a1 lL : Nat} {xs : Nat → Int32} {h1 : PH} {Q : State → Prop} (C : Cx p s m args meth c cL_law 8 RL ret g) (hX : va_X b9 lL xs s s.heap) (hbl : b9 < s.heap.size) (hbo : ¬ AF [] (fun _ => none) s.heap.size b9) (TT : TX l (AF [] (fun _ => none) s.heap.size) s s.heap)
    (hend : ∀ (hh : PH) (cells slots : Nat) (lv : List (Nat × Value)), cells ≤ 1000 → slots ≤ 10000 → G p l e room_1 s m args below meth c 8 g [] (fun _ => none) cells slots Q 209 lv [.int 1] hh)
    (hf : f_L_law xs lL h1 a1 = some 1) : G p l e room_1 s m args below meth c 8 g [] (fun _ => none) 128 2596 Q 8 [(0, .ref (b9)), (1, .ref (a1))] [] h1 := by
  unfold f_L_law at hf
  have hj208 : ∀ (cells slots : Nat), cells ≤ 1000 → slots ≤ 10000 → ∀ (hh : PH) (x2 : Int32), f_L_law_J208 xs lL hh (x2) = some (1 : Int32) → G p l e room_1 s m args below meth c 8 g [] (fun _ => none) cells slots Q 208 [(0, .ref (b9)), (2, .int (x2))] [] hh := by
    intro cells slots hc9 hs9 hh x2 hf
    unfold f_L_law_J208 at hf
    refine G.iload_n C 1 dL_law_208 rfl rfl ?_
    have hv9 := Option.some.inj hf
    rw [hv9]
    exact hend _ _ _ _ (by omega) (by omega)
  have hj48 : ∀ (cells slots : Nat), cells ≤ 900 → slots ≤ 4000 → ∀ (hh : PH) (x1 : Nat) (x2 : Int32) (k48_0 : Int32), f_L_law_J48 xs lL hh (x1) (x2) k48_0 = some (1 : Int32) → G p l e room_1 s m args below meth c 8 g [] (fun _ => none) cells slots Q 48 [(0, .ref (b9)), (1, .ref (x1)), (2, .int (x2))] [.int (k48_0)] hh := by
    intro cells slots hc9 hs9 hh x1 x2 k48_0 hf
    unfold f_L_law_J48 at hf
    refine G.istore_n (lv' := [(3, .int (k48_0)), (0, .ref (b9)), (1, .ref (x1)), (2, .int (x2))]) C dL_law_48 rfl (by decide) rfl ?_
    refine G.iconst (v := 0) C dL_law_49 (by decide) ?_
    refine G.istore (lv' := [(4, .int ((0 : Int32))), (3, .int (k48_0)), (0, .ref (b9)), (1, .ref (x1)), (2, .int (x2))]) C dL_law_50 (by decide) rfl ?_
    obtain ⟨z21, hlp21, hfo21⟩ := bind_some hf
    clear hf
    have hloop21 : ∀ (k : Nat), ∀ (cells slots : Nat), cells + k ≤ 1000 → slots + 60 * k ≤ 10000 → ∀ (x2 : Int32) (x4 : Int32) (hh : PH), (lpn (f_L_law_L52 xs lL (x1) (k48_0)) k (x2, x4, hh)) = some z21 → G p l e room_1 s m args below meth c 8 g [] (fun _ => none) cells slots Q 52 [(0, .ref (b9)), (1, .ref (x1)), (2, .int (x2)), (3, .int (k48_0)), (4, .int (x4))] [] hh := by
      intro k
      induction k with
      | zero => intro _ _ _ _ x2 x4 hh hlp21; exact (lpn_0 hlp21).elim
      | succ k ih21 =>
        intro cells slots hc9 hs9 x2 x4 hh hlp21
        obtain ⟨y21, hf, hlp21⟩ := lpn_s hlp21
        unfold f_L_law_L52 at hf
        try dsimp only at hf
        have hj202 : ∀ (cells slots : Nat), cells + k ≤ 1000 → slots + 60 * k ≤ 10000 → ∀ (hh : PH) (x2 : Int32) (x4 : Int32), f_L_law_J202 xs lL hh (x1) (x2) (k48_0) (x4) = some y21 → G p l e room_1 s m args below meth c 8 g [] (fun _ => none) cells slots Q 202 [(0, .ref (b9)), (1, .ref (x1)), (2, .int (x2)), (3, .int (k48_0)), (4, .int (x4))] [] hh := by
          intro cells slots hc9 hs9 hh x2 x4 hf
          unfold f_L_law_J202 at hf
          refine G.iinc (k := 4) (v := (x4 + 1)) (lv' := [(4, .int ((x4 + 1))), (0, .ref (b9)), (1, .ref (x1)), (2, .int (x2)), (3, .int (k48_0))]) C dL_law_202 rfl rfl (by decide) rfl ?_
          refine G.goto (tgt := 52) C dL_law_205 (by decide) ?_
          cases hf
          refine G.sub C [1, 2, 3, 4, 0] (lv' := [(0, .ref (b9)), (1, .ref (x1)), (2, .int (x2)), (3, .int (k48_0)), (4, .int ((x4 + 1)))]) rfl ?_
          exact ih21 _ _ (by omega) (by omega) _ _ _ hlp21
        have hj201 : ∀ (cells slots : Nat), cells + k ≤ 1000 → slots + 60 * k ≤ 10000 → ∀ (hh : PH) (x4 : Int32) (k201_0 : Int32), f_L_law_J201 xs lL hh (x1) (k48_0) (x4) k201_0 = some y21 → G p l e room_1 s m args below meth c 8 g [] (fun _ => none) cells slots Q 201 [(0, .ref (b9)), (1, .ref (x1)), (3, .int (k48_0)), (4, .int (x4))] [.int (k201_0)] hh := by
          intro cells slots hc9 hs9 hh x4 k201_0 hf
          unfold f_L_law_J201 at hf
          refine G.istore_n (lv' := [(2, .int (k201_0)), (0, .ref (b9)), (1, .ref (x1)), (3, .int (k48_0)), (4, .int (x4))]) C dL_law_201 rfl (by decide) rfl ?_
          refine G.sub C [1, 2, 0, 3, 4] (lv' := [(0, .ref (b9)), (1, .ref (x1)), (2, .int (k201_0)), (3, .int (k48_0)), (4, .int (x4))]) rfl ?_
          exact hj202 _ _ (by omega) (by omega) _ _ _ hf
        have hj200 : ∀ (cells slots : Nat), cells + k ≤ 1000 → slots + 60 * k ≤ 10000 → ∀ (hh : PH) (x4 : Int32), f_L_law_J200 xs lL hh (x1) (k48_0) (x4) = some y21 → G p l e room_1 s m args below meth c 8 g [] (fun _ => none) cells slots Q 200 [(0, .ref (b9)), (1, .ref (x1)), (3, .int (k48_0)), (4, .int (x4))] [] hh := by
          intro cells slots hc9 hs9 hh x4 hf
          unfold f_L_law_J200 at hf
          refine G.iconst (v := 0) C dL_law_200 (by decide) ?_
          refine G.sub C [0, 1, 2, 3] (lv' := [(0, .ref (b9)), (1, .ref (x1)), (3, .int (k48_0)), (4, .int (x4))]) rfl ?_
          exact hj201 _ _ (by omega) (by omega) _ _ _ hf
        have hj139 : ∀ (cells slots : Nat), cells + k ≤ 1000 → slots + 60 * k ≤ 10000 → ∀ (hh : PH) (x4 : Int32) (x5 : Int32) (x6 : Int32) (k139_0 : Int32), f_L_law_J139 xs lL hh (x1) (k48_0) (x4) (x5) (x6) k139_0 = some y21 → G p l e room_1 s m args below meth c 8 g [] (fun _ => none) cells slots Q 139 [(0, .ref (b9)), (1, .ref (x1)), (3, .int (k48_0)), (4, .int (x4)), (5, .int (x5)), (6, .int (x6))] [.int (k139_0)] hh := by
          intro cells slots hc9 hs9 hh x4 x5 x6 k139_0 hf
          unfold f_L_law_J139 at hf
          refine G.istore_n (lv' := [(2, .int (k139_0)), (0, .ref (b9)), (1, .ref (x1)), (3, .int (k48_0)), (4, .int (x4)), (5, .int (x5)), (6, .int (x6))]) C dL_law_139 rfl (by decide) rfl ?_
          refine G.iload_n C 0 dL_law_140 rfl rfl ?_
          refine G.if_eq (tgt := 202) C dL_law_141 (by decide) hf (fun c33 hf => ?_) (fun c33 hf => ?_)
          · refine G.sub C [1, 2, 0, 3, 4] (lv' := [(0, .ref (b9)), (1, .ref (x1)), (2, .int (k139_0)), (3, .int (k48_0)), (4, .int (x4))]) rfl ?_
            exact hj202 _ _ (by omega) (by omega) _ _ _ hf
          · refine G.iload C 4 dL_law_144 rfl ?_
            refine G.bipush (v := 6) C dL_law_146 (by decide) ?_
            obtain ⟨c22, hf⟩ := gd_ok hf
            refine G.irem C dL_law_148 c22 ?_
            refine G.iconst (v := 5) C dL_law_149 (by decide) ?_
            refine G.icmp_ne (tgt := 202) C dL_law_150 (by decide) hf (fun c32 hf => ?_) (fun c32 hf => ?_)
            · refine G.sub C [1, 2, 0, 3, 4] (lv' := [(0, .ref (b9)), (1, .ref (x1)), (2, .int (k139_0)), (3, .int (k48_0)), (4, .int (x4))]) rfl ?_
              exact hj202 _ _ (by omega) (by omega) _ _ _ hf
            · refine G.aload_n C 2 dL_law_153 rfl rfl ?_
              refine G.iconst (v := 2) C dL_law_154 (by decide) ?_
              obtain ⟨q23, hq23, hf⟩ := bind_some hf
              try dsimp only at hf
              have hq23 := okL9_at hq23
              refine G.callX9 C TT (st := []) (st2 := [.int (q23)]) (cx_X5_count hq23) rfl (ko_X5_count hq23) rfl m9_66 m9_67 m9_68 m9_2 m9_69 kd_X5_count ⟨Nat.le_of_ble_eq_true rfl, Nat.le_of_ble_eq_true rfl⟩ ⟨show _ ≤ 600104 by omega, show _ ≤ 7301314 by omega⟩ (Nat.le_of_ble_eq_true rfl) rfl rfl dL_law_155 ?_
              refine G.istore (lv' := [(7, .int (q23)), (2, .int (k139_0)), (0, .ref (b9)), (1, .ref (x1)), (3, .int (k48_0)), (4, .int (x4)), (5, .int (x5)), (6, .int (x6))]) C dL_law_158 (by decide) rfl ?_
              refine G.aload_n C 3 dL_law_160 rfl rfl ?_
              obtain ⟨q24, hq24, hf⟩ := bind_some hf
              try dsimp only at hf
              have hq24 := okW_at hq24
              refine G.callX9 C TT (st := []) (st2 := [.int (q24.1)]) (cx_X5_restore hq24) rfl (ko_X5_restore hq24) rfl m9_480 m9_481 m9_482 m9_2 m9_483 kd_X5_restore ⟨Nat.le_of_ble_eq_true rfl, Nat.le_of_ble_eq_true rfl⟩ ⟨show _ ≤ 600104 by omega, show _ ≤ 7301314 by omega⟩ (Nat.le_of_ble_eq_true rfl) rfl rfl dL_law_161 ?_
              refine G.iload C 6 dL_law_164 rfl ?_
              refine G.icmp_ne (tgt := 200) C dL_law_166 (by decide) hf (fun c31 hf => ?_) (fun c31 hf => ?_)
              · refine G.sub C [2, 3, 4, 5] (lv' := [(0, .ref (b9)), (1, .ref (x1)), (3, .int (k48_0)), (4, .int (x4))]) rfl ?_
                exact hj200 _ _ (by omega) (by omega) _ _ hf
              · refine G.aload_n C 3 dL_law_169 rfl rfl ?_
                refine G.iconst (v := 2) C dL_law_170 (by decide) ?_
                obtain ⟨q25, hq25, hf⟩ := bind_some hf
                try dsimp only at hf
                have hq25 := okL9_at hq25
                refine G.callX9 C TT (st := []) (st2 := [.int (q25)]) (cx_X5_count hq25) rfl (ko_X5_count hq25) rfl m9_66 m9_67 m9_68 m9_2 m9_69 kd_X5_count ⟨Nat.le_of_ble_eq_true rfl, Nat.le_of_ble_eq_true rfl⟩ ⟨show _ ≤ 600104 by omega, show _ ≤ 7301314 by omega⟩ (Nat.le_of_ble_eq_true rfl) rfl rfl dL_law_171 ?_
                refine G.iload C 7 dL_law_174 rfl ?_
                refine G.icmp_ne (tgt := 200) C dL_law_176 (by decide) hf (fun c30 hf => ?_) (fun c30 hf => ?_)
                · refine G.sub C [2, 3, 4, 5] (lv' := [(0, .ref (b9)), (1, .ref (x1)), (3, .int (k48_0)), (4, .int (x4))]) rfl ?_
                  exact hj200 _ _ (by omega) (by omega) _ _ hf
                · refine G.aload_n C 3 dL_law_179 rfl rfl ?_
                  obtain ⟨q26, hq26, hf⟩ := bind_some hf
                  try dsimp only at hf
                  have hq26 := okW_at hq26
                  refine G.callX9 C TT (st := []) (st2 := [.int (q26.1)]) (cx_X5_undo hq26) rfl (ko_X5_undo hq26) rfl m9_435 m9_436 m9_437 m9_2 m9_438 kd_X5_undo ⟨Nat.le_of_ble_eq_true rfl, Nat.le_of_ble_eq_true rfl⟩ ⟨show _ ≤ 600104 by omega, show _ ≤ 7301314 by omega⟩ (Nat.le_of_ble_eq_true rfl) rfl rfl dL_law_180 ?_
                  refine G.if_lt (tgt := 200) C dL_law_183 (by decide) hf (fun c29 hf => ?_) (fun c29 hf => ?_)
                  · refine G.sub C [2, 3, 4, 5] (lv' := [(0, .ref (b9)), (1, .ref (x1)), (3, .int (k48_0)), (4, .int (x4))]) rfl ?_
                    exact hj200 _ _ (by omega) (by omega) _ _ hf
                  · refine G.aload_n C 3 dL_law_186 rfl rfl ?_
                    refine G.iconst (v := 2) C dL_law_187 (by decide) ?_
                    obtain ⟨q27, hq27, hf⟩ := bind_some hf
                    try dsimp only at hf
                    have hq27 := okL9_at hq27
                    refine G.callX9 C TT (st := []) (st2 := [.int (q27)]) (cx_X5_count hq27) rfl (ko_X5_count hq27) rfl m9_66 m9_67 m9_68 m9_2 m9_69 kd_X5_count ⟨Nat.le_of_ble_eq_true rfl, Nat.le_of_ble_eq_true rfl⟩ ⟨show _ ≤ 600104 by omega, show _ ≤ 7301314 by omega⟩ (Nat.le_of_ble_eq_true rfl) rfl rfl dL_law_188 ?_
                    refine G.iload C 0 dL_law_191 rfl ?_
                    refine G.icmp_ne (tgt := 200) C dL_law_193 (by decide) hf (fun c28 hf => ?_) (fun c28 hf => ?_)
                    · refine G.sub C [2, 3, 4, 5] (lv' := [(0, .ref (b9)), (1, .ref (x1)), (3, .int (k48_0)), (4, .int (x4))]) rfl ?_
                      exact hj200 _ _ (by omega) (by omega) _ _ hf
                    · refine G.iconst (v := 1) C dL_law_196 (by decide) ?_
                      refine G.goto (tgt := 201) C dL_law_197 (by decide) ?_
                      refine G.sub C [2, 3, 4, 5] (lv' := [(0, .ref (b9)), (1, .ref (x1)), (3, .int (k48_0)), (4, .int (x4))]) rfl ?_
                      exact hj201 _ _ (by omega) (by omega) _ _ _ hf
        have hj138 : ∀ (cells slots : Nat), cells + k ≤ 1000 → slots + 60 * k ≤ 10000 → ∀ (hh : PH) (x4 : Int32) (x5 : Int32) (x6 : Int32), f_L_law_J138 xs lL hh (x1) (k48_0) (x4) (x5) (x6) = some y21 → G p l e room_1 s m args below meth c 8 g [] (fun _ => none) cells slots Q 138 [(0, .ref (b9)), (1, .ref (x1)), (3, .int (k48_0)), (4, .int (x4)), (5, .int (x5)), (6, .int (x6))] [] hh := by
          intro cells slots hc9 hs9 hh x4 x5 x6 hf
          unfold f_L_law_J138 at hf
          refine G.iconst (v := 0) C dL_law_138 (by decide) ?_
          refine G.sub C [0, 1, 2, 3, 4, 5] (lv' := [(0, .ref (b9)), (1, .ref (x1)), (3, .int (k48_0)), (4, .int (x4)), (5, .int (x5)), (6, .int (x6))]) rfl ?_
          exact hj139 _ _ (by omega) (by omega) _ _ _ _ _ hf
        refine G.iload C 4 dL_law_52 rfl ?_
        refine G.iload_n C 3 dL_law_54 rfl rfl ?_
        refine G.icmp_ge (tgt := 208) C dL_law_55 (by decide) hf (fun c48 hf => ?_) (fun c48 hf => ?_)
        · cases hf
          change some _ = some _ at hlp21
          have hf := hfo21
          try rw [← Option.some.inj hlp21] at hf
          try dsimp only at hf
          refine G.sub C [0, 2] (lv' := [(0, .ref (b9)), (2, .int (x2))]) rfl ?_
          exact hj208 _ _ (by omega) (by omega) _ _ hf
        · refine G.iload_n C 2 dL_law_58 rfl rfl ?_
          refine G.if_eq (tgt := 208) C dL_law_59 (by decide) hf (fun c47 hf => ?_) (fun c47 hf => ?_)
          · cases hf
            change some _ = some _ at hlp21
            have hf := hfo21
            try rw [← Option.some.inj hlp21] at hf
            try dsimp only at hf
            refine G.sub C [0, 2] (lv' := [(0, .ref (b9)), (2, .int (x2))]) rfl ?_
            exact hj208 _ _ (by omega) (by omega) _ _ hf
          · refine G.aload_n C 1 dL_law_62 rfl rfl ?_
            refine G.iconst (v := 0) C dL_law_63 (by decide) ?_
            obtain ⟨q34, hq34, hf⟩ := bind_some hf
            try dsimp only at hf
            have hq34 := okL9_at hq34
            refine G.callX9 C TT (st := []) (st2 := [.int (q34)]) (cx_X5_count hq34) rfl (ko_X5_count hq34) rfl m9_66 m9_67 m9_68 m9_2 m9_69 kd_X5_count ⟨Nat.le_of_ble_eq_true rfl, Nat.le_of_ble_eq_true rfl⟩ ⟨show _ ≤ 600104 by omega, show _ ≤ 7301314 by omega⟩ (Nat.le_of_ble_eq_true rfl) rfl rfl dL_law_64 ?_
            refine G.istore (lv' := [(5, .int (q34)), (0, .ref (b9)), (1, .ref (x1)), (2, .int (x2)), (3, .int (k48_0)), (4, .int (x4))]) C dL_law_67 (by decide) rfl ?_
            refine G.aload_n C 2 dL_law_69 rfl rfl ?_
            refine G.iconst (v := 2) C dL_law_70 (by decide) ?_
            obtain ⟨q35, hq35, hf⟩ := bind_some hf
            try dsimp only at hf
            have hq35 := okL9_at hq35
            refine G.callX9 C TT (st := []) (st2 := [.int (q35)]) (cx_X5_count hq35) rfl (ko_X5_count hq35) rfl m9_66 m9_67 m9_68 m9_2 m9_69 kd_X5_count ⟨Nat.le_of_ble_eq_true rfl, Nat.le_of_ble_eq_true rfl⟩ ⟨show _ ≤ 600104 by omega, show _ ≤ 7301314 by omega⟩ (Nat.le_of_ble_eq_true rfl) rfl rfl dL_law_71 ?_
            refine G.istore (lv' := [(6, .int (q35)), (5, .int (q34)), (0, .ref (b9)), (1, .ref (x1)), (2, .int (x2)), (3, .int (k48_0)), (4, .int (x4))]) C dL_law_74 (by decide) rfl ?_
            refine G.aload_n C 3 dL_law_76 rfl rfl ?_
            obtain ⟨q36, hq36, hf⟩ := bind_some hf
            try dsimp only at hf
            refine G.callV C (st := []) (st2 := [.int (q36.1)]) (ct_X5_keep hq36) (ko_X5_keep hq36) rfl m9_311 m9_312 m9_313 m9_2 m9_314 kd_X5_keep ⟨Nat.le_of_ble_eq_true rfl, Nat.le_of_ble_eq_true rfl⟩ ⟨show _ ≤ 600104 by omega, show _ ≤ 7301314 by omega⟩ (Nat.le_of_ble_eq_true rfl) rfl rfl dL_law_77 ?_
            refine G.iload C 1 dL_law_80 rfl ?_
            refine G.icmp_ne (tgt := 138) C dL_law_82 (by decide) hf (fun c46 hf => ?_) (fun c46 hf => ?_)
            · refine G.sub C [2, 3, 5, 6, 1, 0] (lv' := [(0, .ref (b9)), (1, .ref (x1)), (3, .int (k48_0)), (4, .int (x4)), (5, .int (q34)), (6, .int (q35))]) rfl ?_
              exact hj138 _ _ (by omega) (by omega) _ _ _ _ hf
            · refine G.aload_n C 3 dL_law_85 rfl rfl ?_
              refine G.aload_n C 2 dL_law_86 rfl rfl ?_
              refine G.iconst (v := 2) C dL_law_87 (by decide) ?_
              refine G.iload C 6 dL_law_88 rfl ?_
              refine G.imul C dL_law_90 ?_
              obtain ⟨v37, hv37, hf⟩ := bind_some hf
              try dsimp only at hf
              refine G.callC C hX hbl hbo (st := [.ref (x1)]) (st2 := [.int (v37), .ref (x1)]) (cc_L_cell hv37) m9_323 m9_324 m9_64 m9_325 kd_L_cell ⟨Nat.le_of_ble_eq_true rfl, Nat.le_of_ble_eq_true rfl⟩ ⟨show _ ≤ 600104 by omega, show _ ≤ 7301314 by omega⟩ (Nat.le_of_ble_eq_true rfl) rfl rfl dL_law_91 ?_
              refine G.aload_n C 2 dL_law_94 rfl rfl ?_
              refine G.iconst (v := 2) C dL_law_95 (by decide) ?_
              refine G.iload C 6 dL_law_96 rfl ?_
              refine G.imul C dL_law_98 ?_
              refine G.iconst (v := 1) C dL_law_99 (by decide) ?_
              refine G.iadd C dL_law_100 ?_
              obtain ⟨v38, hv38, hf⟩ := bind_some hf
              try dsimp only at hf
              refine G.callC C hX hbl hbo (st := [.int (v37), .ref (x1)]) (st2 := [.int (v38), .int (v37), .ref (x1)]) (cc_L_cell hv38) m9_323 m9_324 m9_64 m9_325 kd_L_cell ⟨Nat.le_of_ble_eq_true rfl, Nat.le_of_ble_eq_true rfl⟩ ⟨show _ ≤ 600104 by omega, show _ ≤ 7301314 by omega⟩ (Nat.le_of_ble_eq_true rfl) rfl rfl dL_law_101 ?_
              obtain ⟨q39, hq39, hf⟩ := bind_some hf
              try dsimp only at hf
              refine G.callL C TT (st := []) (st2 := [.int (q39.1)]) (cl_L_change hq39) m9_327 m9_328 m9_64 m9_329 kd_L_change ⟨Nat.le_of_ble_eq_true rfl, Nat.le_of_ble_eq_true rfl⟩ ⟨show _ ≤ 600104 by omega, show _ ≤ 7301314 by omega⟩ (Nat.le_of_ble_eq_true rfl) rfl rfl dL_law_104 ?_
              refine G.if_eq (tgt := 138) C dL_law_107 (by decide) hf (fun c45 hf => ?_) (fun c45 hf => ?_)
              · refine G.sub C [2, 3, 5, 6, 1, 0] (lv' := [(0, .ref (b9)), (1, .ref (x1)), (3, .int (k48_0)), (4, .int (x4)), (5, .int (q34)), (6, .int (q35))]) rfl ?_
                exact hj138 _ _ (by omega) (by omega) _ _ _ _ hf
              · refine G.aload_n C 3 dL_law_110 rfl rfl ?_
                obtain ⟨q40, hq40, hf⟩ := bind_some hf
                try dsimp only at hf
                refine G.callL0 C TT (st := []) (st2 := [.int (q40.1)]) (cl_L_holds hq40) m9_62 m9_63 m9_64 m9_65 kd_L_holds ⟨Nat.le_of_ble_eq_true rfl, Nat.le_of_ble_eq_true rfl⟩ ⟨show _ ≤ 600104 by omega, show _ ≤ 7301314 by omega⟩ (Nat.le_of_ble_eq_true rfl) rfl rfl dL_law_111 ?_
                refine G.if_eq (tgt := 138) C dL_law_114 (by decide) hf (fun c44 hf => ?_) (fun c44 hf => ?_)
                · refine G.sub C [2, 3, 5, 6, 1, 0] (lv' := [(0, .ref (b9)), (1, .ref (x1)), (3, .int (k48_0)), (4, .int (x4)), (5, .int (q34)), (6, .int (q35))]) rfl ?_
                  exact hj138 _ _ (by omega) (by omega) _ _ _ _ hf
                · refine G.aload_n C 3 dL_law_117 rfl rfl ?_
                  refine G.aload_n C 2 dL_law_118 rfl rfl ?_
                  refine G.iconst (v := 2) C dL_law_119 (by decide) ?_
                  refine G.iload C 6 dL_law_120 rfl ?_
                  refine G.imul C dL_law_122 ?_
                  refine G.iconst (v := 1) C dL_law_123 (by decide) ?_
                  refine G.iadd C dL_law_124 ?_
                  obtain ⟨v41, hv41, hf⟩ := bind_some hf
                  try dsimp only at hf
                  refine G.callC C hX hbl hbo (st := [.ref (x1)]) (st2 := [.int (v41), .ref (x1)]) (cc_L_cell hv41) m9_323 m9_324 m9_64 m9_325 kd_L_cell ⟨Nat.le_of_ble_eq_true rfl, Nat.le_of_ble_eq_true rfl⟩ ⟨show _ ≤ 600104 by omega, show _ ≤ 7301314 by omega⟩ (Nat.le_of_ble_eq_true rfl) rfl rfl dL_law_125 ?_
                  obtain ⟨q42, hq42, hf⟩ := bind_some hf
                  try dsimp only at hf
                  refine G.callL0 C TT (st := []) (st2 := [.int (q42)]) (cl_L_meets hq42) m9_462 m9_463 m9_64 m9_464 kd_L_meets ⟨Nat.le_of_ble_eq_true rfl, Nat.le_of_ble_eq_true rfl⟩ ⟨show _ ≤ 600104 by omega, show _ ≤ 7301314 by omega⟩ (Nat.le_of_ble_eq_true rfl) rfl rfl dL_law_128 ?_
                  refine G.if_eq (tgt := 138) C dL_law_131 (by decide) hf (fun c43 hf => ?_) (fun c43 hf => ?_)
                  · refine G.sub C [2, 3, 5, 6, 1, 0] (lv' := [(0, .ref (b9)), (1, .ref (x1)), (3, .int (k48_0)), (4, .int (x4)), (5, .int (q34)), (6, .int (q35))]) rfl ?_
                    exact hj138 _ _ (by omega) (by omega) _ _ _ _ hf
                  · refine G.iconst (v := 1) C dL_law_134 (by decide) ?_
                    refine G.goto (tgt := 139) C dL_law_135 (by decide) ?_
                    refine G.sub C [2, 3, 5, 6, 1, 0] (lv' := [(0, .ref (b9)), (1, .ref (x1)), (3, .int (k48_0)), (4, .int (x4)), (5, .int (q34)), (6, .int (q35))]) rfl ?_
                    exact hj139 _ _ (by omega) (by omega) _ _ _ _ _ hf
    refine G.sub C [2, 3, 4, 1, 0] (lv' := [(0, .ref (b9)), (1, .ref (x1)), (2, .int (x2)), (3, .int (k48_0)), (4, .int ((0 : Int32)))]) rfl ?_
    exact hloop21 40 _ _ (by omega) (by omega) _ _ _ hlp21
  have hj29 : ∀ (cells slots : Nat), cells ≤ 900 → slots ≤ 4000 → ∀ (hh : PH) (x1 : Nat) (k29_0 : Int32), f_L_law_J29 xs lL hh (x1) k29_0 = some (1 : Int32) → G p l e room_1 s m args below meth c 8 g [] (fun _ => none) cells slots Q 29 [(0, .ref (b9)), (1, .ref (x1))] [.int (k29_0)] hh := by
    intro cells slots hc9 hs9 hh x1 k29_0 hf
    unfold f_L_law_J29 at hf
    refine G.istore_n (lv' := [(2, .int (k29_0)), (0, .ref (b9)), (1, .ref (x1))]) C dL_law_29 rfl (by decide) rfl ?_
    refine G.aload_n C 1 dL_law_30 rfl rfl ?_
    refine G.slen C hX hbl hbo dL_law_31 ?_
    refine G.iconst (v := 2) C dL_law_32 (by decide) ?_
    obtain ⟨c49, hf⟩ := gd_ok hf
    refine G.idiv C dL_law_33 c49 ?_
    refine G.bipush (v := 36) C dL_law_34 (by decide) ?_
    refine G.icmp_le (tgt := 44) C dL_law_36 (by decide) hf (fun c51 hf => ?_) (fun c51 hf => ?_)
    · refine G.aload_n C 1 dL_law_44 rfl rfl ?_
      refine G.slen C hX hbl hbo dL_law_45 ?_
      refine G.iconst (v := 2) C dL_law_46 (by decide) ?_
      obtain ⟨c50, hf⟩ := gd_ok hf
      refine G.idiv C dL_law_47 c50 ?_
      refine G.sub C [1, 2, 0] (lv' := [(0, .ref (b9)), (1, .ref (x1)), (2, .int (k29_0))]) rfl ?_
      exact hj48 _ _ (by omega) (by omega) _ _ _ _ hf
    · refine G.bipush (v := 36) C dL_law_39 (by decide) ?_
      refine G.goto (tgt := 48) C dL_law_41 (by decide) ?_
      refine G.sub C [1, 2, 0] (lv' := [(0, .ref (b9)), (1, .ref (x1)), (2, .int (k29_0))]) rfl ?_
      exact hj48 _ _ (by omega) (by omega) _ _ _ _ hf
  have hj28 : ∀ (cells slots : Nat), cells ≤ 900 → slots ≤ 4000 → ∀ (hh : PH) (x1 : Nat), f_L_law_J28 xs lL hh (x1) = some (1 : Int32) → G p l e room_1 s m args below meth c 8 g [] (fun _ => none) cells slots Q 28 [(0, .ref (b9)), (1, .ref (x1))] [] hh := by
    intro cells slots hc9 hs9 hh x1 hf
    unfold f_L_law_J28 at hf
    refine G.iconst (v := 0) C dL_law_28 (by decide) ?_
    refine G.sub C [0, 1] (lv' := [(0, .ref (b9)), (1, .ref (x1))]) rfl ?_
    exact hj29 _ _ (by omega) (by omega) _ _ _ hf
  refine G.aload_n C 1 dL_law_8 rfl rfl ?_
  obtain ⟨q1, hq1, hf⟩ := bind_some hf
  try dsimp only at hf
  refine G.callL0 C TT (st := []) (st2 := [.int (q1.1)]) (cl_L_holds hq1) m9_62 m9_63 m9_64 m9_65 kd_L_holds ⟨Nat.le_of_ble_eq_true rfl, Nat.le_of_ble_eq_true rfl⟩ ⟨show _ ≤ 600104 by omega, show _ ≤ 7301314 by omega⟩ (Nat.le_of_ble_eq_true rfl) rfl rfl dL_law_9 ?_
  refine G.if_eq (tgt := 28) C dL_law_12 (by decide) hf (fun c4 hf => ?_) (fun c4 hf => ?_)
  · refine G.sub C [0, 1] (lv' := [(0, .ref (b9)), (1, .ref (a1))]) rfl ?_
    exact hj28 _ _ (by omega) (by omega) _ _ hf
  · refine G.aload_n C 1 dL_law_15 rfl rfl ?_
    refine G.bipush (v := 7) C dL_law_16 (by decide) ?_
    obtain ⟨q2, hq2, hf⟩ := bind_some hf
    try dsimp only at hf
    have hq2 := okL9_at hq2
    refine G.callX9 C TT (st := []) (st2 := [.int (q2)]) (cx_X5_count hq2) rfl (ko_X5_count hq2) rfl m9_66 m9_67 m9_68 m9_2 m9_69 kd_X5_count ⟨Nat.le_of_ble_eq_true rfl, Nat.le_of_ble_eq_true rfl⟩ ⟨show _ ≤ 600104 by omega, show _ ≤ 7301314 by omega⟩ (Nat.le_of_ble_eq_true rfl) rfl rfl dL_law_18 ?_
    refine G.if_ne (tgt := 28) C dL_law_21 (by decide) hf (fun c3 hf => ?_) (fun c3 hf => ?_)
    · refine G.sub C [0, 1] (lv' := [(0, .ref (b9)), (1, .ref (a1))]) rfl ?_
      exact hj28 _ _ (by omega) (by omega) _ _ hf
    · refine G.iconst (v := 1) C dL_law_24 (by decide) ?_
      refine G.goto (tgt := 29) C dL_law_25 (by decide) ?_
      refine G.sub C [0, 1] (lv' := [(0, .ref (b9)), (1, .ref (a1))]) rfl ?_
      exact hj29 _ _ (by omega) (by omega) _ _ _ hf
