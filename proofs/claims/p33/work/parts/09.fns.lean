/-! what each method does, written by program out of javap's listing -/
def f_X5_requireHue_J10 (h : PH)   : Option (Except String Unit) :=
  some (.error "java/lang/IndexOutOfBoundsException")
def f_X5_requireHue (h : PH) (a0 : Nat) (a1 : Int32) : Option (Except String Unit) :=
  if okO h a0 4 = true then (if a1 < 0 then (f_X5_requireHue_J10 h ) else (if a1 < (8 : Int32) then some (.ok ()) else (f_X5_requireHue_J10 h ))) else none
def f_X3_ropeAt_J31 (h : PH)  (k0 : (Option Nat)) : Option (Option Nat) :=
  some (k0)
def f_X3_ropeAt_J30 (h : PH)   : Option (Option Nat) :=
  (f_X3_ropeAt_J31 h (none))
def f_X3_ropeAt (h : PH) (a0 : Nat) (a1 : Int32) : Option (Option Nat) :=
  if okO h a0 2 = true then (if a1 < 0 then (f_X3_ropeAt_J30 h ) else ((rdI h a0 2 2).bind fun v1 => (if v1 ≤ a1 then (f_X3_ropeAt_J30 h ) else ((rdR h a0 2 1).bind fun v2 => ((lnA h v2).bind fun v3 => (if v3 ≤ a1 then (f_X3_ropeAt_J30 h ) else ((rdR h a0 2 1).bind fun v4 => ((ldQ h v4 a1).bind fun v5 => (f_X3_ropeAt_J31 h (v5)))))))))) else none
def f_X2_orderOf_J29 (h : PH) (x2 : Int32)  : Option Int32 :=
  some (x2)
def f_X2_orderOf_J37 (h : PH)   : Option Int32 :=
  some (((-1) : Int32))
def f_X2_orderOf_L2 (h : PH) (x0 : Nat) (x1 : Int32) : Int32 → Option ((Int32) ⊕ (((Unit) ⊕ (Int32)))) := fun z2 =>
  ((rdI h x0 1 3).bind fun v2 => (if v2 ≤ z2 then some (.inr (.inl ())) else ((rdR h x0 1 1).bind fun v3 => ((lnA h v3).bind fun v4 => (if v4 ≤ z2 then some (.inr (.inl ())) else ((rdR h x0 1 1).bind fun v5 => ((ldI h v5 z2).bind fun v6 => (if ¬ v6 = x1 then some (.inl ((z2 + 1))) else some (.inr (.inr ((z2))))))))))))
def f_X2_orderOf (h : PH) (a0 : Nat) (a1 : Int32) : Option Int32 :=
  if okO h a0 1 = true then ((lpn (f_X2_orderOf_L2 (h) (a0) (a1)) LF ((0 : Int32))).bind (fun w2 => match w2 with | .inl w2 => (f_X2_orderOf_J37 h ) | .inr w2 => (f_X2_orderOf_J29 h (w2)))) else none
def f_X3_isLaidOnSome_J29 (h : PH)   : Option Int32 :=
  some ((1 : Int32))
def f_X3_isLaidOnSome_J37 (h : PH)   : Option Int32 :=
  some ((0 : Int32))
def f_X3_isLaidOnSome_J31 (h : PH) (x0 : Nat) (x1 : Int32) (x2 : Int32)  : Option ((Int32) ⊕ (((Unit) ⊕ (Unit)))) :=
  some (.inl ((x2 + 1)))
def f_X3_isLaidOnSome_L2 (h : PH) (x0 : Nat) (x1 : Int32) : Int32 → Option ((Int32) ⊕ (((Unit) ⊕ (Unit)))) := fun z2 =>
  ((rdI h x0 2 2).bind fun v2 => (if v2 ≤ z2 then some (.inr (.inl ())) else ((f_X3_ropeAt h (x0) (z2)).bind fun v3 => (match v3 with | none => (f_X3_isLaidOnSome_J31 h (x0) (x1) (z2)) | some a4 => ((f_X2_orderOf h (a4) (x1)).bind fun v5 => (if v5 = ((-1) : Int32) then (f_X3_isLaidOnSome_J31 h (x0) (x1) (z2)) else some (.inr (.inr (())))))))))
def f_X3_isLaidOnSome (h : PH) (a0 : Nat) (a1 : Int32) : Option Int32 :=
  if okO h a0 2 = true then ((lpn (f_X3_isLaidOnSome_L2 (h) (a0) (a1)) LF ((0 : Int32))).bind (fun w2 => match w2 with | .inl w2 => (f_X3_isLaidOnSome_J37 h ) | .inr w2 => (f_X3_isLaidOnSome_J29 h ))) else none
def f_X0_rowAt_J23 (h : PH)  (k0 : (Option Nat)) : Option (Option Nat) :=
  some (k0)
def f_X0_rowAt_J22 (h : PH)   : Option (Option Nat) :=
  (f_X0_rowAt_J23 h (none))
def f_X0_rowAt (h : PH) (a0 : Nat) (a1 : Int32) : Option (Option Nat) :=
  if okO h a0 0 = true then (if a1 < 0 then (f_X0_rowAt_J22 h ) else ((rdR h a0 0 0).bind fun v1 => ((lnA h v1).bind fun v2 => (if v2 ≤ a1 then (f_X0_rowAt_J22 h ) else ((rdR h a0 0 0).bind fun v3 => ((ldQ h v3 a1).bind fun v4 => (f_X0_rowAt_J23 h (v4)))))))) else none
def f_X0_dropOldest_J77 (hh : PH)   : Option PH :=
  some hh
def f_X0_dropOldest_J37 (hh : PH) (x0 : Nat) (x1 : (Option Nat))  : Option PH :=
  ((rdR hh x0 0 0).bind fun v1 => ((lnA hh v1).bind fun v2 => ((wrF hh x0 0 1 (.int ((v2 - (1 : Int32))))).bind fun h3 => ((rdI h3 x0 0 1).bind fun v4 => (if v4 < 0 then (f_X0_dropOldest_J77 h3 ) else ((rdI h3 x0 0 1).bind fun v5 => ((rdR h3 x0 0 0).bind fun v6 => ((lnA h3 v6).bind fun v7 => (if v7 ≤ v5 then (f_X0_dropOldest_J77 h3 ) else ((rdR h3 x0 0 0).bind fun v8 => ((rdI h3 x0 0 1).bind fun v9 => ((x1).bind fun w11 => ((stQ h3 v8 v9 w11).bind fun h10 => (f_X0_dropOldest_J77 h10 ))))))))))))))
def f_X0_dropOldest_L8 (x0 : Nat) (x1 : (Option Nat)) : Int32 × PH → Option ((Int32 × PH) ⊕ (PH)) := fun z8 =>
  ((rdR (z8.2) x0 0 0).bind fun v14 => ((lnA (z8.2) v14).bind fun v15 => (if v15 ≤ (z8.1) then some (.inr (((z8.2)))) else ((rdR (z8.2) x0 0 0).bind fun v16 => ((rdR (z8.2) x0 0 0).bind fun v17 => ((ldQ (z8.2) v17 (z8.1)).bind fun v18 => ((v18).bind fun w20 => ((stQ (z8.2) v16 ((z8.1) - (1 : Int32)) w20).bind fun h19 => some (.inl (((z8.1) + 1), h19))))))))))
def f_X0_dropOldest (h : PH) (a0 : Nat) : Option PH :=
  if okO h a0 0 = true then ((f_X0_rowAt h (a0) ((0 : Int32))).bind fun v12 => ((lpn (f_X0_dropOldest_L8 (a0) (v12)) LF ((1 : Int32), h)).bind (fun w8 => (f_X0_dropOldest_J37 w8 (a0) (v12))))) else none
def f_X2_copyFrom_J92 (hh : PH)   : Option PH :=
  some hh
def f_X2_copyFrom_L56 (x0 : Nat) (x1 : Nat) : Int32 × PH → Option ((Int32 × PH) ⊕ (PH)) := fun z56 =>
  ((rdR (z56.2) x0 1 1).bind fun v2 => ((lnA (z56.2) v2).bind fun v3 => (if v3 ≤ (z56.1) then some (.inr (((z56.2)))) else ((rdR (z56.2) x1 1 1).bind fun v4 => ((lnA (z56.2) v4).bind fun v5 => (if v5 ≤ (z56.1) then some (.inr (((z56.2)))) else ((rdR (z56.2) x0 1 1).bind fun v6 => ((rdR (z56.2) x1 1 1).bind fun v7 => ((ldI (z56.2) v7 (z56.1)).bind fun v8 => ((stI (z56.2) v6 (z56.1) v8).bind fun h9 => some (.inl (((z56.1) + 1), h9))))))))))))
def f_X2_copyFrom_J54 (hh : PH) (x0 : Nat) (x1 : Nat)  : Option PH :=
  ((lpn (f_X2_copyFrom_L56 (x0) (x1)) LF ((0 : Int32), hh)).bind (fun w56 => (f_X2_copyFrom_J92 w56 )))
def f_X2_copyFrom_L18 (x0 : Nat) (x1 : Nat) : Int32 × PH → Option ((Int32 × PH) ⊕ (PH)) := fun z18 =>
  ((rdR (z18.2) x0 1 0).bind fun v15 => ((lnA (z18.2) v15).bind fun v16 => (if v16 ≤ (z18.1) then some (.inr (((z18.2)))) else ((rdR (z18.2) x1 1 0).bind fun v17 => ((lnA (z18.2) v17).bind fun v18 => (if v18 ≤ (z18.1) then some (.inr (((z18.2)))) else ((rdR (z18.2) x0 1 0).bind fun v19 => ((rdR (z18.2) x1 1 0).bind fun v20 => ((ldI (z18.2) v20 (z18.1)).bind fun v21 => ((stI (z18.2) v19 (z18.1) v21).bind fun h22 => some (.inl (((z18.1) + 1), h22))))))))))))
def f_X2_copyFrom (h : PH) (a0 : Nat) (a1 : Nat) : Option PH :=
  if okO h a0 1 = true then ((rdI h a1 1 2).bind fun v10 => ((wrF h a0 1 2 (.int (v10))).bind fun h11 => ((rdI h11 a1 1 3).bind fun v12 => ((wrF h11 a0 1 3 (.int (v12))).bind fun h13 => ((lpn (f_X2_copyFrom_L18 (a0) (a1)) LF ((0 : Int32), h13)).bind (fun w18 => (f_X2_copyFrom_J54 w18 (a0) (a1)))))))) else none
def f_X3_copyFrom_J90 (hh : PH) (x0 : Nat) (x1 : Nat)  : Option PH :=
  ((rdI hh x1 2 3).bind fun v1 => ((wrF hh x0 2 3 (.int (v1))).bind fun h2 => ((rdI h2 x1 2 4).bind fun v3 => ((wrF h2 x0 2 4 (.int (v3))).bind fun h4 => ((rdI h4 x1 2 5).bind fun v5 => ((wrF h4 x0 2 5 (.int (v5))).bind fun h6 => some h6))))))
def f_X3_copyFrom_J84 (hh : PH) (x0 : Nat) (x1 : Nat) (x2 : Int32)  : Option ((Int32 × PH) ⊕ (PH)) :=
  some (.inl ((x2 + 1), hh))
def f_X3_copyFrom_L48 (x0 : Nat) (x1 : Nat) : Int32 × PH → Option ((Int32 × PH) ⊕ (PH)) := fun z48 =>
  ((rdI (z48.2) x0 2 2).bind fun v10 => (if v10 ≤ (z48.1) then some (.inr (((z48.2)))) else ((f_X3_ropeAt (z48.2) (x0) ((z48.1))).bind fun v11 => ((f_X3_ropeAt (z48.2) (x1) ((z48.1))).bind fun v12 => (match v11 with | none => (f_X3_copyFrom_J84 (z48.2) (x0) (x1) ((z48.1))) | some a13 => (match v12 with | none => (f_X3_copyFrom_J84 (z48.2) (x0) (x1) ((z48.1))) | some a14 => ((f_X2_copyFrom (z48.2) (a13) (a14)).bind fun h15 => (f_X3_copyFrom_J84 h15 (x0) (x1) ((z48.1))))))))))
def f_X3_copyFrom_J38 (hh : PH) (x0 : Nat) (x1 : Nat)  : Option PH :=
  ((rdI hh x1 2 2).bind fun v7 => ((wrF hh x0 2 2 (.int (v7))).bind fun h8 => ((lpn (f_X3_copyFrom_L48 (x0) (x1)) LF ((0 : Int32), h8)).bind (fun w48 => (f_X3_copyFrom_J90 w48 (x0) (x1))))))
def f_X3_copyFrom_L2 (x0 : Nat) (x1 : Nat) : Int32 × PH → Option ((Int32 × PH) ⊕ (PH)) := fun z2 =>
  ((rdR (z2.2) x0 2 0).bind fun v17 => ((lnA (z2.2) v17).bind fun v18 => (if v18 ≤ (z2.1) then some (.inr (((z2.2)))) else ((rdR (z2.2) x1 2 0).bind fun v19 => ((lnA (z2.2) v19).bind fun v20 => (if v20 ≤ (z2.1) then some (.inr (((z2.2)))) else ((rdR (z2.2) x0 2 0).bind fun v21 => ((rdR (z2.2) x1 2 0).bind fun v22 => ((ldI (z2.2) v22 (z2.1)).bind fun v23 => ((stI (z2.2) v21 (z2.1) v23).bind fun h24 => some (.inl (((z2.1) + 1), h24))))))))))))
def f_X3_copyFrom (h : PH) (a0 : Nat) (a1 : Nat) : Option PH :=
  if okO h a0 2 = true then ((lpn (f_X3_copyFrom_L2 (a0) (a1)) LF ((0 : Int32), h)).bind (fun w2 => (f_X3_copyFrom_J38 w2 (a0) (a1)))) else none
def f_X0_save_J44 (hh : PH)   : Option PH :=
  some hh
def f_X0_save_J16 (hh : PH) (x0 : Nat) (x1 : Nat)  : Option PH :=
  ((rdI hh x0 0 1).bind fun v1 => ((f_X0_rowAt hh (x0) (v1)).bind fun v2 => (match v2 with | none => (f_X0_save_J44 hh ) | some a3 => ((f_X3_copyFrom hh (a3) (x1)).bind fun h4 => ((rdI h4 x0 0 1).bind fun v5 => ((wrF h4 x0 0 1 (.int ((v5 + (1 : Int32))))).bind fun h6 => (f_X0_save_J44 h6 )))))))
def f_X0_save (h : PH) (a0 : Nat) (a1 : Nat) : Option PH :=
  if okO h a0 0 = true then ((rdI h a0 0 1).bind fun v7 => ((rdR h a0 0 0).bind fun v8 => ((lnA h v8).bind fun v9 => (if v7 < v9 then (f_X0_save_J16 h (a0) (a1)) else ((f_X0_dropOldest h (a0)).bind fun h10 => (f_X0_save_J16 h10 (a0) (a1))))))) else none
def f_X3_gapAt_J23 (h : PH)  (k0 : Int32) : Option Int32 :=
  some (k0)
def f_X3_gapAt_J22 (h : PH)   : Option Int32 :=
  (f_X3_gapAt_J23 h ((0 : Int32)))
def f_X3_gapAt (h : PH) (a0 : Nat) (a1 : Int32) : Option Int32 :=
  if okO h a0 2 = true then (if a1 < 0 then (f_X3_gapAt_J22 h ) else ((rdR h a0 2 0).bind fun v1 => ((lnA h v1).bind fun v2 => (if v2 ≤ a1 then (f_X3_gapAt_J22 h ) else ((rdR h a0 2 0).bind fun v3 => ((ldI h v3 a1).bind fun v4 => (f_X3_gapAt_J23 h (v4)))))))) else none
def f_X3_setGap_J20 (hh : PH)   : Option PH :=
  some hh
def f_X3_setGap (h : PH) (a0 : Nat) (a1 : Int32) (a2 : Int32) : Option PH :=
  if okO h a0 2 = true then (if a1 < 0 then (f_X3_setGap_J20 h ) else ((rdR h a0 2 0).bind fun v1 => ((lnA h v1).bind fun v2 => (if v2 ≤ a1 then (f_X3_setGap_J20 h ) else ((rdR h a0 2 0).bind fun v3 => ((stI h v3 a1 a2).bind fun h4 => (f_X3_setGap_J20 h4 ))))))) else none
def f_X5_gap_J16 (h : PH)   : Option (Except (String × PH) (Int32 × PH)) :=
  some (.error ("java/lang/IllegalArgumentException", h))
def f_X5_gap (h : PH) (a0 : Nat) (a1 : Int32) (a2 : Int32) : Option (Except (String × PH) (Int32 × PH)) :=
  if okO h a0 4 = true then ((f_X5_requireHue h (a0) (a1)).bind fun r1 => (match r1 with | .error E4 => some (.error (E4, h)) | .ok v2 => (if a2 < (2 : Int32) then (f_X5_gap_J16 h ) else (if a2 ≤ (20 : Int32) then ((rdR h a0 4 0).bind fun v5 => ((f_X3_isLaidOnSome h (v5) (a1)).bind fun v6 => (if v6 = 0 then ((rdR h a0 4 2).bind fun v7 => ((rdR h a0 4 0).bind fun v8 => ((f_X0_save h (v7) (v8)).bind fun h9 => ((rdR h9 a0 4 0).bind fun v10 => ((f_X3_gapAt h9 (v10) (a1)).bind fun v11 => ((rdR h9 a0 4 0).bind fun v12 => ((f_X3_setGap h9 (v12) (a1) (a2)).bind fun h13 => some (.ok (v11, h13))))))))) else some (.error ("java/lang/IllegalStateException", h))))) else (f_X5_gap_J16 h ))))) else none
def f_X5_requireLength_J11 (h : PH)   : Option (Except String Unit) :=
  some (.error "java/lang/IllegalArgumentException")
def f_X5_requireLength (h : PH) (a0 : Nat) (a1 : Int32) : Option (Except String Unit) :=
  if okO h a0 4 = true then (if a1 < (1 : Int32) then (f_X5_requireLength_J11 h ) else (if a1 ≤ (60 : Int32) then some (.ok ()) else (f_X5_requireLength_J11 h ))) else none
def f_X3_ropeCount (h : PH) (a0 : Nat) : Option Int32 :=
  if okO h a0 2 = true then ((rdI h a0 2 2).bind fun v1 => some (v1)) else none
def f_X5_requireRoomForRope (h : PH) (a0 : Nat) : Option (Except String Unit) :=
  if okO h a0 4 = true then ((rdR h a0 4 0).bind fun v1 => ((f_X3_ropeCount h (v1)).bind fun v2 => (if v2 < (4 : Int32) then some (.ok ()) else some (.error "java/lang/IllegalStateException")))) else none
def f_X2_begin_J46 (hh : PH)   : Option PH :=
  some hh
def f_X2_begin_L24 (x0 : Nat) : Int32 × PH → Option ((Int32 × PH) ⊕ (PH)) := fun z24 =>
  ((rdR (z24.2) x0 1 0).bind fun v6 => ((lnA (z24.2) v6).bind fun v7 => (if v7 ≤ (z24.1) then some (.inr (((z24.2)))) else ((rdR (z24.2) x0 1 0).bind fun v8 => ((stI (z24.2) v8 (z24.1) ((-1) : Int32)).bind fun h9 => some (.inl (((z24.1) + 1), h9)))))))
def f_X2_begin (h : PH) (a0 : Nat) (a1 : Int32) : Option PH :=
  if okO h a0 1 = true then ((rdR h a0 1 0).bind fun v1 => ((lnA h v1).bind fun v2 => ((wrF h a0 1 2 (.int ((if (0 : Int32) < (if v2 < a1 then v2 else a1) then (if v2 < a1 then v2 else a1) else (0 : Int32))))).bind fun h3 => ((wrF h3 a0 1 3 (.int ((0 : Int32)))).bind fun h4 => ((lpn (f_X2_begin_L24 (a0)) LF ((0 : Int32), h4)).bind (fun w24 => (f_X2_begin_J46 w24 ))))))) else none
def f_X3_addRope_J19 (h : PH)   : Option ((Option Nat) × PH) :=
  some (none, h)
def f_X3_addRope_J51 (hh : PH) (x2 : (Option Nat))  : Option ((Option Nat) × PH) :=
  some (x2, hh)
def f_X3_addRope (h : PH) (a0 : Nat) (a1 : Int32) : Option ((Option Nat) × PH) :=
  if okO h a0 2 = true then ((rdI h a0 2 2).bind fun v1 => (if v1 < 0 then (f_X3_addRope_J19 h ) else ((rdI h a0 2 2).bind fun v2 => ((rdR h a0 2 1).bind fun v3 => ((lnA h v3).bind fun v4 => (if v2 < v4 then ((rdI h a0 2 2).bind fun v5 => ((wrF h a0 2 2 (.int ((v5 + (1 : Int32))))).bind fun h6 => ((rdI h6 a0 2 2).bind fun v7 => ((f_X3_ropeAt h6 (a0) ((v7 - (1 : Int32)))).bind fun v8 => (match v8 with | none => (f_X3_addRope_J51 h6 (none)) | some a9 => ((f_X2_begin h6 (a9) (a1)).bind fun h10 => (f_X3_addRope_J51 h10 (some (a9))))))))) else (f_X3_addRope_J19 h ))))))) else none
def f_X5_rope (h : PH) (a0 : Nat) (a1 : Int32) : Option (Except (String × PH) (Int32 × PH)) :=
  if okO h a0 4 = true then ((f_X5_requireLength h (a0) (a1)).bind fun r1 => (match r1 with | .error E4 => some (.error (E4, h)) | .ok v2 => ((f_X5_requireRoomForRope h (a0)).bind fun r5 => (match r5 with | .error E8 => some (.error (E8, h)) | .ok v6 => ((rdR h a0 4 2).bind fun v9 => ((rdR h a0 4 0).bind fun v10 => ((f_X0_save h (v9) (v10)).bind fun h11 => ((rdR h11 a0 4 0).bind fun v12 => ((f_X3_addRope h11 (v12) (a1)).bind fun q15 => ((rdR q15.2 a0 4 0).bind fun v16 => ((f_X3_ropeCount q15.2 (v16)).bind fun v17 => some (.ok ((v17 - (1 : Int32)), q15.2))))))))))))) else none
def f_X5_existing (h : PH) (a0 : Nat) (a1 : Int32) : Option (Except String Nat) :=
  if okO h a0 4 = true then ((rdR h a0 4 0).bind fun v1 => ((f_X3_ropeAt h (v1) (a1)).bind fun v2 => (match v2 with | none => some (.error "java/lang/IndexOutOfBoundsException") | some a3 => some (.ok (a3))))) else none
def f_X3_removeRope_J91 (hh : PH)   : Option PH :=
  some hh
def f_X3_removeRope_J52 (hh : PH) (x0 : Nat) (x2 : Nat)  : Option PH :=
  ((rdI hh x0 2 2).bind fun v1 => ((wrF hh x0 2 2 (.int ((v1 - (1 : Int32))))).bind fun h2 => ((rdI h2 x0 2 2).bind fun v3 => (if v3 < 0 then (f_X3_removeRope_J91 h2 ) else ((rdI h2 x0 2 2).bind fun v4 => ((rdR h2 x0 2 1).bind fun v5 => ((lnA h2 v5).bind fun v6 => (if v6 ≤ v4 then (f_X3_removeRope_J91 h2 ) else ((rdR h2 x0 2 1).bind fun v7 => ((rdI h2 x0 2 2).bind fun v8 => ((stQ h2 v7 v8 x2).bind fun h9 => (f_X3_removeRope_J91 h9 ))))))))))))
def f_X3_removeRope_L15 (x0 : Nat) (x2 : Nat) : Int32 × PH → Option ((Int32 × PH) ⊕ (PH)) := fun z15 =>
  ((rdI (z15.2) x0 2 2).bind fun v13 => (if v13 ≤ (z15.1) then some (.inr (((z15.2)))) else ((rdR (z15.2) x0 2 1).bind fun v14 => ((lnA (z15.2) v14).bind fun v15 => (if v15 ≤ (z15.1) then some (.inr (((z15.2)))) else ((rdR (z15.2) x0 2 1).bind fun v16 => ((rdR (z15.2) x0 2 1).bind fun v17 => ((ldQ (z15.2) v17 (z15.1)).bind fun v18 => ((v18).bind fun w20 => ((stQ (z15.2) v16 ((z15.1) - (1 : Int32)) w20).bind fun h19 => some (.inl (((z15.1) + 1), h19))))))))))))
def f_X3_removeRope (h : PH) (a0 : Nat) (a1 : Int32) : Option PH :=
  if okO h a0 2 = true then ((f_X3_ropeAt h (a0) (a1)).bind fun v10 => (match v10 with | none => some h | some a11 => ((lpn (f_X3_removeRope_L15 (a0) (a11)) LF ((a1 + (1 : Int32)), h)).bind (fun w15 => (f_X3_removeRope_J52 w15 (a0) (a11)))))) else none
def f_X5_drop (h : PH) (a0 : Nat) (a1 : Int32) : Option (Except (String × PH) (Int32 × PH)) :=
  if okO h a0 4 = true then ((f_X5_existing h (a0) (a1)).bind fun r1 => (match r1 with | .error E4 => some (.error (E4, h)) | .ok v2 => ((rdR h a0 4 2).bind fun v5 => ((rdR h a0 4 0).bind fun v6 => ((f_X0_save h (v5) (v6)).bind fun h7 => ((rdR h7 a0 4 0).bind fun v8 => ((f_X3_removeRope h7 (v8) (a1)).bind fun h9 => ((rdR h9 a0 4 0).bind fun v10 => ((f_X3_ropeCount h9 (v10)).bind fun v11 => some (.ok (v11, h9))))))))))) else none
def f_X5_requirePhase_J16 (h : PH)   : Option (Except String Unit) :=
  some (.error "java/lang/IllegalArgumentException")
def f_X5_requirePhase (h : PH) (a0 : Nat) (a1 : Int32) (a2 : Int32) : Option (Except String Unit) :=
  if okO h a0 4 = true then (if a2 < 0 then (f_X5_requirePhase_J16 h ) else ((rdR h a0 4 0).bind fun v1 => ((f_X3_gapAt h (v1) (a1)).bind fun v2 => (if a2 < v2 then some (.ok ()) else (f_X5_requirePhase_J16 h ))))) else none
def f_X2_colourAt_J31 (h : PH)  (k0 : Int32) : Option Int32 :=
  some (k0)
def f_X2_colourAt_J30 (h : PH)   : Option Int32 :=
  (f_X2_colourAt_J31 h (((-1) : Int32)))
def f_X2_colourAt (h : PH) (a0 : Nat) (a1 : Int32) : Option Int32 :=
  if okO h a0 1 = true then (if a1 < 0 then (f_X2_colourAt_J30 h ) else ((rdI h a0 1 2).bind fun v1 => (if v1 ≤ a1 then (f_X2_colourAt_J30 h ) else ((rdR h a0 1 0).bind fun v2 => ((lnA h v2).bind fun v3 => (if v3 ≤ a1 then (f_X2_colourAt_J30 h ) else ((rdR h a0 1 0).bind fun v4 => ((ldI h v4 a1).bind fun v5 => (f_X2_colourAt_J31 h (v5)))))))))) else none
def f_X2_reasonAgainst_J50 (h : PH)   : Option Int32 :=
  some ((3 : Int32))
def f_X2_reasonAgainst_J62 (h : PH)   : Option Int32 :=
  some ((0 : Int32))
def f_X2_reasonAgainst_L31 (h : PH) (x0 : Nat) (x4 : Int32) : Int32 → Option ((Int32) ⊕ (((Unit) ⊕ (Unit)))) := fun z31 =>
  ((rdI h x0 1 2).bind fun v4 => (if v4 ≤ z31 then some (.inr (.inl ())) else ((f_X2_colourAt h (x0) (z31)).bind fun v5 => (if v5 = ((-1) : Int32) then some (.inl ((z31 + x4))) else some (.inr (.inr (())))))))
def f_X2_reasonAgainst (h : PH) (a0 : Nat) (a1 : Int32) (a2 : Int32) (a3 : Int32) : Option Int32 :=
  if okO h a0 1 = true then ((f_X2_orderOf h (a0) (a1)).bind fun v1 => (if v1 = ((-1) : Int32) then ((rdI h a0 1 2).bind fun v2 => (if a2 < v2 then ((lpn (f_X2_reasonAgainst_L31 (h) (a0) ((if (1 : Int32) < a3 then a3 else (1 : Int32)))) LF (a2)).bind (fun w31 => match w31 with | .inl w31 => (f_X2_reasonAgainst_J62 h ) | .inr w31 => (f_X2_reasonAgainst_J50 h ))) else some ((2 : Int32)))) else some ((1 : Int32)))) else none
def f_X2_setColour_J20 (hh : PH)   : Option PH :=
  some hh
def f_X2_setColour (h : PH) (a0 : Nat) (a1 : Int32) (a2 : Int32) : Option PH :=
  if okO h a0 1 = true then (if a1 < 0 then (f_X2_setColour_J20 h ) else ((rdR h a0 1 0).bind fun v1 => ((lnA h v1).bind fun v2 => (if v2 ≤ a1 then (f_X2_setColour_J20 h ) else ((rdR h a0 1 0).bind fun v3 => ((stI h v3 a1 a2).bind fun h4 => (f_X2_setColour_J20 h4 ))))))) else none
def f_X2_put_J31 (h : PH)   : Option (Int32 × PH) :=
  some ((0 : Int32), h)
def f_X2_put_J95 (hh : PH) (x4 : Int32)  : Option (Int32 × PH) :=
  some (x4, hh)
def f_X2_put_L66 (x0 : Nat) (x1 : Int32) (x5 : Int32) : Int32 × Int32 × PH → Option ((Int32 × Int32 × PH) ⊕ (Int32 × PH)) := fun z66 =>
  ((rdI (z66.2.2) x0 1 2).bind fun v12 => (if v12 ≤ (z66.2.1) then some (.inr (((z66.1), (z66.2.2)))) else ((f_X2_setColour (z66.2.2) (x0) ((z66.2.1)) (x1)).bind fun h13 => some (.inl (((z66.1) + 1), ((z66.2.1) + x5), h13)))))
def f_X2_put (h : PH) (a0 : Nat) (a1 : Int32) (a2 : Int32) (a3 : Int32) : Option (Int32 × PH) :=
  if okO h a0 1 = true then (if a2 < 0 then (f_X2_put_J31 h ) else ((rdI h a0 1 2).bind fun v1 => (if v1 ≤ a2 then (f_X2_put_J31 h ) else ((rdI h a0 1 3).bind fun v2 => (if v2 < 0 then (f_X2_put_J31 h ) else ((rdI h a0 1 3).bind fun v3 => ((rdR h a0 1 1).bind fun v4 => ((lnA h v4).bind fun v5 => (if v3 < v5 then ((rdR h a0 1 1).bind fun v6 => ((rdI h a0 1 3).bind fun v7 => ((stI h v6 v7 a1).bind fun h8 => ((rdI h8 a0 1 3).bind fun v9 => ((wrF h8 a0 1 3 (.int ((v9 + (1 : Int32))))).bind fun h10 => ((lpn (f_X2_put_L66 (a0) (a1) ((if (1 : Int32) < a3 then a3 else (1 : Int32)))) LF ((0 : Int32), a2, h10)).bind (fun w66 => (f_X2_put_J95 (w66.2) (w66.1))))))))) else (f_X2_put_J31 h )))))))))) else none
def f_X3_layOn (h : PH) (a0 : Nat) (a1 : Nat) (a2 : Int32) (a3 : Int32) : Option (Int32 × PH) :=
  if okO h a0 2 = true then ((rdI h a0 2 3).bind fun v1 => ((wrF h a0 2 3 (.int ((v1 + (1 : Int32))))).bind fun h2 => ((f_X3_gapAt h2 (a0) (a2)).bind fun v3 => ((f_X2_put h2 (a1) (a2) (a3) (v3)).bind fun q6 => some (q6.1, q6.2))))) else none
def f_X5_lay (h : PH) (a0 : Nat) (a1 : Int32) (a2 : Int32) (a3 : Int32) : Option (Except (String × PH) (Int32 × PH)) :=
  if okO h a0 4 = true then ((f_X5_existing h (a0) (a1)).bind fun r1 => (match r1 with | .error E4 => some (.error (E4, h)) | .ok v2 => ((f_X5_requireHue h (a0) (a2)).bind fun r5 => (match r5 with | .error E8 => some (.error (E8, h)) | .ok v6 => ((f_X5_requirePhase h (a0) (a2) (a3)).bind fun r9 => (match r9 with | .error E12 => some (.error (E12, h)) | .ok v10 => ((rdR h a0 4 0).bind fun v13 => ((f_X3_gapAt h (v13) (a2)).bind fun v14 => ((f_X2_reasonAgainst h (v2) (a2) (a3) (v14)).bind fun v15 => (if v15 = 0 then ((rdR h a0 4 2).bind fun v16 => ((rdR h a0 4 0).bind fun v17 => ((f_X0_save h (v16) (v17)).bind fun h18 => ((rdR h18 a0 4 0).bind fun v19 => ((f_X3_layOn h18 (v19) (v2) (a2) (a3)).bind fun q22 => some (.ok (q22.1, q22.2))))))) else some (.error ("java/lang/IllegalStateException", h)))))))))))) else none
def f_X2_placesOf_J30 (h : PH) (x2 : Int32)  : Option Int32 :=
  some (x2)
def f_X2_placesOf_J24 (h : PH) (x0 : Nat) (x1 : Int32) (x2 : Int32) (x3 : Int32)  : Option ((Int32 × Int32) ⊕ (Int32)) :=
  some (.inl (x2, (x3 + 1)))
def f_X2_placesOf_L4 (h : PH) (x0 : Nat) (x1 : Int32) : Int32 × Int32 → Option ((Int32 × Int32) ⊕ (Int32)) := fun z4 =>
  ((rdI h x0 1 2).bind fun v2 => (if v2 ≤ (z4.2) then some (.inr (((z4.1)))) else ((f_X2_colourAt h (x0) ((z4.2))).bind fun v3 => (if ¬ v3 = x1 then (f_X2_placesOf_J24 h (x0) (x1) ((z4.1)) ((z4.2))) else (f_X2_placesOf_J24 h (x0) (x1) (((z4.1) + 1)) ((z4.2)))))))
def f_X2_placesOf (h : PH) (a0 : Nat) (a1 : Int32) : Option Int32 :=
  if okO h a0 1 = true then ((lpn (f_X2_placesOf_L4 (h) (a0) (a1)) LF ((0 : Int32), (0 : Int32))).bind (fun w4 => (f_X2_placesOf_J30 h (w4)))) else none
def f_X2_remove_J104 (hh : PH) (x3 : Int32)  : Option (Int32 × PH) :=
  some (x3, hh)
def f_X2_remove_J98 (hh : PH) (x0 : Nat) (x1 : Int32) (x3 : Int32) (x4 : Int32)  : Option ((Int32 × PH) ⊕ (PH)) :=
  some (.inl ((x4 + 1), hh))
def f_X2_remove_L72 (x0 : Nat) (x1 : Int32) (x3 : Int32) : Int32 × PH → Option ((Int32 × PH) ⊕ (PH)) := fun z72 =>
  ((rdI (z72.2) x0 1 2).bind fun v5 => (if v5 ≤ (z72.1) then some (.inr (((z72.2)))) else ((f_X2_colourAt (z72.2) (x0) ((z72.1))).bind fun v6 => (if ¬ v6 = x1 then (f_X2_remove_J98 (z72.2) (x0) (x1) (x3) ((z72.1))) else ((f_X2_setColour (z72.2) (x0) ((z72.1)) (((-1) : Int32))).bind fun h7 => (f_X2_remove_J98 h7 (x0) (x1) (x3) ((z72.1))))))))
def f_X2_remove_J53 (hh : PH) (x0 : Nat) (x1 : Int32)  : Option (Int32 × PH) :=
  ((rdI hh x0 1 3).bind fun v1 => ((wrF hh x0 1 3 (.int ((v1 - (1 : Int32))))).bind fun h2 => ((f_X2_placesOf h2 (x0) (x1)).bind fun v3 => ((lpn (f_X2_remove_L72 (x0) (x1) (v3)) LF ((0 : Int32), h2)).bind (fun w72 => (f_X2_remove_J104 w72 (v3)))))))
def f_X2_remove_L16 (x0 : Nat) (x1 : Int32) : Int32 × PH → Option ((Int32 × PH) ⊕ (PH)) := fun z16 =>
  ((rdI (z16.2) x0 1 3).bind fun v10 => (if v10 ≤ (z16.1) then some (.inr (((z16.2)))) else ((rdR (z16.2) x0 1 1).bind fun v11 => ((lnA (z16.2) v11).bind fun v12 => (if v12 ≤ (z16.1) then some (.inr (((z16.2)))) else ((rdR (z16.2) x0 1 1).bind fun v13 => ((rdR (z16.2) x0 1 1).bind fun v14 => ((ldI (z16.2) v14 (z16.1)).bind fun v15 => ((stI (z16.2) v13 ((z16.1) - (1 : Int32)) v15).bind fun h16 => some (.inl (((z16.1) + 1), h16)))))))))))
def f_X2_remove (h : PH) (a0 : Nat) (a1 : Int32) : Option (Int32 × PH) :=
  if okO h a0 1 = true then ((f_X2_orderOf h (a0) (a1)).bind fun v8 => (if 0 ≤ v8 then ((lpn (f_X2_remove_L16 (a0) (a1)) LF ((v8 + (1 : Int32)), h)).bind (fun w16 => (f_X2_remove_J53 w16 (a0) (a1)))) else some ((0 : Int32), h))) else none
def f_X5_take (h : PH) (a0 : Nat) (a1 : Int32) (a2 : Int32) : Option (Except (String × PH) (Int32 × PH)) :=
  if okO h a0 4 = true then ((f_X5_existing h (a0) (a1)).bind fun r1 => (match r1 with | .error E4 => some (.error (E4, h)) | .ok v2 => ((f_X5_requireHue h (a0) (a2)).bind fun r5 => (match r5 with | .error E8 => some (.error (E8, h)) | .ok v6 => ((f_X2_orderOf h (v2) (a2)).bind fun v9 => (if ¬ v9 = ((-1) : Int32) then ((rdR h a0 4 2).bind fun v10 => ((rdR h a0 4 0).bind fun v11 => ((f_X0_save h (v10) (v11)).bind fun h12 => ((f_X2_remove h12 (v2) (a2)).bind fun q15 => some (.ok (q15.1, q15.2)))))) else some (.error ("java/lang/IllegalStateException", h)))))))) else none
def f_X2_length (h : PH) (a0 : Nat) : Option Int32 :=
  if okO h a0 1 = true then ((rdI h a0 1 2).bind fun v1 => some (v1)) else none
def f_X2_hueCount (h : PH) (a0 : Nat) : Option Int32 :=
  if okO h a0 1 = true then ((rdI h a0 1 3).bind fun v1 => some (v1)) else none
def f_X2_hueAt_J31 (h : PH)  (k0 : Int32) : Option Int32 :=
  some (k0)
def f_X2_hueAt_J30 (h : PH)   : Option Int32 :=
  (f_X2_hueAt_J31 h (((-1) : Int32)))
def f_X2_hueAt (h : PH) (a0 : Nat) (a1 : Int32) : Option Int32 :=
  if okO h a0 1 = true then (if a1 < 0 then (f_X2_hueAt_J30 h ) else ((rdI h a0 1 3).bind fun v1 => (if v1 ≤ a1 then (f_X2_hueAt_J30 h ) else ((rdR h a0 1 1).bind fun v2 => ((lnA h v2).bind fun v3 => (if v3 ≤ a1 then (f_X2_hueAt_J30 h ) else ((rdR h a0 1 1).bind fun v4 => ((ldI h v4 a1).bind fun v5 => (f_X2_hueAt_J31 h (v5)))))))))) else none
def f_X2_firstFrom_J19 (h : PH) (x3 : Int32)  : Option Int32 :=
  some (x3)
def f_X2_firstFrom_J27 (h : PH)   : Option Int32 :=
  some (((-1) : Int32))
def f_X2_firstFrom_L2 (h : PH) (x0 : Nat) (x1 : Int32) : Int32 → Option ((Int32) ⊕ (((Unit) ⊕ (Int32)))) := fun z2 =>
  ((rdI h x0 1 2).bind fun v2 => (if v2 ≤ z2 then some (.inr (.inl ())) else ((f_X2_colourAt h (x0) (z2)).bind fun v3 => (if ¬ v3 = x1 then some (.inl ((z2 + 1))) else some (.inr (.inr ((z2))))))))
def f_X2_firstFrom (h : PH) (a0 : Nat) (a1 : Int32) (a2 : Int32) : Option Int32 :=
  if okO h a0 1 = true then ((lpn (f_X2_firstFrom_L2 (h) (a0) (a1)) LF (a2)).bind (fun w2 => match w2 with | .inl w2 => (f_X2_firstFrom_J27 h ) | .inr w2 => (f_X2_firstFrom_J19 h (w2)))) else none
def f_X1_remainder_J11 (h : PH)  (k0 : Int32) : Option Int32 :=
  some (k0)
def f_X1_remainder (h : PH) (a0 : Int32) (a1 : Int32) : Option Int32 :=
  (if a1 ≤ 0 then (f_X1_remainder_J11 h ((0 : Int32))) else (if ¬ a1 = 0 then (f_X1_remainder_J11 h ((a0 - a0 / a1 * a1))) else none))
def f_X5_huesDueAt_J55 (h : PH) (x3 : Int32)  : Option Int32 :=
  some (x3)
def f_X5_huesDueAt_J49 (h : PH) (x0 : Nat) (x1 : Nat) (x2 : Int32) (x3 : Int32) (x4 : Int32)  : Option ((Int32 × Int32) ⊕ (Int32)) :=
  some (.inl (x3, (x4 + 1)))
def f_X5_huesDueAt_L5 (h : PH) (x0 : Nat) (x1 : Nat) (x2 : Int32) : Int32 × Int32 → Option ((Int32 × Int32) ⊕ (Int32)) := fun z5 =>
  ((f_X2_hueCount h (x1)).bind fun v2 => (if v2 ≤ (z5.2) then some (.inr (((z5.1)))) else ((f_X2_hueAt h (x1) ((z5.2))).bind fun v3 => ((f_X2_firstFrom h (x1) (v3) ((0 : Int32))).bind fun v4 => ((rdR h x0 4 0).bind fun v5 => ((f_X3_gapAt h (v5) (v3)).bind fun v6 => ((f_X1_remainder h ((x2 - v4)) (v6)).bind fun v7 => (if ¬ v7 = 0 then (f_X5_huesDueAt_J49 h (x0) (x1) (x2) ((z5.1)) ((z5.2))) else (f_X5_huesDueAt_J49 h (x0) (x1) (x2) (((z5.1) + 1)) ((z5.2)))))))))))
def f_X5_huesDueAt (h : PH) (a0 : Nat) (a1 : Nat) (a2 : Int32) : Option Int32 :=
  if okO h a0 4 = true then ((lpn (f_X5_huesDueAt_L5 (h) (a0) (a1) (a2)) LF ((0 : Int32), (0 : Int32))).bind (fun w5 => (f_X5_huesDueAt_J55 h (w5)))) else none
def f_X5_greatestLength_J21 (h : PH) (x2 : Int32)  : Option Int32 :=
  some (x2)
def f_X5_greatestLength_J29 (h : PH)   : Option Int32 :=
  some ((60 : Int32))
def f_X5_greatestLength_L5 (h : PH) (x0 : Nat) (x1 : Nat) : Int32 → Option ((Int32) ⊕ (((Unit) ⊕ (Int32)))) := fun z5 =>
  (if (60 : Int32) ≤ z5 then some (.inr (.inl ())) else ((f_X5_huesDueAt h (x0) (x1) (z5)).bind fun v3 => (if v3 ≤ (1 : Int32) then some (.inl ((z5 + 1))) else some (.inr (.inr ((z5)))))))
def f_X5_greatestLength (h : PH) (a0 : Nat) (a1 : Nat) : Option Int32 :=
  if okO h a0 4 = true then ((f_X2_length h (a1)).bind fun v1 => ((lpn (f_X5_greatestLength_L5 (h) (a0) (a1)) LF (v1)).bind (fun w5 => match w5 with | .inl w5 => (f_X5_greatestLength_J29 h ) | .inr w5 => (f_X5_greatestLength_J21 h (w5))))) else none
def f_X5_changeLength_J57 (hh : PH) (x0 : Nat) (x1 : Nat)  : Option PH :=
  ((rdR hh x0 4 4).bind fun v1 => ((f_X2_copyFrom hh (x1) (v1)).bind fun h2 => some h2))
def f_X5_changeLength_L10 (x0 : Nat) (x1 : Nat) : Int32 × PH → Option ((Int32 × PH) ⊕ (PH)) := fun z10 =>
  ((f_X2_hueCount (z10.2) (x1)).bind fun v6 => (if v6 ≤ (z10.1) then some (.inr (((z10.2)))) else ((f_X2_hueAt (z10.2) (x1) ((z10.1))).bind fun v7 => ((rdR (z10.2) x0 4 4).bind fun v8 => ((f_X2_firstFrom (z10.2) (x1) (v7) ((0 : Int32))).bind fun v9 => ((rdR (z10.2) x0 4 0).bind fun v10 => ((f_X3_gapAt (z10.2) (v10) (v7)).bind fun v11 => ((f_X2_put (z10.2) (v8) (v7) (v9) (v11)).bind fun q14 => some (.inl (((z10.1) + 1), q14.2))))))))))
def f_X5_changeLength (h : PH) (a0 : Nat) (a1 : Nat) (a2 : Int32) : Option PH :=
  if okO h a0 4 = true then ((rdR h a0 4 4).bind fun v3 => ((f_X2_begin h (v3) (a2)).bind fun h4 => ((lpn (f_X5_changeLength_L10 (a0) (a1)) LF ((0 : Int32), h4)).bind (fun w10 => (f_X5_changeLength_J57 w10 (a0) (a1)))))) else none
def f_X5_stretch (h : PH) (a0 : Nat) (a1 : Int32) (a2 : Int32) : Option (Except (String × PH) (Int32 × PH)) :=
  if okO h a0 4 = true then ((f_X5_existing h (a0) (a1)).bind fun r1 => (match r1 with | .error E4 => some (.error (E4, h)) | .ok v2 => ((f_X5_requireLength h (a0) (a2)).bind fun r5 => (match r5 with | .error E8 => some (.error (E8, h)) | .ok v6 => ((f_X5_greatestLength h (a0) (v2)).bind fun v9 => (if a2 ≤ v9 then ((rdR h a0 4 2).bind fun v10 => ((rdR h a0 4 0).bind fun v11 => ((f_X0_save h (v10) (v11)).bind fun h12 => ((f_X2_hueCount h12 (v2)).bind fun v13 => ((f_X5_changeLength h12 (a0) (v2) (a2)).bind fun h14 => ((f_X2_hueCount h14 (v2)).bind fun v15 => some (.ok ((v13 - v15), h14)))))))) else some (.error ("java/lang/IllegalStateException", h)))))))) else none
def f_X5_layBack_J61 (hh : PH)   : Option PH :=
  some hh
def f_X5_layBack_J55 (hh : PH) (x0 : Nat) (x1 : Nat) (x2 : Int32) (x3 : Nat) (x4 : Int32)  : Option ((Int32 × PH) ⊕ (PH)) :=
  some (.inl ((x4 + 1), hh))
def f_X5_layBack_L3 (x0 : Nat) (x1 : Nat) (x2 : Int32) (x3 : Nat) : Int32 × PH → Option ((Int32 × PH) ⊕ (PH)) := fun z3 =>
  ((f_X2_hueCount (z3.2) (x1)).bind fun v2 => (if v2 ≤ (z3.1) then some (.inr (((z3.2)))) else ((f_X2_hueAt (z3.2) (x1) ((z3.1))).bind fun v3 => ((f_X2_firstFrom (z3.2) (x1) (v3) (x2)).bind fun v4 => (if v4 = ((-1) : Int32) then (f_X5_layBack_J55 (z3.2) (x0) (x1) (x2) (x3) ((z3.1))) else ((rdR (z3.2) x0 4 0).bind fun v5 => ((f_X3_gapAt (z3.2) (v5) (v3)).bind fun v6 => ((f_X2_put (z3.2) (x3) (v3) ((v4 - x2)) (v6)).bind fun q9 => (f_X5_layBack_J55 q9.2 (x0) (x1) (x2) (x3) ((z3.1)))))))))))
def f_X5_layBack (h : PH) (a0 : Nat) (a1 : Nat) (a2 : Int32) (a3 : Nat) : Option PH :=
  if okO h a0 4 = true then ((lpn (f_X5_layBack_L3 (a0) (a1) (a2) (a3)) LF ((0 : Int32), h)).bind (fun w3 => (f_X5_layBack_J61 w3 ))) else none
def f_X3_countCut (h : PH) (a0 : Nat) : Option PH :=
  if okO h a0 2 = true then ((rdI h a0 2 5).bind fun v1 => ((wrF h a0 2 5 (.int ((v1 + (1 : Int32))))).bind fun h2 => some h2)) else none
def f_X5_cut_J21 (h : PH)   : Option (Except (String × PH) (Int32 × PH)) :=
  some (.error ("java/lang/IllegalArgumentException", h))
def f_X5_cut_J74 (hh : PH) (x0 : Nat) (x2 : Int32) (x3 : Nat)  : Option (Except (String × PH) (Int32 × PH)) :=
  ((f_X5_changeLength hh (x0) (x3) (x2)).bind fun h1 => ((rdR h1 x0 4 0).bind fun v2 => ((f_X3_countCut h1 (v2)).bind fun h3 => ((rdR h3 x0 4 0).bind fun v4 => ((f_X3_ropeCount h3 (v4)).bind fun v5 => some (.ok ((v5 - (1 : Int32)), h3)))))))
def f_X5_cut (h : PH) (a0 : Nat) (a1 : Int32) (a2 : Int32) : Option (Except (String × PH) (Int32 × PH)) :=
  if okO h a0 4 = true then ((f_X5_existing h (a0) (a1)).bind fun r6 => (match r6 with | .error E9 => some (.error (E9, h)) | .ok v7 => (if a2 < (1 : Int32) then (f_X5_cut_J21 h ) else ((f_X2_length h (v7)).bind fun v10 => (if a2 ≤ (v10 - (1 : Int32)) then ((f_X5_requireRoomForRope h (a0)).bind fun r11 => (match r11 with | .error E14 => some (.error (E14, h)) | .ok v12 => ((rdR h a0 4 2).bind fun v15 => ((rdR h a0 4 0).bind fun v16 => ((f_X0_save h (v15) (v16)).bind fun h17 => ((rdR h17 a0 4 0).bind fun v18 => ((f_X2_length h17 (v7)).bind fun v19 => ((f_X3_addRope h17 (v18) ((v19 - a2))).bind fun q22 => (match q22.1 with | none => (f_X5_cut_J74 q22.2 (a0) (a2) (v7)) | some a23 => ((f_X5_layBack q22.2 (a0) (v7) (a2) (a23)).bind fun h24 => (f_X5_cut_J74 h24 (a0) (a2) (v7)))))))))))) else (f_X5_cut_J21 h )))))) else none
def f_X2_lastOf_J20 (h : PH) (x2 : Int32)  : Option Int32 :=
  some (x2)
def f_X2_lastOf_J28 (h : PH)   : Option Int32 :=
  some (((-1) : Int32))
def f_X2_lastOf_L7 (h : PH) (x0 : Nat) (x1 : Int32) : Int32 → Option ((Int32) ⊕ (((Unit) ⊕ (Int32)))) := fun z7 =>
  (if z7 < 0 then some (.inr (.inl ())) else ((f_X2_colourAt h (x0) (z7)).bind fun v3 => (if ¬ v3 = x1 then some (.inl ((z7 + (-1)))) else some (.inr (.inr ((z7)))))))
def f_X2_lastOf (h : PH) (a0 : Nat) (a1 : Int32) : Option Int32 :=
  if okO h a0 1 = true then ((rdI h a0 1 2).bind fun v1 => ((lpn (f_X2_lastOf_L7 (h) (a0) (a1)) LF ((v1 - (1 : Int32)))).bind (fun w7 => match w7 with | .inl w7 => (f_X2_lastOf_J28 h ) | .inr w7 => (f_X2_lastOf_J20 h (w7))))) else none
def f_X2_differences_J34 (h : PH) (x2 : Int32)  : Option Int32 :=
  some (x2)
def f_X2_differences_J28 (h : PH) (x0 : Nat) (x1 : Nat) (x2 : Int32) (x3 : Int32)  : Option ((Int32 × Int32) ⊕ (Int32)) :=
  some (.inl (x2, (x3 + 1)))
def f_X2_differences_L4 (h : PH) (x0 : Nat) (x1 : Nat) : Int32 × Int32 → Option ((Int32 × Int32) ⊕ (Int32)) := fun z4 =>
  ((rdI h x0 1 2).bind fun v2 => (if v2 ≤ (z4.2) then some (.inr (((z4.1)))) else ((f_X2_colourAt h (x0) ((z4.2))).bind fun v3 => ((f_X2_colourAt h (x1) ((z4.2))).bind fun v4 => (if v3 = v4 then (f_X2_differences_J28 h (x0) (x1) ((z4.1)) ((z4.2))) else (f_X2_differences_J28 h (x0) (x1) (((z4.1) + 1)) ((z4.2))))))))
def f_X2_differences (h : PH) (a0 : Nat) (a1 : Nat) : Option Int32 :=
  if okO h a0 1 = true then ((lpn (f_X2_differences_L4 (h) (a0) (a1)) LF ((0 : Int32), (0 : Int32))).bind (fun w4 => (f_X2_differences_J34 h (w4)))) else none
def f_X5_turnRound_J62 (hh : PH) (x0 : Nat) (x1 : Nat)  : Option (Int32 × PH) :=
  ((rdR hh x0 4 4).bind fun v1 => ((f_X2_differences hh (x1) (v1)).bind fun v2 => ((rdR hh x0 4 4).bind fun v3 => ((f_X2_copyFrom hh (x1) (v3)).bind fun h4 => some (v2, h4)))))
def f_X5_turnRound_L13 (x0 : Nat) (x1 : Nat) : Int32 × PH → Option ((Int32 × PH) ⊕ (PH)) := fun z13 =>
  ((f_X2_hueCount (z13.2) (x1)).bind fun v9 => (if v9 ≤ (z13.1) then some (.inr (((z13.2)))) else ((f_X2_hueAt (z13.2) (x1) ((z13.1))).bind fun v10 => ((rdR (z13.2) x0 4 4).bind fun v11 => ((f_X2_length (z13.2) (x1)).bind fun v12 => ((f_X2_lastOf (z13.2) (x1) (v10)).bind fun v13 => ((rdR (z13.2) x0 4 0).bind fun v14 => ((f_X3_gapAt (z13.2) (v14) (v10)).bind fun v15 => ((f_X2_put (z13.2) (v11) (v10) (((v12 - (1 : Int32)) - v13)) (v15)).bind fun q18 => some (.inl (((z13.1) + 1), q18.2)))))))))))
def f_X5_turnRound (h : PH) (a0 : Nat) (a1 : Nat) : Option (Int32 × PH) :=
  if okO h a0 4 = true then ((rdR h a0 4 4).bind fun v5 => ((f_X2_length h (a1)).bind fun v6 => ((f_X2_begin h (v5) (v6)).bind fun h7 => ((lpn (f_X5_turnRound_L13 (a0) (a1)) LF ((0 : Int32), h7)).bind (fun w13 => (f_X5_turnRound_J62 w13 (a0) (a1))))))) else none
def f_X5_turn (h : PH) (a0 : Nat) (a1 : Int32) : Option (Except (String × PH) (Int32 × PH)) :=
  if okO h a0 4 = true then ((f_X5_existing h (a0) (a1)).bind fun r1 => (match r1 with | .error E4 => some (.error (E4, h)) | .ok v2 => ((rdR h a0 4 2).bind fun v5 => ((rdR h a0 4 0).bind fun v6 => ((f_X0_save h (v5) (v6)).bind fun h7 => ((f_X5_turnRound h7 (a0) (v2)).bind fun q10 => some (.ok (q10.1, q10.2)))))))) else none
def f_X5_draftLaid (h : PH) (a0 : Nat) (a1 : Int32) (a2 : Int32) : Option (Int32 × PH) :=
  if okO h a0 4 = true then ((rdR h a0 4 0).bind fun v1 => ((f_X3_gapAt h (v1) (a1)).bind fun v2 => ((rdR h a0 4 4).bind fun v3 => ((f_X2_reasonAgainst h (v3) (a1) (a2) (v2)).bind fun v4 => (if v4 = 0 then ((rdR h a0 4 4).bind fun v5 => ((f_X2_put h (v5) (a1) (a2) (v2)).bind fun q8 => some ((1 : Int32), q8.2))) else some ((0 : Int32), h)))))) else none
def f_X5_draftJoined_J153 (hh : PH) (x3 : Int32)  : Option (Int32 × PH) :=
  (if z01 x3 = true then some (x3, hh) else none)
def f_X5_draftJoined_J147 (hh : PH) (x0 : Nat) (x1 : Nat) (x2 : Nat) (x3 : Int32) (x4 : Int32)  : Option ((Int32 × Int32 × PH) ⊕ (Int32 × PH)) :=
  some (.inl (x3, (x4 + 1), hh))
def f_X5_draftJoined_J146 (hh : PH) (x0 : Nat) (x1 : Nat) (x2 : Nat) (x4 : Int32) (k0 : Int32) : Option ((Int32 × Int32 × PH) ⊕ (Int32 × PH)) :=
  (f_X5_draftJoined_J147 hh (x0) (x1) (x2) (k0) (x4))
def f_X5_draftJoined_J145 (hh : PH) (x0 : Nat) (x1 : Nat) (x2 : Nat) (x4 : Int32)  : Option ((Int32 × Int32 × PH) ⊕ (Int32 × PH)) :=
  (f_X5_draftJoined_J146 hh (x0) (x1) (x2) (x4) ((0 : Int32)))
def f_X5_draftJoined_L73 (x0 : Nat) (x1 : Nat) (x2 : Nat) : Int32 × Int32 × PH → Option ((Int32 × Int32 × PH) ⊕ (Int32 × PH)) := fun z73 =>
  ((f_X2_hueCount (z73.2.2) (x2)).bind fun v3 => (if v3 ≤ (z73.2.1) then some (.inr (((z73.1), (z73.2.2)))) else ((f_X2_hueAt (z73.2.2) (x2) ((z73.2.1))).bind fun v4 => ((f_X2_orderOf (z73.2.2) (x1) (v4)).bind fun v5 => (if ¬ v5 = ((-1) : Int32) then (f_X5_draftJoined_J147 (z73.2.2) (x0) (x1) (x2) ((z73.1)) ((z73.2.1))) else ((f_X2_length (z73.2.2) (x1)).bind fun v6 => ((f_X2_firstFrom (z73.2.2) (x2) (v4) ((0 : Int32))).bind fun v7 => ((rdR (z73.2.2) x0 4 0).bind fun v8 => ((f_X3_gapAt (z73.2.2) (v8) (v4)).bind fun v9 => ((f_X1_remainder (z73.2.2) ((v6 + v7)) (v9)).bind fun v10 => ((f_X5_draftLaid (z73.2.2) (x0) (v4) (v10)).bind fun q13 => (if q13.1 = 0 then (f_X5_draftJoined_J145 q13.2 (x0) (x1) (x2) ((z73.2.1))) else (if (z73.1) = 0 then (f_X5_draftJoined_J145 q13.2 (x0) (x1) (x2) ((z73.2.1))) else (f_X5_draftJoined_J146 q13.2 (x0) (x1) (x2) ((z73.2.1)) ((1 : Int32))))))))))))))))
def f_X5_draftJoined_J70 (hh : PH) (x0 : Nat) (x1 : Nat) (x2 : Nat) (x3 : Int32)  : Option (Int32 × PH) :=
  ((lpn (f_X5_draftJoined_L73 (x0) (x1) (x2)) LF (x3, (0 : Int32), hh)).bind (fun w73 => (f_X5_draftJoined_J153 (w73.2) (w73.1))))
def f_X5_draftJoined_J63 (hh : PH) (x0 : Nat) (x1 : Nat) (x2 : Nat) (x4 : Int32) (k0 : Int32) : Option ((Int32 × Int32 × PH) ⊕ (Int32 × PH)) :=
  some (.inl (k0, (x4 + 1), hh))
def f_X5_draftJoined_J62 (hh : PH) (x0 : Nat) (x1 : Nat) (x2 : Nat) (x4 : Int32)  : Option ((Int32 × Int32 × PH) ⊕ (Int32 × PH)) :=
  (f_X5_draftJoined_J63 hh (x0) (x1) (x2) (x4) ((0 : Int32)))
def f_X5_draftJoined_L21 (x0 : Nat) (x1 : Nat) (x2 : Nat) : Int32 × Int32 × PH → Option ((Int32 × Int32 × PH) ⊕ (Int32 × PH)) := fun z21 =>
  ((f_X2_hueCount (z21.2.2) (x1)).bind fun v19 => (if v19 ≤ (z21.2.1) then some (.inr (((z21.1), (z21.2.2)))) else ((f_X2_hueAt (z21.2.2) (x1) ((z21.2.1))).bind fun v20 => ((f_X2_firstFrom (z21.2.2) (x1) (v20) ((0 : Int32))).bind fun v21 => ((f_X5_draftLaid (z21.2.2) (x0) (v20) (v21)).bind fun q24 => (if q24.1 = 0 then (f_X5_draftJoined_J62 q24.2 (x0) (x1) (x2) ((z21.2.1))) else (if (z21.1) = 0 then (f_X5_draftJoined_J62 q24.2 (x0) (x1) (x2) ((z21.2.1))) else (f_X5_draftJoined_J63 q24.2 (x0) (x1) (x2) ((z21.2.1)) ((1 : Int32))))))))))
def f_X5_draftJoined (h : PH) (a0 : Nat) (a1 : Nat) (a2 : Nat) : Option (Int32 × PH) :=
  if okO h a0 4 = true then ((rdR h a0 4 4).bind fun v14 => ((f_X2_length h (a1)).bind fun v15 => ((f_X2_length h (a2)).bind fun v16 => ((f_X2_begin h (v14) ((v15 + v16))).bind fun h17 => ((lpn (f_X5_draftJoined_L21 (a0) (a1) (a2)) LF ((1 : Int32), (0 : Int32), h17)).bind (fun w21 => (f_X5_draftJoined_J70 (w21.2) (a0) (a1) (a2) (w21.1)))))))) else none
def f_X5_reasonAgainstJoining_J78 (h : PH)   : Option (Int32 × PH) :=
  some ((3 : Int32), h)
def f_X5_reasonAgainstJoining_J100 (hh : PH)  (k0 : Int32) : Option (Int32 × PH) :=
  some (k0, hh)
def f_X5_reasonAgainstJoining_J86 (h : PH) (x0 : Nat) (x1 : Nat) (x2 : Nat)  : Option (Int32 × PH) :=
  ((f_X5_draftJoined h (x0) (x1) (x2)).bind fun q3 => (if q3.1 = 0 then (f_X5_reasonAgainstJoining_J100 q3.2 ((4 : Int32))) else (f_X5_reasonAgainstJoining_J100 q3.2 ((0 : Int32)))))
def f_X5_reasonAgainstJoining_J80 (h : PH) (x0 : Nat) (x1 : Nat) (x2 : Nat) (x3 : Int32)  : Option ((Int32) ⊕ (((Unit) ⊕ (Unit)))) :=
  some (.inl ((x3 + 1)))
def f_X5_reasonAgainstJoining_L18 (hh : PH) (x0 : Nat) (x1 : Nat) (x2 : Nat) : Int32 → Option ((Int32) ⊕ (((Unit) ⊕ (Unit)))) := fun z18 =>
  ((f_X2_hueCount hh (x1)).bind fun v7 => (if v7 ≤ z18 then some (.inr (.inl ())) else ((f_X2_hueAt hh (x1) (z18)).bind fun v8 => ((f_X2_lastOf hh (x1) (v8)).bind fun v9 => ((rdR hh x0 4 0).bind fun v10 => ((f_X3_gapAt hh (v10) (v8)).bind fun v11 => ((f_X2_orderOf hh (x2) (v8)).bind fun v12 => (if v12 = ((-1) : Int32) then (f_X5_reasonAgainstJoining_J80 hh (x0) (x1) (x2) (z18)) else ((f_X2_length hh (x1)).bind fun v13 => ((f_X2_firstFrom hh (x2) (v8) ((0 : Int32))).bind fun v14 => (if (v9 + v11) = (v13 + v14) then (f_X5_reasonAgainstJoining_J80 hh (x0) (x1) (x2) (z18)) else some (.inr (.inr (()))))))))))))))
def f_X5_reasonAgainstJoining (h : PH) (a0 : Nat) (a1 : Nat) (a2 : Nat) : Option (Int32 × PH) :=
  if okO h a0 4 = true then ((f_X2_length h (a1)).bind fun v4 => ((f_X2_length h (a2)).bind fun v5 => (if (v4 + v5) ≤ (60 : Int32) then ((lpn (f_X5_reasonAgainstJoining_L18 (h) (a0) (a1) (a2)) LF ((0 : Int32))).bind (fun w18 => match w18 with | .inl w18 => (f_X5_reasonAgainstJoining_J86 h (a0) (a1) (a2)) | .inr w18 => (f_X5_reasonAgainstJoining_J78 h ))) else some ((2 : Int32), h)))) else none
def f_X3_countJoin (h : PH) (a0 : Nat) : Option PH :=
  if okO h a0 2 = true then ((rdI h a0 2 4).bind fun v1 => ((wrF h a0 2 4 (.int ((v1 + (1 : Int32))))).bind fun h2 => some h2)) else none
def f_X5_join_J28 (hh : PH)   : Option (Except (String × PH) (Int32 × PH)) :=
  some (.error ("java/lang/IllegalStateException", hh))
def f_X5_join (h : PH) (a0 : Nat) (a1 : Int32) (a2 : Int32) : Option (Except (String × PH) (Int32 × PH)) :=
  if okO h a0 4 = true then ((f_X5_existing h (a0) (a1)).bind fun r1 => (match r1 with | .error E4 => some (.error (E4, h)) | .ok v2 => ((f_X5_existing h (a0) (a2)).bind fun r5 => (match r5 with | .error E8 => some (.error (E8, h)) | .ok v6 => (if a1 = a2 then (f_X5_join_J28 h ) else ((f_X5_reasonAgainstJoining h (a0) (v2) (v6)).bind fun q11 => (if q11.1 = 0 then ((rdR q11.2 a0 4 2).bind fun v12 => ((rdR q11.2 a0 4 0).bind fun v13 => ((f_X0_save q11.2 (v12) (v13)).bind fun h14 => ((f_X5_draftJoined h14 (a0) (v2) (v6)).bind fun q17 => ((rdR q17.2 a0 4 4).bind fun v18 => ((f_X2_copyFrom q17.2 (v2) (v18)).bind fun h19 => ((rdR h19 a0 4 0).bind fun v20 => ((f_X3_removeRope h19 (v20) (a2)).bind fun h21 => ((rdR h21 a0 4 0).bind fun v22 => ((f_X3_countJoin h21 (v22)).bind fun h23 => ((f_X2_length h23 (v2)).bind fun v24 => some (.ok (v24, h23))))))))))))) else (f_X5_join_J28 q11.2 )))))))) else none
def f_X0_size (h : PH) (a0 : Nat) : Option Int32 :=
  if okO h a0 0 = true then ((rdI h a0 0 1).bind fun v1 => some (v1)) else none
def f_X0_restoreLatest_J30 (hh : PH)   : Option PH :=
  some hh
def f_X0_restoreLatest (h : PH) (a0 : Nat) (a1 : Nat) : Option PH :=
  if okO h a0 0 = true then ((rdI h a0 0 1).bind fun v1 => ((f_X0_rowAt h (a0) ((v1 - (1 : Int32)))).bind fun v2 => (match v2 with | none => (f_X0_restoreLatest_J30 h ) | some a3 => ((f_X3_copyFrom h (a1) (a3)).bind fun h4 => ((rdI h4 a0 0 1).bind fun v5 => ((wrF h4 a0 0 1 (.int ((v5 - (1 : Int32))))).bind fun h6 => (f_X0_restoreLatest_J30 h6 ))))))) else none
def f_X5_undo (h : PH) (a0 : Nat) : Option (Except (String × PH) (Int32 × PH)) :=
  if okO h a0 4 = true then ((rdR h a0 4 2).bind fun v1 => ((f_X0_size h (v1)).bind fun v2 => (if ¬ v2 = 0 then ((rdR h a0 4 2).bind fun v3 => ((rdR h a0 4 0).bind fun v4 => ((f_X0_restoreLatest h (v3) (v4)).bind fun h5 => ((rdR h5 a0 4 2).bind fun v6 => ((f_X0_size h5 (v6)).bind fun v7 => some (.ok (v7, h5))))))) else some (.error ("java/lang/IllegalStateException", h))))) else none
def f_X5_keep (h : PH) (a0 : Nat) : Option (Int32 × PH) :=
  if okO h a0 4 = true then ((rdR h a0 4 1).bind fun v1 => ((rdR h a0 4 0).bind fun v2 => ((f_X3_copyFrom h (v1) (v2)).bind fun h3 => ((wrF h3 a0 4 5 (.int ((1 : Int32)))).bind fun h4 => ((rdR h4 a0 4 0).bind fun v5 => ((f_X3_ropeCount h4 (v5)).bind fun v6 => some (v6, h4))))))) else none
def f_X5_restore (h : PH) (a0 : Nat) : Option (Except (String × PH) (Int32 × PH)) :=
  if okO h a0 4 = true then ((rdI h a0 4 5).bind fun v1 => (if ¬ v1 = 0 then ((rdR h a0 4 2).bind fun v2 => ((rdR h a0 4 0).bind fun v3 => ((f_X0_save h (v2) (v3)).bind fun h4 => ((rdR h4 a0 4 0).bind fun v5 => ((rdR h4 a0 4 1).bind fun v6 => ((f_X3_copyFrom h4 (v5) (v6)).bind fun h7 => ((rdR h7 a0 4 0).bind fun v8 => ((f_X3_ropeCount h7 (v8)).bind fun v9 => some (.ok (v9, h7)))))))))) else some (.error ("java/lang/IllegalStateException", h)))) else none
def f_X5_place_J18 (h : PH)   : Option (Except String Int32) :=
  some (.error "java/lang/IndexOutOfBoundsException")
def f_X5_place (h : PH) (a0 : Nat) (a1 : Int32) (a2 : Int32) : Option (Except String Int32) :=
  if okO h a0 4 = true then ((f_X5_existing h (a0) (a1)).bind fun r1 => (match r1 with | .error E4 => some (.error E4) | .ok v2 => (if a2 < 0 then (f_X5_place_J18 h ) else ((f_X2_length h (v2)).bind fun v5 => (if a2 < v5 then ((f_X2_colourAt h (v2) (a2)).bind fun v6 => some (.ok (v6))) else (f_X5_place_J18 h )))))) else none
def f_X5_requireWhat_J9 (h : PH)   : Option (Except String Unit) :=
  some (.error "java/lang/IllegalArgumentException")
def f_X5_requireWhat (h : PH) (a0 : Nat) (a1 : Int32) (a2 : Int32) : Option (Except String Unit) :=
  if okO h a0 4 = true then (if a1 < 0 then (f_X5_requireWhat_J9 h ) else (if a1 < a2 then some (.ok ()) else (f_X5_requireWhat_J9 h ))) else none
def f_X2_mostHolesSideBySide_J43 (h : PH) (x1 : Int32)  : Option Int32 :=
  some (x1)
def f_X2_mostHolesSideBySide_J30 (h : PH) (x0 : Nat) (x1 : Int32) (x3 : Int32) (k0 : Int32) : Option ((Int32 × Int32 × Int32) ⊕ (Int32)) :=
  some (.inl ((if x1 < k0 then k0 else x1), k0, (x3 + 1)))
def f_X2_mostHolesSideBySide_L6 (h : PH) (x0 : Nat) : Int32 × Int32 × Int32 → Option ((Int32 × Int32 × Int32) ⊕ (Int32)) := fun z6 =>
  ((rdI h x0 1 2).bind fun v2 => (if v2 ≤ (z6.2.2) then some (.inr (((z6.1)))) else ((f_X2_colourAt h (x0) ((z6.2.2))).bind fun v3 => (if ¬ v3 = ((-1) : Int32) then (f_X2_mostHolesSideBySide_J30 h (x0) ((z6.1)) ((z6.2.2)) ((0 : Int32))) else (f_X2_mostHolesSideBySide_J30 h (x0) ((z6.1)) ((z6.2.2)) (((z6.2.1) + (1 : Int32))))))))
def f_X2_mostHolesSideBySide (h : PH) (a0 : Nat) : Option Int32 :=
  if okO h a0 1 = true then ((lpn (f_X2_mostHolesSideBySide_L6 (h) (a0)) LF ((0 : Int32), (0 : Int32), (0 : Int32))).bind (fun w6 => (f_X2_mostHolesSideBySide_J43 h (w6)))) else none
def f_X1_greatestCommonDivisor_J34 (h : PH) (x2 : Int32)  : Option Int32 :=
  some (x2)
def f_X1_greatestCommonDivisor_L7 (h : PH)  : Int32 × Int32 × Int32 → Option ((Int32 × Int32 × Int32) ⊕ (Int32)) := fun z7 =>
  (if (64 : Int32) ≤ (z7.2.2) then some (.inr (((z7.1)))) else (if (z7.2.1) ≤ 0 then some (.inr (((z7.1)))) else (if ¬ (z7.2.1) = 0 then some (.inl ((z7.2.1), ((z7.1) - (z7.1) / (z7.2.1) * (z7.2.1)), ((z7.2.2) + 1))) else none)))
def f_X1_greatestCommonDivisor (h : PH) (a0 : Int32) (a1 : Int32) : Option Int32 :=
  ((lpn (f_X1_greatestCommonDivisor_L7 (h)) LF (a0, a1, (0 : Int32))).bind (fun w7 => (f_X1_greatestCommonDivisor_J34 h (w7))))
def f_X1_leastCommonMultiple_J19 (h : PH)  (k0 : Int32) : Option Int32 :=
  some (k0)
def f_X1_leastCommonMultiple (h : PH) (a0 : Int32) (a1 : Int32) : Option Int32 :=
  ((f_X1_greatestCommonDivisor h (a0) (a1)).bind fun v1 => (if v1 ≤ 0 then (f_X1_leastCommonMultiple_J19 h ((0 : Int32))) else (if ¬ v1 = 0 then (f_X1_leastCommonMultiple_J19 h (((a0 / v1) * a1))) else none)))
def f_X5_period_J35 (h : PH) (x2 : Int32)  : Option Int32 :=
  some (x2)
def f_X5_period_L4 (h : PH) (x0 : Nat) (x1 : Nat) : Int32 × Int32 → Option ((Int32 × Int32) ⊕ (Int32)) := fun z4 =>
  ((f_X2_hueCount h (x1)).bind fun v2 => (if v2 ≤ (z4.2) then some (.inr (((z4.1)))) else ((rdR h x0 4 0).bind fun v3 => ((f_X2_hueAt h (x1) ((z4.2))).bind fun v4 => ((f_X3_gapAt h (v3) (v4)).bind fun v5 => ((f_X1_leastCommonMultiple h ((z4.1)) (v5)).bind fun v6 => some (.inl (v6, ((z4.2) + 1)))))))))
def f_X5_period (h : PH) (a0 : Nat) (a1 : Nat) : Option Int32 :=
  if okO h a0 4 = true then ((lpn (f_X5_period_L4 (h) (a0) (a1)) LF ((1 : Int32), (0 : Int32))).bind (fun w4 => (f_X5_period_J35 h (w4)))) else none
def f_X5_ropeNumber (h : PH) (a0 : Nat) (a1 : Nat) (a2 : Int32) : Option Int32 :=
  if okO h a0 4 = true then (if a2 = 0 then ((f_X2_length h (a1)).bind fun v1 => some (v1)) else (if a2 = 1 then ((f_X2_hueCount h (a1)).bind fun v2 => some (v2)) else (if a2 = 2 then ((f_X2_placesOf h (a1) (((-1) : Int32))).bind fun v3 => some (v3)) else (if a2 = 3 then ((f_X2_firstFrom h (a1) (((-1) : Int32)) ((0 : Int32))).bind fun v4 => some (v4)) else (if a2 = 4 then ((f_X2_mostHolesSideBySide h (a1)).bind fun v5 => some (v5)) else ((f_X5_period h (a0) (a1)).bind fun v6 => some (v6))))))) else none
def f_X5_ropeOf (h : PH) (a0 : Nat) (a1 : Int32) (a2 : Int32) : Option (Except String Int32) :=
  if okO h a0 4 = true then ((f_X5_existing h (a0) (a1)).bind fun r1 => (match r1 with | .error E4 => some (.error E4) | .ok v2 => ((f_X5_requireWhat h (a0) (a2) ((6 : Int32))).bind fun r5 => (match r5 with | .error E8 => some (.error E8) | .ok v6 => ((f_X5_ropeNumber h (a0) (v2) (a2)).bind fun v9 => some (.ok (v9))))))) else none
def f_X2_hueNumber (h : PH) (a0 : Nat) (a1 : Int32) (a2 : Int32) : Option Int32 :=
  if okO h a0 1 = true then ((f_X2_orderOf h (a0) (a1)).bind fun v1 => (if ¬ v1 = ((-1) : Int32) then (if a2 = 0 then ((f_X2_firstFrom h (a0) (a1) ((0 : Int32))).bind fun v2 => some (v2)) else (if a2 = 1 then ((f_X2_placesOf h (a0) (a1)).bind fun v3 => some (v3)) else (if a2 = 2 then ((f_X2_lastOf h (a0) (a1)).bind fun v4 => some (v4)) else some (v1)))) else some (((-1) : Int32)))) else none
def f_X5_hueOf (h : PH) (a0 : Nat) (a1 : Int32) (a2 : Int32) (a3 : Int32) : Option (Except String Int32) :=
  if okO h a0 4 = true then ((f_X5_existing h (a0) (a1)).bind fun r1 => (match r1 with | .error E4 => some (.error E4) | .ok v2 => ((f_X5_requireHue h (a0) (a2)).bind fun r5 => (match r5 with | .error E8 => some (.error E8) | .ok v6 => ((f_X5_requireWhat h (a0) (a3) ((4 : Int32))).bind fun r9 => (match r9 with | .error E12 => some (.error E12) | .ok v10 => ((f_X2_hueNumber h (v2) (a2) (a3)).bind fun v13 => some (.ok (v13))))))))) else none
def f_X5_gapOf (h : PH) (a0 : Nat) (a1 : Int32) : Option (Except String Int32) :=
  if okO h a0 4 = true then ((f_X5_requireHue h (a0) (a1)).bind fun r1 => (match r1 with | .error E4 => some (.error E4) | .ok v2 => ((rdR h a0 4 0).bind fun v5 => ((f_X3_gapAt h (v5) (a1)).bind fun v6 => some (.ok (v6)))))) else none
def f_X3_places_J39 (h : PH) (x1 : Int32)  : Option Int32 :=
  some (x1)
def f_X3_places_J31 (h : PH) (x0 : Nat) (x2 : Int32) (k0 : Int32) (k1 : Int32) : Option ((Int32 × Int32) ⊕ (Int32)) :=
  some (.inl ((k0 + k1), (x2 + 1)))
def f_X3_places_L4 (h : PH) (x0 : Nat) : Int32 × Int32 → Option ((Int32 × Int32) ⊕ (Int32)) := fun z4 =>
  ((rdI h x0 2 2).bind fun v2 => (if v2 ≤ (z4.2) then some (.inr (((z4.1)))) else ((f_X3_ropeAt h (x0) ((z4.2))).bind fun v3 => (match v3 with | none => (f_X3_places_J31 h (x0) ((z4.2)) ((z4.1)) ((0 : Int32))) | some a4 => ((f_X2_length h (a4)).bind fun v5 => (f_X3_places_J31 h (x0) ((z4.2)) ((z4.1)) (v5)))))))
def f_X3_places (h : PH) (a0 : Nat) : Option Int32 :=
  if okO h a0 2 = true then ((lpn (f_X3_places_L4 (h) (a0)) LF ((0 : Int32), (0 : Int32))).bind (fun w4 => (f_X3_places_J39 h (w4)))) else none
def f_X3_holes_J40 (h : PH) (x1 : Int32)  : Option Int32 :=
  some (x1)
def f_X3_holes_J32 (h : PH) (x0 : Nat) (x2 : Int32) (k0 : Int32) (k1 : Int32) : Option ((Int32 × Int32) ⊕ (Int32)) :=
  some (.inl ((k0 + k1), (x2 + 1)))
def f_X3_holes_L4 (h : PH) (x0 : Nat) : Int32 × Int32 → Option ((Int32 × Int32) ⊕ (Int32)) := fun z4 =>
  ((rdI h x0 2 2).bind fun v2 => (if v2 ≤ (z4.2) then some (.inr (((z4.1)))) else ((f_X3_ropeAt h (x0) ((z4.2))).bind fun v3 => (match v3 with | none => (f_X3_holes_J32 h (x0) ((z4.2)) ((z4.1)) ((0 : Int32))) | some a4 => ((f_X2_placesOf h (a4) (((-1) : Int32))).bind fun v5 => (f_X3_holes_J32 h (x0) ((z4.2)) ((z4.1)) (v5)))))))
def f_X3_holes (h : PH) (a0 : Nat) : Option Int32 :=
  if okO h a0 2 = true then ((lpn (f_X3_holes_L4 (h) (a0)) LF ((0 : Int32), (0 : Int32))).bind (fun w4 => (f_X3_holes_J40 h (w4)))) else none
def f_X3_laidHues_J27 (h : PH) (x1 : Int32)  : Option Int32 :=
  some (x1)
def f_X3_laidHues_J21 (h : PH) (x0 : Nat) (x1 : Int32) (x2 : Int32)  : Option ((Int32 × Int32) ⊕ (Int32)) :=
  some (.inl (x1, (x2 + 1)))
def f_X3_laidHues_L4 (h : PH) (x0 : Nat) : Int32 × Int32 → Option ((Int32 × Int32) ⊕ (Int32)) := fun z4 =>
  (if (8 : Int32) ≤ (z4.2) then some (.inr (((z4.1)))) else ((f_X3_isLaidOnSome h (x0) ((z4.2))).bind fun v2 => (if v2 = 0 then (f_X3_laidHues_J21 h (x0) ((z4.1)) ((z4.2))) else (f_X3_laidHues_J21 h (x0) (((z4.1) + 1)) ((z4.2))))))
def f_X3_laidHues (h : PH) (a0 : Nat) : Option Int32 :=
  if okO h a0 2 = true then ((lpn (f_X3_laidHues_L4 (h) (a0)) LF ((0 : Int32), (0 : Int32))).bind (fun w4 => (f_X3_laidHues_J27 h (w4)))) else none
def f_X3_layings (h : PH) (a0 : Nat) : Option Int32 :=
  if okO h a0 2 = true then ((rdI h a0 2 3).bind fun v1 => some (v1)) else none
def f_X3_joins (h : PH) (a0 : Nat) : Option Int32 :=
  if okO h a0 2 = true then ((rdI h a0 2 4).bind fun v1 => some (v1)) else none
def f_X3_cuts (h : PH) (a0 : Nat) : Option Int32 :=
  if okO h a0 2 = true then ((rdI h a0 2 5).bind fun v1 => some (v1)) else none
def f_X5_counted (h : PH) (a0 : Nat) (a1 : Int32) : Option Int32 :=
  if okO h a0 4 = true then (if a1 = 0 then ((rdR h a0 4 0).bind fun v1 => ((f_X3_ropeCount h (v1)).bind fun v2 => some (v2))) else (if a1 = 1 then ((rdR h a0 4 0).bind fun v3 => ((f_X3_places h (v3)).bind fun v4 => some (v4))) else (if a1 = 2 then ((rdR h a0 4 0).bind fun v5 => ((f_X3_holes h (v5)).bind fun v6 => some (v6))) else (if a1 = 3 then ((rdR h a0 4 0).bind fun v7 => ((f_X3_laidHues h (v7)).bind fun v8 => some (v8))) else (if a1 = 4 then ((rdR h a0 4 0).bind fun v9 => ((f_X3_layings h (v9)).bind fun v10 => some (v10))) else (if a1 = 5 then ((rdR h a0 4 0).bind fun v11 => ((f_X3_joins h (v11)).bind fun v12 => some (v12))) else (if a1 = 6 then ((rdR h a0 4 0).bind fun v13 => ((f_X3_cuts h (v13)).bind fun v14 => some (v14))) else ((rdR h a0 4 2).bind fun v15 => ((f_X0_size h (v15)).bind fun v16 => some (v16)))))))))) else none
def f_X5_count (h : PH) (a0 : Nat) (a1 : Int32) : Option (Except String Int32) :=
  if okO h a0 4 = true then ((f_X5_requireWhat h (a0) (a1) ((8 : Int32))).bind fun r1 => (match r1 with | .error E4 => some (.error E4) | .ok v2 => ((f_X5_counted h (a0) (a1)).bind fun v5 => some (.ok (v5))))) else none
def f_X5_refusal (h : PH) (a0 : Nat) (a1 : Int32) (a2 : Int32) (a3 : Int32) : Option (Except String Int32) :=
  if okO h a0 4 = true then ((f_X5_existing h (a0) (a1)).bind fun r1 => (match r1 with | .error E4 => some (.error E4) | .ok v2 => ((f_X5_requireHue h (a0) (a2)).bind fun r5 => (match r5 with | .error E8 => some (.error E8) | .ok v6 => ((f_X5_requirePhase h (a0) (a2) (a3)).bind fun r9 => (match r9 with | .error E12 => some (.error E12) | .ok v10 => ((rdR h a0 4 0).bind fun v13 => ((f_X3_gapAt h (v13) (a2)).bind fun v14 => ((f_X2_reasonAgainst h (v2) (a2) (a3) (v14)).bind fun v15 => some (.ok (v15))))))))))) else none
def f_X1_meetByRemainders_J48 (h : PH) (x5 : Int32)  : Option Int32 :=
  some (x5)
def f_X1_meetByRemainders_J63 (h : PH)   : Option Int32 :=
  some (((-1) : Int32))
def f_X1_meetByRemainders_J51 (h : PH) (x0 : Int32) (x2 : Int32) (x3 : Int32) (x5 : Int32) (x6 : Int32)  : Option ((Int32 × Int32) ⊕ (((Unit) ⊕ (Int32)))) :=
  some (.inl ((x5 + x0), (x6 + 1)))
def f_X1_meetByRemainders_L26 (h : PH) (x0 : Int32) (x2 : Int32) (x3 : Int32) : Int32 × Int32 → Option ((Int32 × Int32) ⊕ (((Unit) ⊕ (Int32)))) := fun z26 =>
  (if x2 ≤ (z26.2) then some (.inr (.inl ())) else (if (z26.1) < x3 then (f_X1_meetByRemainders_J51 h (x0) (x2) (x3) ((z26.1)) ((z26.2))) else ((f_X1_remainder h ((z26.1)) (x2)).bind fun v4 => (if ¬ v4 = x3 then (f_X1_meetByRemainders_J51 h (x0) (x2) (x3) ((z26.1)) ((z26.2))) else some (.inr (.inr (((z26.1)))))))))
def f_X1_meetByRemainders (h : PH) (a0 : Int32) (a1 : Int32) (a2 : Int32) (a3 : Int32) : Option Int32 :=
  ((f_X1_greatestCommonDivisor h (a0) (a2)).bind fun v1 => ((f_X1_remainder h ((a1 - a3)) (v1)).bind fun v2 => (if v2 = 0 then ((lpn (f_X1_meetByRemainders_L26 (h) (a0) (a2) (a3)) LF (a1, (0 : Int32))).bind (fun w26 => match w26 with | .inl w26 => (f_X1_meetByRemainders_J63 h ) | .inr w26 => (f_X1_meetByRemainders_J48 h (w26)))) else some (((-1) : Int32)))))
def f_X5_meeting (h : PH) (a0 : Nat) (a1 : Int32) (a2 : Int32) (a3 : Int32) (a4 : Int32) : Option (Except String Int32) :=
  if okO h a0 4 = true then ((f_X5_requireHue h (a0) (a1)).bind fun r1 => (match r1 with | .error E4 => some (.error E4) | .ok v2 => ((f_X5_requireHue h (a0) (a3)).bind fun r5 => (match r5 with | .error E8 => some (.error E8) | .ok v6 => ((f_X5_requirePhase h (a0) (a1) (a2)).bind fun r9 => (match r9 with | .error E12 => some (.error E12) | .ok v10 => ((f_X5_requirePhase h (a0) (a3) (a4)).bind fun r13 => (match r13 with | .error E16 => some (.error E16) | .ok v14 => ((rdR h a0 4 0).bind fun v17 => ((f_X3_gapAt h (v17) (a1)).bind fun v18 => ((rdR h a0 4 0).bind fun v19 => ((f_X3_gapAt h (v19) (a3)).bind fun v20 => ((f_X1_meetByRemainders h (v18) (a2) (v20) (a4)).bind fun v21 => some (.ok (v21))))))))))))))) else none
def f_X1_meetByWalking_J40 (h : PH) (x4 : Int32)  : Option Int32 :=
  some (x4)
def f_X1_meetByWalking_J71 (h : PH)   : Option Int32 :=
  some (((-1) : Int32))
def f_X1_meetByWalking_J65 (h : PH) (x0 : Int32) (x2 : Int32) (x4 : Int32) (x5 : Int32) (x6 : Int32)  : Option ((Int32 × Int32 × Int32) ⊕ (((Unit) ⊕ (Int32)))) :=
  some (.inl (x4, x5, (x6 + 1)))
def f_X1_meetByWalking_L9 (h : PH) (x0 : Int32) (x2 : Int32) : Int32 × Int32 × Int32 → Option ((Int32 × Int32 × Int32) ⊕ (((Unit) ⊕ (Int32)))) := fun z9 =>
  (if (800 : Int32) ≤ (z9.2.2) then some (.inr (.inl ())) else (if (800 : Int32) ≤ (z9.1) then some (.inr (.inl ())) else (if (800 : Int32) ≤ (z9.2.1) then some (.inr (.inl ())) else (if ¬ (z9.1) = (z9.2.1) then (if (z9.2.1) ≤ (z9.1) then (f_X1_meetByWalking_J65 h (x0) (x2) ((z9.1)) (((z9.2.1) + x2)) ((z9.2.2))) else (f_X1_meetByWalking_J65 h (x0) (x2) (((z9.1) + x0)) ((z9.2.1)) ((z9.2.2)))) else some (.inr (.inr (((z9.1)))))))))
def f_X1_meetByWalking (h : PH) (a0 : Int32) (a1 : Int32) (a2 : Int32) (a3 : Int32) : Option Int32 :=
  ((lpn (f_X1_meetByWalking_L9 (h) (a0) (a2)) LF (a1, a3, (0 : Int32))).bind (fun w9 => match w9 with | .inl w9 => (f_X1_meetByWalking_J71 h ) | .inr w9 => (f_X1_meetByWalking_J40 h (w9))))
def f_X5_walked (h : PH) (a0 : Nat) (a1 : Int32) (a2 : Int32) (a3 : Int32) (a4 : Int32) : Option (Except String Int32) :=
  if okO h a0 4 = true then ((f_X5_requireHue h (a0) (a1)).bind fun r1 => (match r1 with | .error E4 => some (.error E4) | .ok v2 => ((f_X5_requireHue h (a0) (a3)).bind fun r5 => (match r5 with | .error E8 => some (.error E8) | .ok v6 => ((f_X5_requirePhase h (a0) (a1) (a2)).bind fun r9 => (match r9 with | .error E12 => some (.error E12) | .ok v10 => ((f_X5_requirePhase h (a0) (a3) (a4)).bind fun r13 => (match r13 with | .error E16 => some (.error E16) | .ok v14 => ((rdR h a0 4 0).bind fun v17 => ((f_X3_gapAt h (v17) (a1)).bind fun v18 => ((rdR h a0 4 0).bind fun v19 => ((f_X3_gapAt h (v19) (a3)).bind fun v20 => ((f_X1_meetByWalking h (v18) (a2) (v20) (a4)).bind fun v21 => some (.ok (v21))))))))))))))) else none
def f_X2_fittingPhases_J31 (h : PH) (x3 : Int32)  : Option Int32 :=
  some (x3)
def f_X2_fittingPhases_J25 (h : PH) (x0 : Nat) (x1 : Int32) (x2 : Int32) (x3 : Int32) (x4 : Int32)  : Option ((Int32 × Int32) ⊕ (Int32)) :=
  some (.inl (x3, (x4 + 1)))
def f_X2_fittingPhases_L5 (h : PH) (x0 : Nat) (x1 : Int32) (x2 : Int32) : Int32 × Int32 → Option ((Int32 × Int32) ⊕ (Int32)) := fun z5 =>
  (if x2 ≤ (z5.2) then some (.inr (((z5.1)))) else ((f_X2_reasonAgainst h (x0) (x1) ((z5.2)) (x2)).bind fun v2 => (if ¬ v2 = 0 then (f_X2_fittingPhases_J25 h (x0) (x1) (x2) ((z5.1)) ((z5.2))) else (f_X2_fittingPhases_J25 h (x0) (x1) (x2) (((z5.1) + 1)) ((z5.2))))))
def f_X2_fittingPhases (h : PH) (a0 : Nat) (a1 : Int32) (a2 : Int32) : Option Int32 :=
  if okO h a0 1 = true then ((lpn (f_X2_fittingPhases_L5 (h) (a0) (a1) (a2)) LF ((0 : Int32), (0 : Int32))).bind (fun w5 => (f_X2_fittingPhases_J31 h (w5)))) else none
def f_X2_lowestPhase_J17 (h : PH) (x3 : Int32)  : Option Int32 :=
  some (x3)
def f_X2_lowestPhase_J25 (h : PH)   : Option Int32 :=
  some (((-1) : Int32))
def f_X2_lowestPhase_L2 (h : PH) (x0 : Nat) (x1 : Int32) (x2 : Int32) : Int32 → Option ((Int32) ⊕ (((Unit) ⊕ (Int32)))) := fun z2 =>
  (if x2 ≤ z2 then some (.inr (.inl ())) else ((f_X2_reasonAgainst h (x0) (x1) (z2) (x2)).bind fun v2 => (if ¬ v2 = 0 then some (.inl ((z2 + 1))) else some (.inr (.inr ((z2)))))))
def f_X2_lowestPhase (h : PH) (a0 : Nat) (a1 : Int32) (a2 : Int32) : Option Int32 :=
  if okO h a0 1 = true then ((lpn (f_X2_lowestPhase_L2 (h) (a0) (a1) (a2)) LF ((0 : Int32))).bind (fun w2 => match w2 with | .inl w2 => (f_X2_lowestPhase_J25 h ) | .inr w2 => (f_X2_lowestPhase_J17 h (w2)))) else none
def f_X2_placesFrom_J34 (h : PH) (x3 : Int32)  : Option Int32 :=
  some (x3)
def f_X2_placesFrom_L12 (h : PH) (x0 : Nat) (x4 : Int32) : Int32 × Int32 → Option ((Int32 × Int32) ⊕ (Int32)) := fun z12 =>
  ((rdI h x0 1 2).bind fun v2 => (if v2 ≤ (z12.2) then some (.inr (((z12.1)))) else some (.inl (((z12.1) + 1), ((z12.2) + x4)))))
def f_X2_placesFrom (h : PH) (a0 : Nat) (a1 : Int32) (a2 : Int32) : Option Int32 :=
  if okO h a0 1 = true then ((lpn (f_X2_placesFrom_L12 (h) (a0) ((if (1 : Int32) < a2 then a2 else (1 : Int32)))) LF ((0 : Int32), a1)).bind (fun w12 => (f_X2_placesFrom_J34 h (w12)))) else none
def f_X2_fillingPhase_J54 (h : PH) (x3 : Int32)  : Option Int32 :=
  some (x3)
def f_X2_fillingPhase_J48 (h : PH) (x0 : Nat) (x1 : Int32) (x2 : Int32) (x3 : Int32) (x4 : Int32) (x5 : Int32)  : Option ((Int32 × Int32 × Int32) ⊕ (Int32)) :=
  some (.inl (x3, x4, (x5 + 1)))
def f_X2_fillingPhase_L8 (h : PH) (x0 : Nat) (x1 : Int32) (x2 : Int32) : Int32 × Int32 × Int32 → Option ((Int32 × Int32 × Int32) ⊕ (Int32)) := fun z8 =>
  (if x2 ≤ (z8.2.2) then some (.inr (((z8.1)))) else ((f_X2_placesFrom h (x0) ((z8.2.2)) (x2)).bind fun v2 => (if v2 ≤ (z8.2.1) then (f_X2_fillingPhase_J48 h (x0) (x1) (x2) ((z8.1)) ((z8.2.1)) ((z8.2.2))) else ((f_X2_reasonAgainst h (x0) (x1) ((z8.2.2)) (x2)).bind fun v3 => (if ¬ v3 = 0 then (f_X2_fillingPhase_J48 h (x0) (x1) (x2) ((z8.1)) ((z8.2.1)) ((z8.2.2))) else (f_X2_fillingPhase_J48 h (x0) (x1) (x2) ((z8.2.2)) (v2) ((z8.2.2))))))))
def f_X2_fillingPhase (h : PH) (a0 : Nat) (a1 : Int32) (a2 : Int32) : Option Int32 :=
  if okO h a0 1 = true then ((lpn (f_X2_fillingPhase_L8 (h) (a0) (a1) (a2)) LF (((-1) : Int32), (0 : Int32), (0 : Int32))).bind (fun w8 => (f_X2_fillingPhase_J54 h (w8)))) else none
def f_X2_phaseNumber (h : PH) (a0 : Nat) (a1 : Int32) (a2 : Int32) (a3 : Int32) : Option Int32 :=
  if okO h a0 1 = true then (if a3 = 0 then ((f_X2_fittingPhases h (a0) (a1) (a2)).bind fun v1 => some (v1)) else (if a3 = 1 then ((f_X2_lowestPhase h (a0) (a1) (a2)).bind fun v2 => some (v2)) else ((f_X2_fillingPhase h (a0) (a1) (a2)).bind fun v3 => some (v3)))) else none
def f_X5_phases (h : PH) (a0 : Nat) (a1 : Int32) (a2 : Int32) (a3 : Int32) : Option (Except String Int32) :=
  if okO h a0 4 = true then ((f_X5_existing h (a0) (a1)).bind fun r1 => (match r1 with | .error E4 => some (.error E4) | .ok v2 => ((f_X5_requireHue h (a0) (a2)).bind fun r5 => (match r5 with | .error E8 => some (.error E8) | .ok v6 => ((f_X5_requireWhat h (a0) (a3) ((3 : Int32))).bind fun r9 => (match r9 with | .error E12 => some (.error E12) | .ok v10 => ((rdR h a0 4 0).bind fun v13 => ((f_X3_gapAt h (v13) (a2)).bind fun v14 => ((f_X2_phaseNumber h (v2) (a2) (v14) (a3)).bind fun v15 => some (.ok (v15))))))))))) else none
def f_X5_joining_J29 (hh : PH)  (k0 : Int32) : Option (Except (String × PH) (Int32 × PH)) :=
  some (.ok (k0, hh))
def f_X5_joining (h : PH) (a0 : Nat) (a1 : Int32) (a2 : Int32) : Option (Except (String × PH) (Int32 × PH)) :=
  if okO h a0 4 = true then ((f_X5_existing h (a0) (a1)).bind fun r1 => (match r1 with | .error E4 => some (.error (E4, h)) | .ok v2 => ((f_X5_existing h (a0) (a2)).bind fun r5 => (match r5 with | .error E8 => some (.error (E8, h)) | .ok v6 => (if ¬ a1 = a2 then ((f_X5_reasonAgainstJoining h (a0) (v2) (v6)).bind fun q11 => (f_X5_joining_J29 q11.2 (q11.1))) else (f_X5_joining_J29 h ((1 : Int32)))))))) else none
def f_X5_greatest (h : PH) (a0 : Nat) (a1 : Int32) : Option (Except String Int32) :=
  if okO h a0 4 = true then ((f_X5_existing h (a0) (a1)).bind fun r1 => (match r1 with | .error E4 => some (.error E4) | .ok v2 => ((f_X5_greatestLength h (a0) (v2)).bind fun v5 => some (.ok (v5))))) else none
def f_X5_fullness_J31 (h : PH)  (k0 : UInt64) : Option UInt64 :=
  some (k0)
def f_X5_fullness (h : PH) (a0 : Nat) : Option UInt64 :=
  if okO h a0 4 = true then ((rdR h a0 4 0).bind fun v1 => ((f_X3_places h (v1)).bind fun v2 => ((rdR h a0 4 0).bind fun v3 => ((f_X3_holes h (v3)).bind fun v4 => (if v2 ≤ 0 then (f_X5_fullness_J31 h (FP.dconst1)) else (if nn64 (FP.ddiv (FP.i2d (v2 - v4)) (FP.i2d v2)) = true then (f_X5_fullness_J31 h ((FP.ddiv (FP.i2d (v2 - v4)) (FP.i2d v2)))) else none)))))) else none
