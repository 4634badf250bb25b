/-! what each method does, written by program out of javap's listing -/
def f_X5_requireHue_J10 (h : PH)   : Option (Except String Unit) :=
  some (.error "java/lang/IndexOutOfBoundsException")
def f_X5_requireHue (h : PH) (a0 : Nat) (a1 : Int32) : Option (Except String Unit) :=
  if okO h a0 4 = true then (if a1 < 0 then (f_X5_requireHue_J10 h ) else (if a1 < (8 : Int32) then some (.ok ()) else (f_X5_requireHue_J10 h ))) else none
def f_X3_ropeAt_J31 (h : PH)  (k0 : (Option Nat)) : Option (Option Nat) :=
  some (k0)
def f_X3_ropeAt_J30 (h : PH)   : Option (Option Nat) :=
  (f_X3_ropeAt_J31 h (none))
def f_X3_ropeAt (h : PH) (a0 : Nat) (a1 : Int32) : Option (Option Nat) :=
  if okO h a0 2 = true then (if a1 < 0 then (f_X3_ropeAt_J30 h ) else ((rdI h a0 2 2).bind fun v1 => (if v1 ≤ a1 then (f_X3_ropeAt_J30 h ) else ((rdR h a0 2 1).bind fun v2 => ((lnA h v2).bind fun v3 => (if v3 ≤ a1 then (f_X3_ropeAt_J30 h ) else ((rdR h a0 2 1).bind fun v4 => ((ldQ h v4 a1).bind fun v5 => (f_X3_ropeAt_J31 h (v5)))))))))) else none
def f_X2_orderOf_J29 (h : PH) (x2 : Int32)  : Option Int32 :=
  some (x2)
def f_X2_orderOf_J37 (h : PH)   : Option Int32 :=
  some (((-1) : Int32))
def f_X2_orderOf_L2 (h : PH) (x0 : Nat) (x1 : Int32) : Int32 → Option ((Int32) ⊕ (((Unit) ⊕ (Int32)))) := fun z2 =>
  ((rdI h x0 1 3).bind fun v2 => (if v2 ≤ z2 then some (.inr (.inl ())) else ((rdR h x0 1 1).bind fun v3 => ((lnA h v3).bind fun v4 => (if v4 ≤ z2 then some (.inr (.inl ())) else ((rdR h x0 1 1).bind fun v5 => ((ldI h v5 z2).bind fun v6 => (if ¬ v6 = x1 then some (.inl ((z2 + 1))) else some (.inr (.inr ((z2))))))))))))
def f_X2_orderOf (h : PH) (a0 : Nat) (a1 : Int32) : Option Int32 :=
  if okO h a0 1 = true then ((lpn (f_X2_orderOf_L2 (h) (a0) (a1)) LF ((0 : Int32))).bind (fun w2 => match w2 with | .inl w2 => (f_X2_orderOf_J37 h ) | .inr w2 => (f_X2_orderOf_J29 h (w2)))) else none
def f_X3_isLaidOnSome_J29 (h : PH)   : Option Int32 :=
  some ((1 : Int32))
def f_X3_isLaidOnSome_J37 (h : PH)   : Option Int32 :=
  some ((0 : Int32))
def f_X3_isLaidOnSome_J31 (h : PH) (x0 : Nat) (x1 : Int32) (x2 : Int32)  : Option ((Int32) ⊕ (((Unit) ⊕ (Unit)))) :=
  some (.inl ((x2 + 1)))
def f_X3_isLaidOnSome_L2 (h : PH) (x0 : Nat) (x1 : Int32) : Int32 → Option ((Int32) ⊕ (((Unit) ⊕ (Unit)))) := fun z2 =>
  ((rdI h x0 2 2).bind fun v2 => (if v2 ≤ z2 then some (.inr (.inl ())) else ((f_X3_ropeAt h (x0) (z2)).bind fun v3 => (match v3 with | none => (f_X3_isLaidOnSome_J31 h (x0) (x1) (z2)) | some a4 => ((f_X2_orderOf h (a4) (x1)).bind fun v5 => (if v5 = ((-1) : Int32) then (f_X3_isLaidOnSome_J31 h (x0) (x1) (z2)) else some (.inr (.inr (())))))))))
def f_X3_isLaidOnSome (h : PH) (a0 : Nat) (a1 : Int32) : Option Int32 :=
  if okO h a0 2 = true then ((lpn (f_X3_isLaidOnSome_L2 (h) (a0) (a1)) LF ((0 : Int32))).bind (fun w2 => match w2 with | .inl w2 => (f_X3_isLaidOnSome_J37 h ) | .inr w2 => (f_X3_isLaidOnSome_J29 h ))) else none
def f_X0_rowAt_J23 (h : PH)  (k0 : (Option Nat)) : Option (Option Nat) :=
  some (k0)
def f_X0_rowAt_J22 (h : PH)   : Option (Option Nat) :=
  (f_X0_rowAt_J23 h (none))
def f_X0_rowAt (h : PH) (a0 : Nat) (a1 : Int32) : Option (Option Nat) :=
  if okO h a0 0 = true then (if a1 < 0 then (f_X0_rowAt_J22 h ) else ((rdR h a0 0 0).bind fun v1 => ((lnA h v1).bind fun v2 => (if v2 ≤ a1 then (f_X0_rowAt_J22 h ) else ((rdR h a0 0 0).bind fun v3 => ((ldQ h v3 a1).bind fun v4 => (f_X0_rowAt_J23 h (v4)))))))) else none
def f_X0_dropOldest_J77 (hh : PH)   : Option PH :=
  some hh
def f_X0_dropOldest_J37 (hh : PH) (x0 : Nat) (x1 : (Option Nat))  : Option PH :=
  ((rdR hh x0 0 0).bind fun v1 => ((lnA hh v1).bind fun v2 => ((wrF hh x0 0 1 (.int ((v2 - (1 : Int32))))).bind fun h3 => ((rdI h3 x0 0 1).bind fun v4 => (if v4 < 0 then (f_X0_dropOldest_J77 h3 ) else ((rdI h3 x0 0 1).bind fun v5 => ((rdR h3 x0 0 0).bind fun v6 => ((lnA h3 v6).bind fun v7 => (if v7 ≤ v5 then (f_X0_dropOldest_J77 h3 ) else ((rdR h3 x0 0 0).bind fun v8 => ((rdI h3 x0 0 1).bind fun v9 => ((x1).bind fun w11 => ((stQ h3 v8 v9 w11).bind fun h10 => (f_X0_dropOldest_J77 h10 ))))))))))))))
def f_X0_dropOldest_L8 (x0 : Nat) (x1 : (Option Nat)) : Int32 × PH → Option ((Int32 × PH) ⊕ (PH)) := fun z8 =>
  ((rdR (z8.2) x0 0 0).bind fun v14 => ((lnA (z8.2) v14).bind fun v15 => (if v15 ≤ (z8.1) then some (.inr (((z8.2)))) else ((rdR (z8.2) x0 0 0).bind fun v16 => ((rdR (z8.2) x0 0 0).bind fun v17 => ((ldQ (z8.2) v17 (z8.1)).bind fun v18 => ((v18).bind fun w20 => ((stQ (z8.2) v16 ((z8.1) - (1 : Int32)) w20).bind fun h19 => some (.inl (((z8.1) + 1), h19))))))))))
def f_X0_dropOldest (h : PH) (a0 : Nat) : Option PH :=
  if okO h a0 0 = true then ((f_X0_rowAt h (a0) ((0 : Int32))).bind fun v12 => ((lpn (f_X0_dropOldest_L8 (a0) (v12)) LF ((1 : Int32), h)).bind (fun w8 => (f_X0_dropOldest_J37 w8 (a0) (v12))))) else none
def f_X2_copyFrom_J92 (hh : PH)   : Option PH :=
  some hh
def f_X2_copyFrom_L56 (x0 : Nat) (x1 : Nat) : Int32 × PH → Option ((Int32 × PH) ⊕ (PH)) := fun z56 =>
  ((rdR (z56.2) x0 1 1).bind fun v2 => ((lnA (z56.2) v2).bind fun v3 => (if v3 ≤ (z56.1) then some (.inr (((z56.2)))) else ((rdR (z56.2) x1 1 1).bind fun v4 => ((lnA (z56.2) v4).bind fun v5 => (if v5 ≤ (z56.1) then some (.inr (((z56.2)))) else ((rdR (z56.2) x0 1 1).bind fun v6 => ((rdR (z56.2) x1 1 1).bind fun v7 => ((ldI (z56.2) v7 (z56.1)).bind fun v8 => ((stI (z56.2) v6 (z56.1) v8).bind fun h9 => some (.inl (((z56.1) + 1), h9))))))))))))
def f_X2_copyFrom_J54 (hh : PH) (x0 : Nat) (x1 : Nat)  : Option PH :=
  ((lpn (f_X2_copyFrom_L56 (x0) (x1)) LF ((0 : Int32), hh)).bind (fun w56 => (f_X2_copyFrom_J92 w56 )))
def f_X2_copyFrom_L18 (x0 : Nat) (x1 : Nat) : Int32 × PH → Option ((Int32 × PH) ⊕ (PH)) := fun z18 =>
  ((rdR (z18.2) x0 1 0).bind fun v15 => ((lnA (z18.2) v15).bind fun v16 => (if v16 ≤ (z18.1) then some (.inr (((z18.2)))) else ((rdR (z18.2) x1 1 0).bind fun v17 => ((lnA (z18.2) v17).bind fun v18 => (if v18 ≤ (z18.1) then some (.inr (((z18.2)))) else ((rdR (z18.2) x0 1 0).bind fun v19 => ((rdR (z18.2) x1 1 0).bind fun v20 => ((ldI (z18.2) v20 (z18.1)).bind fun v21 => ((stI (z18.2) v19 (z18.1) v21).bind fun h22 => some (.inl (((z18.1) + 1), h22))))))))))))
def f_X2_copyFrom (h : PH) (a0 : Nat) (a1 : Nat) : Option PH :=
  if okO h a0 1 = true then ((rdI h a1 1 2).bind fun v10 => ((wrF h a0 1 2 (.int (v10))).bind fun h11 => ((rdI h11 a1 1 3).bind fun v12 => ((wrF h11 a0 1 3 (.int (v12))).bind fun h13 => ((lpn (f_X2_copyFrom_L18 (a0) (a1)) LF ((0 : Int32), h13)).bind (fun w18 => (f_X2_copyFrom_J54 w18 (a0) (a1)))))))) else none
def f_X3_copyFrom_J90 (hh : PH) (x0 : Nat) (x1 : Nat)  : Option PH :=
  ((rdI hh x1 2 3).bind fun v1 => ((wrF hh x0 2 3 (.int (v1))).bind fun h2 => ((rdI h2 x1 2 4).bind fun v3 => ((wrF h2 x0 2 4 (.int (v3))).bind fun h4 => ((rdI h4 x1 2 5).bind fun v5 => ((wrF h4 x0 2 5 (.int (v5))).bind fun h6 => some h6))))))
def f_X3_copyFrom_J84 (hh : PH) (x0 : Nat) (x1 : Nat) (x2 : Int32)  : Option ((Int32 × PH) ⊕ (PH)) :=
  some (.inl ((x2 + 1), hh))
def f_X3_copyFrom_L48 (x0 : Nat) (x1 : Nat) : Int32 × PH → Option ((Int32 × PH) ⊕ (PH)) := fun z48 =>
  ((rdI (z48.2) x0 2 2).bind fun v10 => (if v10 ≤ (z48.1) then some (.inr (((z48.2)))) else ((f_X3_ropeAt (z48.2) (x0) ((z48.1))).bind fun v11 => ((f_X3_ropeAt (z48.2) (x1) ((z48.1))).bind fun v12 => (match v11 with | none => (f_X3_copyFrom_J84 (z48.2) (x0) (x1) ((z48.1))) | some a13 => (match v12 with | none => (f_X3_copyFrom_J84 (z48.2) (x0) (x1) ((z48.1))) | some a14 => ((f_X2_copyFrom (z48.2) (a13) (a14)).bind fun h15 => (f_X3_copyFrom_J84 h15 (x0) (x1) ((z48.1))))))))))
def f_X3_copyFrom_J38 (hh : PH) (x0 : Nat) (x1 : Nat)  : Option PH :=
  ((rdI hh x1 2 2).bind fun v7 => ((wrF hh x0 2 2 (.int (v7))).bind fun h8 => ((lpn (f_X3_copyFrom_L48 (x0) (x1)) LF ((0 : Int32), h8)).bind (fun w48 => (f_X3_copyFrom_J90 w48 (x0) (x1))))))
def f_X3_copyFrom_L2 (x0 : Nat) (x1 : Nat) : Int32 × PH → Option ((Int32 × PH) ⊕ (PH)) := fun z2 =>
  ((rdR (z2.2) x0 2 0).bind fun v17 => ((lnA (z2.2) v17).bind fun v18 => (if v18 ≤ (z2.1) then some (.inr (((z2.2)))) else ((rdR (z2.2) x1 2 0).bind fun v19 => ((lnA (z2.2) v19).bind fun v20 => (if v20 ≤ (z2.1) then some (.inr (((z2.2)))) else ((rdR (z2.2) x0 2 0).bind fun v21 => ((rdR (z2.2) x1 2 0).bind fun v22 => ((ldI (z2.2) v22 (z2.1)).bind fun v23 => ((stI (z2.2) v21 (z2.1) v23).bind fun h24 => some (.inl (((z2.1) + 1), h24))))))))))))
def f_X3_copyFrom (h : PH) (a0 : Nat) (a1 : Nat) : Option PH :=
  if okO h a0 2 = true then ((lpn (f_X3_copyFrom_L2 (a0) (a1)) LF ((0 : Int32), h)).bind (fun w2 => (f_X3_copyFrom_J38 w2 (a0) (a1)))) else none
def f_X0_save_J44 (hh : PH)   : Option PH :=
  some hh
def f_X0_save_J16 (hh : PH) (x0 : Nat) (x1 : Nat)  : Option PH :=
  ((rdI hh x0 0 1).bind fun v1 => ((f_X0_rowAt hh (x0) (v1)).bind fun v2 => (match v2 with | none => (f_X0_save_J44 hh ) | some a3 => ((f_X3_copyFrom hh (a3) (x1)).bind fun h4 => ((rdI h4 x0 0 1).bind fun v5 => ((wrF h4 x0 0 1 (.int ((v5 + (1 : Int32))))).bind fun h6 => (f_X0_save_J44 h6 )))))))
def f_X0_save (h : PH) (a0 : Nat) (a1 : Nat) : Option PH :=
  if okO h a0 0 = true then ((rdI h a0 0 1).bind fun v7 => ((rdR h a0 0 0).bind fun v8 => ((lnA h v8).bind fun v9 => (if v7 < v9 then (f_X0_save_J16 h (a0) (a1)) else ((f_X0_dropOldest h (a0)).bind fun h10 => (f_X0_save_J16 h10 (a0) (a1))))))) else none
def f_X3_gapAt_J23 (h : PH)  (k0 : Int32) : Option Int32 :=
  some (k0)
def f_X3_gapAt_J22 (h : PH)   : Option Int32 :=
  (f_X3_gapAt_J23 h ((0 : Int32)))
def f_X3_gapAt (h : PH) (a0 : Nat) (a1 : Int32) : Option Int32 :=
  if okO h a0 2 = true then (if a1 < 0 then (f_X3_gapAt_J22 h ) else ((rdR h a0 2 0).bind fun v1 => ((lnA h v1).bind fun v2 => (if v2 ≤ a1 then (f_X3_gapAt_J22 h ) else ((rdR h a0 2 0).bind fun v3 => ((ldI h v3 a1).bind fun v4 => (f_X3_gapAt_J23 h (v4)))))))) else none
def f_X3_setGap_J20 (hh : PH)   : Option PH :=
  some hh
def f_X3_setGap (h : PH) (a0 : Nat) (a1 : Int32) (a2 : Int32) : Option PH :=
  if okO h a0 2 = true then (if a1 < 0 then (f_X3_setGap_J20 h ) else ((rdR h a0 2 0).bind fun v1 => ((lnA h v1).bind fun v2 => (if v2 ≤ a1 then (f_X3_setGap_J20 h ) else ((rdR h a0 2 0).bind fun v3 => ((stI h v3 a1 a2).bind fun h4 => (f_X3_setGap_J20 h4 ))))))) else none
def f_X5_gap_J16 (h : PH)   : Option (Except (String × PH) (Int32 × PH)) :=
  some (.error ("java/lang/IllegalArgumentException", h))
def f_X5_gap (h : PH) (a0 : Nat) (a1 : Int32) (a2 : Int32) : Option (Except (String × PH) (Int32 × PH)) :=
  if okO h a0 4 = true then ((f_X5_requireHue h (a0) (a1)).bind fun r1 => (match r1 with | .error E4 => some (.error (E4, h)) | .ok v2 => (if a2 < (2 : Int32) then (f_X5_gap_J16 h ) else (if a2 ≤ (20 : Int32) then ((rdR h a0 4 0).bind fun v5 => ((f_X3_isLaidOnSome h (v5) (a1)).bind fun v6 => (if v6 = 0 then ((rdR h a0 4 2).bind fun v7 => ((rdR h a0 4 0).bind fun v8 => ((f_X0_save h (v7) (v8)).bind fun h9 => ((rdR h9 a0 4 0).bind fun v10 => ((f_X3_gapAt h9 (v10) (a1)).bind fun v11 => ((rdR h9 a0 4 0).bind fun v12 => ((f_X3_setGap h9 (v12) (a1) (a2)).bind fun h13 => some (.ok (v11, h13))))))))) else some (.error ("java/lang/IllegalStateException", h))))) else (f_X5_gap_J16 h ))))) else none
def f_X5_requireLength_J11 (h : PH)   : Option (Except String Unit) :=
  some (.error "java/lang/IllegalArgumentException")
def f_X5_requireLength (h : PH) (a0 : Nat) (a1 : Int32) : Option (Except String Unit) :=
  if okO h a0 4 = true then (if a1 < (1 : Int32) then (f_X5_requireLength_J11 h ) else (if a1 ≤ (60 : Int32) then some (.ok ()) else (f_X5_requireLength_J11 h ))) else none
def f_X3_ropeCount (h : PH) (a0 : Nat) : Option Int32 :=
  if okO h a0 2 = true then ((rdI h a0 2 2).bind fun v1 => some (v1)) else none
def f_X5_requireRoomForRope (h : PH) (a0 : Nat) : Option (Except String Unit) :=
  if okO h a0 4 = true then ((rdR h a0 4 0).bind fun v1 => ((f_X3_ropeCount h (v1)).bind fun v2 => (if v2 < (4 : Int32) then some (.ok ()) else some (.error "java/lang/IllegalStateException")))) else none
def f_X2_begin_J46 (hh : PH)   : Option PH :=
  some hh
def f_X2_begin_L24 (x0 : Nat) : Int32 × PH → Option ((Int32 × PH) ⊕ (PH)) := fun z24 =>
  ((rdR (z24.2) x0 1 0).bind fun v6 => ((lnA (z24.2) v6).bind fun v7 => (if v7 ≤ (z24.1) then some (.inr (((z24.2)))) else ((rdR (z24.2) x0 1 0).bind fun v8 => ((stI (z24.2) v8 (z24.1) ((-1) : Int32)).bind fun h9 => some (.inl (((z24.1) + 1), h9)))))))
def f_X2_begin (h : PH) (a0 : Nat) (a1 : Int32) : Option PH :=
  if okO h a0 1 = true then ((rdR h a0 1 0).bind fun v1 => ((lnA h v1).bind fun v2 => ((wrF h a0 1 2 (.int ((if (0 : Int32) < (if v2 < a1 then v2 else a1) then (if v2 < a1 then v2 else a1) else (0 : Int32))))).bind fun h3 => ((wrF h3 a0 1 3 (.int ((0 : Int32)))).bind fun h4 => ((lpn (f_X2_begin_L24 (a0)) LF ((0 : Int32), h4)).bind (fun w24 => (f_X2_begin_J46 w24 ))))))) else none
def f_X3_addRope_J19 (h : PH)   : Option ((Option Nat) × PH) :=
  some (none, h)
def f_X3_addRope_J51 (hh : PH) (x2 : (Option Nat))  : Option ((Option Nat) × PH) :=
  some (x2, hh)
def f_X3_addRope (h : PH) (a0 : Nat) (a1 : Int32) : Option ((Option Nat) × PH) :=
  if okO h a0 2 = true then ((rdI h a0 2 2).bind fun v1 => (if v1 < 0 then (f_X3_addRope_J19 h ) else ((rdI h a0 2 2).bind fun v2 => ((rdR h a0 2 1).bind fun v3 => ((lnA h v3).bind fun v4 => (if v2 < v4 then ((rdI h a0 2 2).bind fun v5 => ((wrF h a0 2 2 (.int ((v5 + (1 : Int32))))).bind fun h6 => ((rdI h6 a0 2 2).bind fun v7 => ((f_X3_ropeAt h6 (a0) ((v7 - (1 : Int32)))).bind fun v8 => (match v8 with | none => (f_X3_addRope_J51 h6 (none)) | some a9 => ((f_X2_begin h6 (a9) (a1)).bind fun h10 => (f_X3_addRope_J51 h10 (some (a9))))))))) else (f_X3_addRope_J19 h ))))))) else none
def f_X5_rope (h : PH) (a0 : Nat) (a1 : Int32) : Option (Except (String × PH) (Int32 × PH)) :=
  if okO h a0 4 = true then ((f_X5_requireLength h (a0) (a1)).bind fun r1 => (match r1 with | .error E4 => some (.error (E4, h)) | .ok v2 => ((f_X5_requireRoomForRope h (a0)).bind fun r5 => (match r5 with | .error E8 => some (.error (E8, h)) | .ok v6 => ((rdR h a0 4 2).bind fun v9 => ((rdR h a0 4 0).bind fun v10 => ((f_X0_save h (v9) (v10)).bind fun h11 => ((rdR h11 a0 4 0).bind fun v12 => ((f_X3_addRope h11 (v12) (a1)).bind fun q15 => ((rdR q15.2 a0 4 0).bind fun v16 => ((f_X3_ropeCount q15.2 (v16)).bind fun v17 => some (.ok ((v17 - (1 : Int32)), q15.2))))))))))))) else none
def f_X5_existing (h : PH) (a0 : Nat) (a1 : Int32) : Option (Except String Nat) :=
  if okO h a0 4 = true then ((rdR h a0 4 0).bind fun v1 => ((f_X3_ropeAt h (v1) (a1)).bind fun v2 => (match v2 with | none => some (.error "java/lang/IndexOutOfBoundsException") | some a3 => some (.ok (a3))))) else none
def f_X3_removeRope_J91 (hh : PH)   : Option PH :=
  some hh
def f_X3_removeRope_J52 (hh : PH) (x0 : Nat) (x2 : Nat)  : Option PH :=
  ((rdI hh x0 2 2).bind fun v1 => ((wrF hh x0 2 2 (.int ((v1 - (1 : Int32))))).bind fun h2 => ((rdI h2 x0 2 2).bind fun v3 => (if v3 < 0 then (f_X3_removeRope_J91 h2 ) else ((rdI h2 x0 2 2).bind fun v4 => ((rdR h2 x0 2 1).bind fun v5 => ((lnA h2 v5).bind fun v6 => (if v6 ≤ v4 then (f_X3_removeRope_J91 h2 ) else ((rdR h2 x0 2 1).bind fun v7 => ((rdI h2 x0 2 2).bind fun v8 => ((stQ h2 v7 v8 x2).bind fun h9 => (f_X3_removeRope_J91 h9 ))))))))))))
def f_X3_removeRope_L15 (x0 : Nat) (x2 : Nat) : Int32 × PH → Option ((Int32 × PH) ⊕ (PH)) := fun z15 =>
  ((rdI (z15.2) x0 2 2).bind fun v13 => (if v13 ≤ (z15.1) then some (.inr (((z15.2)))) else ((rdR (z15.2) x0 2 1).bind fun v14 => ((lnA (z15.2) v14).bind fun v15 => (if v15 ≤ (z15.1) then some (.inr (((z15.2)))) else ((rdR (z15.2) x0 2 1).bind fun v16 => ((rdR (z15.2) x0 2 1).bind fun v17 => ((ldQ (z15.2) v17 (z15.1)).bind fun v18 => ((v18).bind fun w20 => ((stQ (z15.2) v16 ((z15.1) - (1 : Int32)) w20).bind fun h19 => some (.inl (((z15.1) + 1), h19))))))))))))
def f_X3_removeRope (h : PH) (a0 : Nat) (a1 : Int32) : Option PH :=
  if okO h a0 2 = true then ((f_X3_ropeAt h (a0) (a1)).bind fun v10 => (match v10 with | none => some h | some a11 => ((lpn (f_X3_removeRope_L15 (a0) (a11)) LF ((a1 + (1 : Int32)), h)).bind (fun w15 => (f_X3_removeRope_J52 w15 (a0) (a11)))))) else none
def f_X5_drop (h : PH) (a0 : Nat) (a1 : Int32) : Option (Except (String × PH) (Int32 × PH)) :=
  if okO h a0 4 = true then ((f_X5_existing h (a0) (a1)).bind fun r1 => (match r1 with | .error E4 => some (.error (E4, h)) | .ok v2 => ((rdR h a0 4 2).bind fun v5 => ((rdR h a0 4 0).bind fun v6 => ((f_X0_save h (v5) (v6)).bind fun h7 => ((rdR h7 a0 4 0).bind fun v8 => ((f_X3_removeRope h7 (v8) (a1)).bind fun h9 => ((rdR h9 a0 4 0).bind fun v10 => ((f_X3_ropeCount h9 (v10)).bind fun v11 => some (.ok (v11, h9))))))))))) else none
def f_X5_requirePhase_J16 (h : PH)   : Option (Except String Unit) :=
  some (.error "java/lang/IllegalArgumentException")
def f_X5_requirePhase (h : PH) (a0 : Nat) (a1 : Int32) (a2 : Int32) : Option (Except String Unit) :=
  if okO h a0 4 = true then (if a2 < 0 then (f_X5_requirePhase_J16 h ) else ((rdR h a0 4 0).bind fun v1 => ((f_X3_gapAt h (v1) (a1)).bind fun v2 => (if a2 < v2 then some (.ok ()) else (f_X5_requirePhase_J16 h ))))) else none
def f_X2_colourAt_J31 (h : PH)  (k0 : Int32) : Option Int32 :=
  some (k0)
def f_X2_colourAt_J30 (h : PH)   : Option Int32 :=
  (f_X2_colourAt_J31 h (((-1) : Int32)))
def f_X2_colourAt (h : PH) (a0 : Nat) (a1 : Int32) : Option Int32 :=
  if okO h a0 1 = true then (if a1 < 0 then (f_X2_colourAt_J30 h ) else ((rdI h a0 1 2).bind fun v1 => (if v1 ≤ a1 then (f_X2_colourAt_J30 h ) else ((rdR h a0 1 0).bind fun v2 => ((lnA h v2).bind fun v3 => (if v3 ≤ a1 then (f_X2_colourAt_J30 h ) else ((rdR h a0 1 0).bind fun v4 => ((ldI h v4 a1).bind fun v5 => (f_X2_colourAt_J31 h (v5)))))))))) else none
def f_X2_reasonAgainst_J50 (h : PH)   : Option Int32 :=
  some ((3 : Int32))
def f_X2_reasonAgainst_J62 (h : PH)   : Option Int32 :=
  some ((0 : Int32))
def f_X2_reasonAgainst_L31 (h : PH) (x0 : Nat) (x4 : Int32) : Int32 → Option ((Int32) ⊕ (((Unit) ⊕ (Unit)))) := fun z31 =>
  ((rdI h x0 1 2).bind fun v4 => (if v4 ≤ z31 then some (.inr (.inl ())) else ((f_X2_colourAt h (x0) (z31)).bind fun v5 => (if v5 = ((-1) : Int32) then some (.inl ((z31 + x4))) else some (.inr (.inr (())))))))
def f_X2_reasonAgainst (h : PH) (a0 : Nat) (a1 : Int32) (a2 : Int32) (a3 : Int32) : Option Int32 :=
  if okO h a0 1 = true then ((f_X2_orderOf h (a0) (a1)).bind fun v1 => (if v1 = ((-1) : Int32) then ((rdI h a0 1 2).bind fun v2 => (if a2 < v2 then ((lpn (f_X2_reasonAgainst_L31 (h) (a0) ((if (1 : Int32) < a3 then a3 else (1 : Int32)))) LF (a2)).bind (fun w31 => match w31 with | .inl w31 => (f_X2_reasonAgainst_J62 h ) | .inr w31 => (f_X2_reasonAgainst_J50 h ))) else some ((2 : Int32)))) else some ((1 : Int32)))) else none
def f_X2_setColour_J20 (hh : PH)   : Option PH :=
  some hh
def f_X2_setColour (h : PH) (a0 : Nat) (a1 : Int32) (a2 : Int32) : Option PH :=
  if okO h a0 1 = true then (if a1 < 0 then (f_X2_setColour_J20 h ) else ((rdR h a0 1 0).bind fun v1 => ((lnA h v1).bind fun v2 => (if v2 ≤ a1 then (f_X2_setColour_J20 h ) else ((rdR h a0 1 0).bind fun v3 => ((stI h v3 a1 a2).bind fun h4 => (f_X2_setColour_J20 h4 ))))))) else none
def f_X2_put_J31 (h : PH)   : Option (Int32 × PH) :=
  some ((0 : Int32), h)
def f_X2_put_J95 (hh : PH) (x4 : Int32)  : Option (Int32 × PH) :=
  some (x4, hh)
def f_X2_put_L66 (x0 : Nat) (x1 : Int32) (x5 : Int32) : Int32 × Int32 × PH → Option ((Int32 × Int32 × PH) ⊕ (Int32 × PH)) := fun z66 =>
  ((rdI (z66.2.2) x0 1 2).bind fun v12 => (if v12 ≤ (z66.2.1) then some (.inr (((z66.1), (z66.2.2)))) else ((f_X2_setColour (z66.2.2) (x0) ((z66.2.1)) (x1)).bind fun h13 => some (.inl (((z66.1) + 1), ((z66.2.1) + x5), h13)))))
def f_X2_put (h : PH) (a0 : Nat) (a1 : Int32) (a2 : Int32) (a3 : Int32) : Option (Int32 × PH) :=
  if okO h a0 1 = true then (if a2 < 0 then (f_X2_put_J31 h ) else ((rdI h a0 1 2).bind fun v1 => (if v1 ≤ a2 then (f_X2_put_J31 h ) else ((rdI h a0 1 3).bind fun v2 => (if v2 < 0 then (f_X2_put_J31 h ) else ((rdI h a0 1 3).bind fun v3 => ((rdR h a0 1 1).bind fun v4 => ((lnA h v4).bind fun v5 => (if v3 < v5 then ((rdR h a0 1 1).bind fun v6 => ((rdI h a0 1 3).bind fun v7 => ((stI h v6 v7 a1).bind fun h8 => ((rdI h8 a0 1 3).bind fun v9 => ((wrF h8 a0 1 3 (.int ((v9 + (1 : Int32))))).bind fun h10 => ((lpn (f_X2_put_L66 (a0) (a1) ((if (1 : Int32) < a3 then a3 else (1 : Int32)))) LF ((0 : Int32), a2, h10)).bind (fun w66 => (f_X2_put_J95 (w66.2) (w66.1))))))))) else (f_X2_put_J31 h )))))))))) else none
def f_X3_layOn (h : PH) (a0 : Nat) (a1 : Nat) (a2 : Int32) (a3 : Int32) : Option (Int32 × PH) :=
  if okO h a0 2 = true then ((rdI h a0 2 3).bind fun v1 => ((wrF h a0 2 3 (.int ((v1 + (1 : Int32))))).bind fun h2 => ((f_X3_gapAt h2 (a0) (a2)).bind fun v3 => ((f_X2_put h2 (a1) (a2) (a3) (v3)).bind fun q6 => some (q6.1, q6.2))))) else none
def f_X5_lay (h : PH) (a0 : Nat) (a1 : Int32) (a2 : Int32) (a3 : Int32) : Option (Except (String × PH) (Int32 × PH)) :=
  if okO h a0 4 = true then ((f_X5_existing h (a0) (a1)).bind fun r1 => (match r1 with | .error E4 => some (.error (E4, h)) | .ok v2 => ((f_X5_requireHue h (a0) (a2)).bind fun r5 => (match r5 with | .error E8 => some (.error (E8, h)) | .ok v6 => ((f_X5_requirePhase h (a0) (a2) (a3)).bind fun r9 => (match r9 with | .error E12 => some (.error (E12, h)) | .ok v10 => ((rdR h a0 4 0).bind fun v13 => ((f_X3_gapAt h (v13) (a2)).bind fun v14 => ((f_X2_reasonAgainst h (v2) (a2) (a3) (v14)).bind fun v15 => (if v15 = 0 then ((rdR h a0 4 2).bind fun v16 => ((rdR h a0 4 0).bind fun v17 => ((f_X0_save h (v16) (v17)).bind fun h18 => ((rdR h18 a0 4 0).bind fun v19 => ((f_X3_layOn h18 (v19) (v2) (a2) (a3)).bind fun q22 => some (.ok (q22.1, q22.2))))))) else some (.error ("java/lang/IllegalStateException", h)))))))))))) else none
def f_X2_placesOf_J30 (h : PH) (x2 : Int32)  : Option Int32 :=
  some (x2)
def f_X2_placesOf_J24 (h : PH) (x0 : Nat) (x1 : Int32) (x2 : Int32) (x3 : Int32)  : Option ((Int32 × Int32) ⊕ (Int32)) :=
  some (.inl (x2, (x3 + 1)))
def f_X2_placesOf_L4 (h : PH) (x0 : Nat) (x1 : Int32) : Int32 × Int32 → Option ((Int32 × Int32) ⊕ (Int32)) := fun z4 =>
  ((rdI h x0 1 2).bind fun v2 => (if v2 ≤ (z4.2) then some (.inr (((z4.1)))) else ((f_X2_colourAt h (x0) ((z4.2))).bind fun v3 => (if ¬ v3 = x1 then (f_X2_placesOf_J24 h (x0) (x1) ((z4.1)) ((z4.2))) else (f_X2_placesOf_J24 h (x0) (x1) (((z4.1) + 1)) ((z4.2)))))))
def f_X2_placesOf (h : PH) (a0 : Nat) (a1 : Int32) : Option Int32 :=
  if okO h a0 1 = true then ((lpn (f_X2_placesOf_L4 (h) (a0) (a1)) LF ((0 : Int32), (0 : Int32))).bind (fun w4 => (f_X2_placesOf_J30 h (w4)))) else none
def f_X2_remove_J104 (hh : PH) (x3 : Int32)  : Option (Int32 × PH) :=
  some (x3, hh)
def f_X2_remove_J98 (hh : PH) (x0 : Nat) (x1 : Int32) (x3 : Int32) (x4 : Int32)  : Option ((Int32 × PH) ⊕ (PH)) :=
  some (.inl ((x4 + 1), hh))
def f_X2_remove_L72 (x0 : Nat) (x1 : Int32) (x3 : Int32) : Int32 × PH → Option ((Int32 × PH) ⊕ (PH)) := fun z72 =>
  ((rdI (z72.2) x0 1 2).bind fun v5 => (if v5 ≤ (z72.1) then some (.inr (((z72.2)))) else ((f_X2_colourAt (z72.2) (x0) ((z72.1))).bind fun v6 => (if ¬ v6 = x1 then (f_X2_remove_J98 (z72.2) (x0) (x1) (x3) ((z72.1))) else ((f_X2_setColour (z72.2) (x0) ((z72.1)) (((-1) : Int32))).bind fun h7 => (f_X2_remove_J98 h7 (x0) (x1) (x3) ((z72.1))))))))
def f_X2_remove_J53 (hh : PH) (x0 : Nat) (x1 : Int32)  : Option (Int32 × PH) :=
  ((rdI hh x0 1 3).bind fun v1 => ((wrF hh x0 1 3 (.int ((v1 - (1 : Int32))))).bind fun h2 => ((f_X2_placesOf h2 (x0) (x1)).bind fun v3 => ((lpn (f_X2_remove_L72 (x0) (x1) (v3)) LF ((0 : Int32), h2)).bind (fun w72 => (f_X2_remove_J104 w72 (v3)))))))
def f_X2_remove_L16 (x0 : Nat) (x1 : Int32) : Int32 × PH → Option ((Int32 × PH) ⊕ (PH)) := fun z16 =>
  ((rdI (z16.2) x0 1 3).bind fun v10 => (if v10 ≤ (z16.1) then some (.inr (((z16.2)))) else ((rdR (z16.2) x0 1 1).bind fun v11 => ((lnA (z16.2) v11).bind fun v12 => (if v12 ≤ (z16.1) then some (.inr (((z16.2)))) else ((rdR (z16.2) x0 1 1).bind fun v13 => ((rdR (z16.2) x0 1 1).bind fun v14 => ((ldI (z16.2) v14 (z16.1)).bind fun v15 => ((stI (z16.2) v13 ((z16.1) - (1 : Int32)) v15).bind fun h16 => some (.inl (((z16.1) + 1), h16)))))))))))
def f_X2_remove (h : PH) (a0 : Nat) (a1 : Int32) : Option (Int32 × PH) :=
  if okO h a0 1 = true then ((f_X2_orderOf h (a0) (a1)).bind fun v8 => (if 0 ≤ v8 then ((lpn (f_X2_remove_L16 (a0) (a1)) LF ((v8 + (1 : Int32)), h)).bind (fun w16 => (f_X2_remove_J53 w16 (a0) (a1)))) else some ((0 : Int32), h))) else none
def f_X5_take (h : PH) (a0 : Nat) (a1 : Int32) (a2 : Int32) : Option (Except (String × PH) (Int32 × PH)) :=
  if okO h a0 4 = true then ((f_X5_existing h (a0) (a1)).bind fun r1 => (match r1 with | .error E4 => some (.error (E4, h)) | .ok v2 => ((f_X5_requireHue h (a0) (a2)).bind fun r5 => (match r5 with | .error E8 => some (.error (E8, h)) | .ok v6 => ((f_X2_orderOf h (v2) (a2)).bind fun v9 => (if ¬ v9 = ((-1) : Int32) then ((rdR h a0 4 2).bind fun v10 => ((rdR h a0 4 0).bind fun v11 => ((f_X0_save h (v10) (v11)).bind fun h12 => ((f_X2_remove h12 (v2) (a2)).bind fun q15 => some (.ok (q15.1, q15.2)))))) else some (.error ("java/lang/IllegalStateException", h)))))))) else none
def f_X2_length (h : PH) (a0 : Nat) : Option Int32 :=
  if okO h a0 1 = true then ((rdI h a0 1 2).bind fun v1 => some (v1)) else none
def f_X2_hueCount (h : PH) (a0 : Nat) : Option Int32 :=
  if okO h a0 1 = true then ((rdI h a0 1 3).bind fun v1 => some (v1)) else none
def f_X2_hueAt_J31 (h : PH)  (k0 : Int32) : Option Int32 :=
  some (k0)
def f_X2_hueAt_J30 (h : PH)   : Option Int32 :=
  (f_X2_hueAt_J31 h (((-1) : Int32)))
def f_X2_hueAt (h : PH) (a0 : Nat) (a1 : Int32) : Option Int32 :=
  if okO h a0 1 = true then (if a1 < 0 then (f_X2_hueAt_J30 h ) else ((rdI h a0 1 3).bind fun v1 => (if v1 ≤ a1 then (f_X2_hueAt_J30 h ) else ((rdR h a0 1 1).bind fun v2 => ((lnA h v2).bind fun v3 => (if v3 ≤ a1 then (f_X2_hueAt_J30 h ) else ((rdR h a0 1 1).bind fun v4 => ((ldI h v4 a1).bind fun v5 => (f_X2_hueAt_J31 h (v5)))))))))) else none
def f_X2_firstFrom_J19 (h : PH) (x3 : Int32)  : Option Int32 :=
  some (x3)
def f_X2_firstFrom_J27 (h : PH)   : Option Int32 :=
  some (((-1) : Int32))
def f_X2_firstFrom_L2 (h : PH) (x0 : Nat) (x1 : Int32) : Int32 → Option ((Int32) ⊕ (((Unit) ⊕ (Int32)))) := fun z2 =>
  ((rdI h x0 1 2).bind fun v2 => (if v2 ≤ z2 then some (.inr (.inl ())) else ((f_X2_colourAt h (x0) (z2)).bind fun v3 => (if ¬ v3 = x1 then some (.inl ((z2 + 1))) else some (.inr (.inr ((z2))))))))
def f_X2_firstFrom (h : PH) (a0 : Nat) (a1 : Int32) (a2 : Int32) : Option Int32 :=
  if okO h a0 1 = true then ((lpn (f_X2_firstFrom_L2 (h) (a0) (a1)) LF (a2)).bind (fun w2 => match w2 with | .inl w2 => (f_X2_firstFrom_J27 h ) | .inr w2 => (f_X2_firstFrom_J19 h (w2)))) else none
def f_X1_remainder_J11 (h : PH)  (k0 : Int32) : Option Int32 :=
  some (k0)
def f_X1_remainder (h : PH) (a0 : Int32) (a1 : Int32) : Option Int32 :=
  (if a1 ≤ 0 then (f_X1_remainder_J11 h ((0 : Int32))) else (if ¬ a1 = 0 then (f_X1_remainder_J11 h ((a0 - a0 / a1 * a1))) else none))
def f_X5_huesDueAt_J55 (h : PH) (x3 : Int32)  : Option Int32 :=
  some (x3)
def f_X5_huesDueAt_J49 (h : PH) (x0 : Nat) (x1 : Nat) (x2 : Int32) (x3 : Int32) (x4 : Int32)  : Option ((Int32 × Int32) ⊕ (Int32)) :=
  some (.inl (x3, (x4 + 1)))
def f_X5_huesDueAt_L5 (h : PH) (x0 : Nat) (x1 : Nat) (x2 : Int32) : Int32 × Int32 → Option ((Int32 × Int32) ⊕ (Int32)) := fun z5 =>
  ((f_X2_hueCount h (x1)).bind fun v2 => (if v2 ≤ (z5.2) then some (.inr (((z5.1)))) else ((f_X2_hueAt h (x1) ((z5.2))).bind fun v3 => ((f_X2_firstFrom h (x1) (v3) ((0 : Int32))).bind fun v4 => ((rdR h x0 4 0).bind fun v5 => ((f_X3_gapAt h (v5) (v3)).bind fun v6 => ((f_X1_remainder h ((x2 - v4)) (v6)).bind fun v7 => (if ¬ v7 = 0 then (f_X5_huesDueAt_J49 h (x0) (x1) (x2) ((z5.1)) ((z5.2))) else (f_X5_huesDueAt_J49 h (x0) (x1) (x2) (((z5.1) + 1)) ((z5.2)))))))))))
def f_X5_huesDueAt (h : PH) (a0 : Nat) (a1 : Nat) (a2 : Int32) : Option Int32 :=
  if okO h a0 4 = true then ((lpn (f_X5_huesDueAt_L5 (h) (a0) (a1) (a2)) LF ((0 : Int32), (0 : Int32))).bind (fun w5 => (f_X5_huesDueAt_J55 h (w5)))) else none
def f_X5_greatestLength_J21 (h : PH) (x2 : Int32)  : Option Int32 :=
  some (x2)
def f_X5_greatestLength_J29 (h : PH)   : Option Int32 :=
  some ((60 : Int32))
def f_X5_greatestLength_L5 (h : PH) (x0 : Nat) (x1 : Nat) : Int32 → Option ((Int32) ⊕ (((Unit) ⊕ (Int32)))) := fun z5 =>
  (if (60 : Int32) ≤ z5 then some (.inr (.inl ())) else ((f_X5_huesDueAt h (x0) (x1) (z5)).bind fun v3 => (if v3 ≤ (1 : Int32) then some (.inl ((z5 + 1))) else some (.inr (.inr ((z5)))))))
def f_X5_greatestLength (h : PH) (a0 : Nat) (a1 : Nat) : Option Int32 :=
  if okO h a0 4 = true then ((f_X2_length h (a1)).bind fun v1 => ((lpn (f_X5_greatestLength_L5 (h) (a0) (a1)) LF (v1)).bind (fun w5 => match w5 with | .inl w5 => (f_X5_greatestLength_J29 h ) | .inr w5 => (f_X5_greatestLength_J21 h (w5))))) else none
def f_X5_changeLength_J57 (hh : PH) (x0 : Nat) (x1 : Nat)  : Option PH :=
  ((rdR hh x0 4 4).bind fun v1 => ((f_X2_copyFrom hh (x1) (v1)).bind fun h2 => some h2))
def f_X5_changeLength_L10 (x0 : Nat) (x1 : Nat) : Int32 × PH → Option ((Int32 × PH) ⊕ (PH)) := fun z10 =>
  ((f_X2_hueCount (z10.2) (x1)).bind fun v6 => (if v6 ≤ (z10.1) then some (.inr (((z10.2)))) else ((f_X2_hueAt (z10.2) (x1) ((z10.1))).bind fun v7 => ((rdR (z10.2) x0 4 4).bind fun v8 => ((f_X2_firstFrom (z10.2) (x1) (v7) ((0 : Int32))).bind fun v9 => ((rdR (z10.2) x0 4 0).bind fun v10 => ((f_X3_gapAt (z10.2) (v10) (v7)).bind fun v11 => ((f_X2_put (z10.2) (v8) (v7) (v9) (v11)).bind fun q14 => some (.inl (((z10.1) + 1), q14.2))))))))))
def f_X5_changeLength (h : PH) (a0 : Nat) (a1 : Nat) (a2 : Int32) : Option PH :=
  if okO h a0 4 = true then ((rdR h a0 4 4).bind fun v3 => ((f_X2_begin h (v3) (a2)).bind fun h4 => ((lpn (f_X5_changeLength_L10 (a0) (a1)) LF ((0 : Int32), h4)).bind (fun w10 => (f_X5_changeLength_J57 w10 (a0) (a1)))))) else none
def f_X5_stretch (h : PH) (a0 : Nat) (a1 : Int32) (a2 : Int32) : Option (Except (String × PH) (Int32 × PH)) :=
  if okO h a0 4 = true then ((f_X5_existing h (a0) (a1)).bind fun r1 => (match r1 with | .error E4 => some (.error (E4, h)) | .ok v2 => ((f_X5_requireLength h (a0) (a2)).bind fun r5 => (match r5 with | .error E8 => some (.error (E8, h)) | .ok v6 => ((f_X5_greatestLength h (a0) (v2)).bind fun v9 => (if a2 ≤ v9 then ((rdR h a0 4 2).bind fun v10 => ((rdR h a0 4 0).bind fun v11 => ((f_X0_save h (v10) (v11)).bind fun h12 => ((f_X2_hueCount h12 (v2)).bind fun v13 => ((f_X5_changeLength h12 (a0) (v2) (a2)).bind fun h14 => ((f_X2_hueCount h14 (v2)).bind fun v15 => some (.ok ((v13 - v15), h14)))))))) else some (.error ("java/lang/IllegalStateException", h)))))))) else none
def f_X5_layBack_J61 (hh : PH)   : Option PH :=
  some hh
def f_X5_layBack_J55 (hh : PH) (x0 : Nat) (x1 : Nat) (x2 : Int32) (x3 : Nat) (x4 : Int32)  : Option ((Int32 × PH) ⊕ (PH)) :=
  some (.inl ((x4 + 1), hh))
def f_X5_layBack_L3 (x0 : Nat) (x1 : Nat) (x2 : Int32) (x3 : Nat) : Int32 × PH → Option ((Int32 × PH) ⊕ (PH)) := fun z3 =>
  ((f_X2_hueCount (z3.2) (x1)).bind fun v2 => (if v2 ≤ (z3.1) then some (.inr (((z3.2)))) else ((f_X2_hueAt (z3.2) (x1) ((z3.1))).bind fun v3 => ((f_X2_firstFrom (z3.2) (x1) (v3) (x2)).bind fun v4 => (if v4 = ((-1) : Int32) then (f_X5_layBack_J55 (z3.2) (x0) (x1) (x2) (x3) ((z3.1))) else ((rdR (z3.2) x0 4 0).bind fun v5 => ((f_X3_gapAt (z3.2) (v5) (v3)).bind fun v6 => ((f_X2_put (z3.2) (x3) (v3) ((v4 - x2)) (v6)).bind fun q9 => (f_X5_layBack_J55 q9.2 (x0) (x1) (x2) (x3) ((z3.1)))))))))))
def f_X5_layBack (h : PH) (a0 : Nat) (a1 : Nat) (a2 : Int32) (a3 : Nat) : Option PH :=
  if okO h a0 4 = true then ((lpn (f_X5_layBack_L3 (a0) (a1) (a2) (a3)) LF ((0 : Int32), h)).bind (fun w3 => (f_X5_layBack_J61 w3 ))) else none
def f_X3_countCut (h : PH) (a0 : Nat) : Option PH :=
  if okO h a0 2 = true then ((rdI h a0 2 5).bind fun v1 => ((wrF h a0 2 5 (.int ((v1 + (1 : Int32))))).bind fun h2 => some h2)) else none
def f_X5_cut_J21 (h : PH)   : Option (Except (String × PH) (Int32 × PH)) :=
  some (.error ("java/lang/IllegalArgumentException", h))
def f_X5_cut_J74 (hh : PH) (x0 : Nat) (x2 : Int32) (x3 : Nat)  : Option (Except (String × PH) (Int32 × PH)) :=
  ((f_X5_changeLength hh (x0) (x3) (x2)).bind fun h1 => ((rdR h1 x0 4 0).bind fun v2 => ((f_X3_countCut h1 (v2)).bind fun h3 => ((rdR h3 x0 4 0).bind fun v4 => ((f_X3_ropeCount h3 (v4)).bind fun v5 => some (.ok ((v5 - (1 : Int32)), h3)))))))
def f_X5_cut (h : PH) (a0 : Nat) (a1 : Int32) (a2 : Int32) : Option (Except (String × PH) (Int32 × PH)) :=
  if okO h a0 4 = true then ((f_X5_existing h (a0) (a1)).bind fun r6 => (match r6 with | .error E9 => some (.error (E9, h)) | .ok v7 => (if a2 < (1 : Int32) then (f_X5_cut_J21 h ) else ((f_X2_length h (v7)).bind fun v10 => (if a2 ≤ (v10 - (1 : Int32)) then ((f_X5_requireRoomForRope h (a0)).bind fun r11 => (match r11 with | .error E14 => some (.error (E14, h)) | .ok v12 => ((rdR h a0 4 2).bind fun v15 => ((rdR h a0 4 0).bind fun v16 => ((f_X0_save h (v15) (v16)).bind fun h17 => ((rdR h17 a0 4 0).bind fun v18 => ((f_X2_length h17 (v7)).bind fun v19 => ((f_X3_addRope h17 (v18) ((v19 - a2))).bind fun q22 => (match q22.1 with | none => (f_X5_cut_J74 q22.2 (a0) (a2) (v7)) | some a23 => ((f_X5_layBack q22.2 (a0) (v7) (a2) (a23)).bind fun h24 => (f_X5_cut_J74 h24 (a0) (a2) (v7)))))))))))) else (f_X5_cut_J21 h )))))) else none
def f_X2_lastOf_J20 (h : PH) (x2 : Int32)  : Option Int32 :=
  some (x2)
def f_X2_lastOf_J28 (h : PH)   : Option Int32 :=
  some (((-1) : Int32))
def f_X2_lastOf_L7 (h : PH) (x0 : Nat) (x1 : Int32) : Int32 → Option ((Int32) ⊕ (((Unit) ⊕ (Int32)))) := fun z7 =>
  (if z7 < 0 then some (.inr (.inl ())) else ((f_X2_colourAt h (x0) (z7)).bind fun v3 => (if ¬ v3 = x1 then some (.inl ((z7 + (-1)))) else some (.inr (.inr ((z7)))))))
def f_X2_lastOf (h : PH) (a0 : Nat) (a1 : Int32) : Option Int32 :=
  if okO h a0 1 = true then ((rdI h a0 1 2).bind fun v1 => ((lpn (f_X2_lastOf_L7 (h) (a0) (a1)) LF ((v1 - (1 : Int32)))).bind (fun w7 => match w7 with | .inl w7 => (f_X2_lastOf_J28 h ) | .inr w7 => (f_X2_lastOf_J20 h (w7))))) else none
def f_X2_differences_J34 (h : PH) (x2 : Int32)  : Option Int32 :=
  some (x2)
def f_X2_differences_J28 (h : PH) (x0 : Nat) (x1 : Nat) (x2 : Int32) (x3 : Int32)  : Option ((Int32 × Int32) ⊕ (Int32)) :=
  some (.inl (x2, (x3 + 1)))
def f_X2_differences_L4 (h : PH) (x0 : Nat) (x1 : Nat) : Int32 × Int32 → Option ((Int32 × Int32) ⊕ (Int32)) := fun z4 =>
  ((rdI h x0 1 2).bind fun v2 => (if v2 ≤ (z4.2) then some (.inr (((z4.1)))) else ((f_X2_colourAt h (x0) ((z4.2))).bind fun v3 => ((f_X2_colourAt h (x1) ((z4.2))).bind fun v4 => (if v3 = v4 then (f_X2_differences_J28 h (x0) (x1) ((z4.1)) ((z4.2))) else (f_X2_differences_J28 h (x0) (x1) (((z4.1) + 1)) ((z4.2))))))))
def f_X2_differences (h : PH) (a0 : Nat) (a1 : Nat) : Option Int32 :=
  if okO h a0 1 = true then ((lpn (f_X2_differences_L4 (h) (a0) (a1)) LF ((0 : Int32), (0 : Int32))).bind (fun w4 => (f_X2_differences_J34 h (w4)))) else none
def f_X5_turnRound_J62 (hh : PH) (x0 : Nat) (x1 : Nat)  : Option (Int32 × PH) :=
  ((rdR hh x0 4 4).bind fun v1 => ((f_X2_differences hh (x1) (v1)).bind fun v2 => ((rdR hh x0 4 4).bind fun v3 => ((f_X2_copyFrom hh (x1) (v3)).bind fun h4 => some (v2, h4)))))
def f_X5_turnRound_L13 (x0 : Nat) (x1 : Nat) : Int32 × PH → Option ((Int32 × PH) ⊕ (PH)) := fun z13 =>
  ((f_X2_hueCount (z13.2) (x1)).bind fun v9 => (if v9 ≤ (z13.1) then some (.inr (((z13.2)))) else ((f_X2_hueAt (z13.2) (x1) ((z13.1))).bind fun v10 => ((rdR (z13.2) x0 4 4).bind fun v11 => ((f_X2_length (z13.2) (x1)).bind fun v12 => ((f_X2_lastOf (z13.2) (x1) (v10)).bind fun v13 => ((rdR (z13.2) x0 4 0).bind fun v14 => ((f_X3_gapAt (z13.2) (v14) (v10)).bind fun v15 => ((f_X2_put (z13.2) (v11) (v10) (((v12 - (1 : Int32)) - v13)) (v15)).bind fun q18 => some (.inl (((z13.1) + 1), q18.2)))))))))))
def f_X5_turnRound (h : PH) (a0 : Nat) (a1 : Nat) : Option (Int32 × PH) :=
  if okO h a0 4 = true then ((rdR h a0 4 4).bind fun v5 => ((f_X2_length h (a1)).bind fun v6 => ((f_X2_begin h (v5) (v6)).bind fun h7 => ((lpn (f_X5_turnRound_L13 (a0) (a1)) LF ((0 : Int32), h7)).bind (fun w13 => (f_X5_turnRound_J62 w13 (a0) (a1))))))) else none
def f_X5_turn (h : PH) (a0 : Nat) (a1 : Int32) : Option (Except (String × PH) (Int32 × PH)) :=
  if okO h a0 4 = true then ((f_X5_existing h (a0) (a1)).bind fun r1 => (match r1 with | .error E4 => some (.error (E4, h)) | .ok v2 => ((rdR h a0 4 2).bind fun v5 => ((rdR h a0 4 0).bind fun v6 => ((f_X0_save h (v5) (v6)).bind fun h7 => ((f_X5_turnRound h7 (a0) (v2)).bind fun q10 => some (.ok (q10.1, q10.2)))))))) else none
def f_X5_draftLaid (h : PH) (a0 : Nat) (a1 : Int32) (a2 : Int32) : Option (Int32 × PH) :=
  if okO h a0 4 = true then ((rdR h a0 4 0).bind fun v1 => ((f_X3_gapAt h (v1) (a1)).bind fun v2 => ((rdR h a0 4 4).bind fun v3 => ((f_X2_reasonAgainst h (v3) (a1) (a2) (v2)).bind fun v4 => (if v4 = 0 then ((rdR h a0 4 4).bind fun v5 => ((f_X2_put h (v5) (a1) (a2) (v2)).bind fun q8 => some ((1 : Int32), q8.2))) else some ((0 : Int32), h)))))) else none
def f_X5_draftJoined_J153 (hh : PH) (x3 : Int32)  : Option (Int32 × PH) :=
  (if z01 x3 = true then some (x3, hh) else none)
def f_X5_draftJoined_J147 (hh : PH) (x0 : Nat) (x1 : Nat) (x2 : Nat) (x3 : Int32) (x4 : Int32)  : Option ((Int32 × Int32 × PH) ⊕ (Int32 × PH)) :=
  some (.inl (x3, (x4 + 1), hh))
def f_X5_draftJoined_J146 (hh : PH) (x0 : Nat) (x1 : Nat) (x2 : Nat) (x4 : Int32) (k0 : Int32) : Option ((Int32 × Int32 × PH) ⊕ (Int32 × PH)) :=
  (f_X5_draftJoined_J147 hh (x0) (x1) (x2) (k0) (x4))
def f_X5_draftJoined_J145 (hh : PH) (x0 : Nat) (x1 : Nat) (x2 : Nat) (x4 : Int32)  : Option ((Int32 × Int32 × PH) ⊕ (Int32 × PH)) :=
  (f_X5_draftJoined_J146 hh (x0) (x1) (x2) (x4) ((0 : Int32)))
def f_X5_draftJoined_L73 (x0 : Nat) (x1 : Nat) (x2 : Nat) : Int32 × Int32 × PH → Option ((Int32 × Int32 × PH) ⊕ (Int32 × PH)) := fun z73 =>
  ((f_X2_hueCount (z73.2.2) (x2)).bind fun v3 => (if v3 ≤ (z73.2.1) then some (.inr (((z73.1), (z73.2.2)))) else ((f_X2_hueAt (z73.2.2) (x2) ((z73.2.1))).bind fun v4 => ((f_X2_orderOf (z73.2.2) (x1) (v4)).bind fun v5 => (if ¬ v5 = ((-1) : Int32) then (f_X5_draftJoined_J147 (z73.2.2) (x0) (x1) (x2) ((z73.1)) ((z73.2.1))) else ((f_X2_length (z73.2.2) (x1)).bind fun v6 => ((f_X2_firstFrom (z73.2.2) (x2) (v4) ((0 : Int32))).bind fun v7 => ((rdR (z73.2.2) x0 4 0).bind fun v8 => ((f_X3_gapAt (z73.2.2) (v8) (v4)).bind fun v9 => ((f_X1_remainder (z73.2.2) ((v6 + v7)) (v9)).bind fun v10 => ((f_X5_draftLaid (z73.2.2) (x0) (v4) (v10)).bind fun q13 => (if q13.1 = 0 then (f_X5_draftJoined_J145 q13.2 (x0) (x1) (x2) ((z73.2.1))) else (if (z73.1) = 0 then (f_X5_draftJoined_J145 q13.2 (x0) (x1) (x2) ((z73.2.1))) else (f_X5_draftJoined_J146 q13.2 (x0) (x1) (x2) ((z73.2.1)) ((1 : Int32))))))))))))))))
def f_X5_draftJoined_J70 (hh : PH) (x0 : Nat) (x1 : Nat) (x2 : Nat) (x3 : Int32)  : Option (Int32 × PH) :=
  ((lpn (f_X5_draftJoined_L73 (x0) (x1) (x2)) LF (x3, (0 : Int32), hh)).bind (fun w73 => (f_X5_draftJoined_J153 (w73.2) (w73.1))))
def f_X5_draftJoined_J63 (hh : PH) (x0 : Nat) (x1 : Nat) (x2 : Nat) (x4 : Int32) (k0 : Int32) : Option ((Int32 × Int32 × PH) ⊕ (Int32 × PH)) :=
  some (.inl (k0, (x4 + 1), hh))
def f_X5_draftJoined_J62 (hh : PH) (x0 : Nat) (x1 : Nat) (x2 : Nat) (x4 : Int32)  : Option ((Int32 × Int32 × PH) ⊕ (Int32 × PH)) :=
  (f_X5_draftJoined_J63 hh (x0) (x1) (x2) (x4) ((0 : Int32)))
def f_X5_draftJoined_L21 (x0 : Nat) (x1 : Nat) (x2 : Nat) : Int32 × Int32 × PH → Option ((Int32 × Int32 × PH) ⊕ (Int32 × PH)) := fun z21 =>
  ((f_X2_hueCount (z21.2.2) (x1)).bind fun v19 => (if v19 ≤ (z21.2.1) then some (.inr (((z21.1), (z21.2.2)))) else ((f_X2_hueAt (z21.2.2) (x1) ((z21.2.1))).bind fun v20 => ((f_X2_firstFrom (z21.2.2) (x1) (v20) ((0 : Int32))).bind fun v21 => ((f_X5_draftLaid (z21.2.2) (x0) (v20) (v21)).bind fun q24 => (if q24.1 = 0 then (f_X5_draftJoined_J62 q24.2 (x0) (x1) (x2) ((z21.2.1))) else (if (z21.1) = 0 then (f_X5_draftJoined_J62 q24.2 (x0) (x1) (x2) ((z21.2.1))) else (f_X5_draftJoined_J63 q24.2 (x0) (x1) (x2) ((z21.2.1)) ((1 : Int32))))))))))
def f_X5_draftJoined (h : PH) (a0 : Nat) (a1 : Nat) (a2 : Nat) : Option (Int32 × PH) :=
  if okO h a0 4 = true then ((rdR h a0 4 4).bind fun v14 => ((f_X2_length h (a1)).bind fun v15 => ((f_X2_length h (a2)).bind fun v16 => ((f_X2_begin h (v14) ((v15 + v16))).bind fun h17 => ((lpn (f_X5_draftJoined_L21 (a0) (a1) (a2)) LF ((1 : Int32), (0 : Int32), h17)).bind (fun w21 => (f_X5_draftJoined_J70 (w21.2) (a0) (a1) (a2) (w21.1)))))))) else none
def f_X5_reasonAgainstJoining_J78 (h : PH)   : Option (Int32 × PH) :=
  some ((3 : Int32), h)
def f_X5_reasonAgainstJoining_J100 (hh : PH)  (k0 : Int32) : Option (Int32 × PH) :=
  some (k0, hh)
def f_X5_reasonAgainstJoining_J86 (h : PH) (x0 : Nat) (x1 : Nat) (x2 : Nat)  : Option (Int32 × PH) :=
  ((f_X5_draftJoined h (x0) (x1) (x2)).bind fun q3 => (if q3.1 = 0 then (f_X5_reasonAgainstJoining_J100 q3.2 ((4 : Int32))) else (f_X5_reasonAgainstJoining_J100 q3.2 ((0 : Int32)))))
def f_X5_reasonAgainstJoining_J80 (h : PH) (x0 : Nat) (x1 : Nat) (x2 : Nat) (x3 : Int32)  : Option ((Int32) ⊕ (((Unit) ⊕ (Unit)))) :=
  some (.inl ((x3 + 1)))
def f_X5_reasonAgainstJoining_L18 (hh : PH) (x0 : Nat) (x1 : Nat) (x2 : Nat) : Int32 → Option ((Int32) ⊕ (((Unit) ⊕ (Unit)))) := fun z18 =>
  ((f_X2_hueCount hh (x1)).bind fun v7 => (if v7 ≤ z18 then some (.inr (.inl ())) else ((f_X2_hueAt hh (x1) (z18)).bind fun v8 => ((f_X2_lastOf hh (x1) (v8)).bind fun v9 => ((rdR hh x0 4 0).bind fun v10 => ((f_X3_gapAt hh (v10) (v8)).bind fun v11 => ((f_X2_orderOf hh (x2) (v8)).bind fun v12 => (if v12 = ((-1) : Int32) then (f_X5_reasonAgainstJoining_J80 hh (x0) (x1) (x2) (z18)) else ((f_X2_length hh (x1)).bind fun v13 => ((f_X2_firstFrom hh (x2) (v8) ((0 : Int32))).bind fun v14 => (if (v9 + v11) = (v13 + v14) then (f_X5_reasonAgainstJoining_J80 hh (x0) (x1) (x2) (z18)) else some (.inr (.inr (()))))))))))))))
def f_X5_reasonAgainstJoining (h : PH) (a0 : Nat) (a1 : Nat) (a2 : Nat) : Option (Int32 × PH) :=
  if okO h a0 4 = true then ((f_X2_length h (a1)).bind fun v4 => ((f_X2_length h (a2)).bind fun v5 => (if (v4 + v5) ≤ (60 : Int32) then ((lpn (f_X5_reasonAgainstJoining_L18 (h) (a0) (a1) (a2)) LF ((0 : Int32))).bind (fun w18 => match w18 with | .inl w18 => (f_X5_reasonAgainstJoining_J86 h (a0) (a1) (a2)) | .inr w18 => (f_X5_reasonAgainstJoining_J78 h ))) else some ((2 : Int32), h)))) else none
def f_X3_countJoin (h : PH) (a0 : Nat) : Option PH :=
  if okO h a0 2 = true then ((rdI h a0 2 4).bind fun v1 => ((wrF h a0 2 4 (.int ((v1 + (1 : Int32))))).bind fun h2 => some h2)) else none
def f_X5_join_J28 (hh : PH)   : Option (Except (String × PH) (Int32 × PH)) :=
  some (.error ("java/lang/IllegalStateException", hh))
def f_X5_join (h : PH) (a0 : Nat) (a1 : Int32) (a2 : Int32) : Option (Except (String × PH) (Int32 × PH)) :=
  if okO h a0 4 = true then ((f_X5_existing h (a0) (a1)).bind fun r1 => (match r1 with | .error E4 => some (.error (E4, h)) | .ok v2 => ((f_X5_existing h (a0) (a2)).bind fun r5 => (match r5 with | .error E8 => some (.error (E8, h)) | .ok v6 => (if a1 = a2 then (f_X5_join_J28 h ) else ((f_X5_reasonAgainstJoining h (a0) (v2) (v6)).bind fun q11 => (if q11.1 = 0 then ((rdR q11.2 a0 4 2).bind fun v12 => ((rdR q11.2 a0 4 0).bind fun v13 => ((f_X0_save q11.2 (v12) (v13)).bind fun h14 => ((f_X5_draftJoined h14 (a0) (v2) (v6)).bind fun q17 => ((rdR q17.2 a0 4 4).bind fun v18 => ((f_X2_copyFrom q17.2 (v2) (v18)).bind fun h19 => ((rdR h19 a0 4 0).bind fun v20 => ((f_X3_removeRope h19 (v20) (a2)).bind fun h21 => ((rdR h21 a0 4 0).bind fun v22 => ((f_X3_countJoin h21 (v22)).bind fun h23 => ((f_X2_length h23 (v2)).bind fun v24 => some (.ok (v24, h23))))))))))))) else (f_X5_join_J28 q11.2 )))))))) else none
def f_X4_isFull_J17 (h : PH)  (k0 : Int32) : Option Int32 :=
  (if z01 k0 = true then some (k0) else none)
def f_X4_isFull (h : PH) (a0 : Nat) : Option Int32 :=
  if okO h a0 3 = true then ((rdI h a0 3 1).bind fun v2 => ((rdR h a0 3 0).bind fun v3 => ((lnA h v3).bind fun v4 => (if v2 < v4 then (f_X4_isFull_J17 h ((0 : Int32))) else (f_X4_isFull_J17 h ((1 : Int32))))))) else none
def f_X4_add_J39 (hh : PH)   : Option PH :=
  some hh
def f_X4_add (h : PH) (a0 : Nat) (a1 : Int32) : Option PH :=
  if okO h a0 3 = true then ((rdI h a0 3 1).bind fun v1 => (if v1 < 0 then (f_X4_add_J39 h ) else ((rdI h a0 3 1).bind fun v2 => ((rdR h a0 3 0).bind fun v3 => ((lnA h v3).bind fun v4 => (if v4 ≤ v2 then (f_X4_add_J39 h ) else ((rdR h a0 3 0).bind fun v5 => ((rdI h a0 3 1).bind fun v6 => ((stI h v5 v6 a1).bind fun h7 => ((rdI h7 a0 3 1).bind fun v8 => ((wrF h7 a0 3 1 (.int ((v8 + (1 : Int32))))).bind fun h9 => (f_X4_add_J39 h9 )))))))))))) else none
def f_X4_length (h : PH) (a0 : Nat) : Option Int32 :=
  if okO h a0 3 = true then ((rdI h a0 3 1).bind fun v1 => some (v1)) else none
def f_X5_append_J12 (h : PH)   : Option (Except (String × PH) (Int32 × PH)) :=
  some (.error ("java/lang/IllegalArgumentException", h))
def f_X5_append (h : PH) (a0 : Nat) (a1 : Int32) : Option (Except (String × PH) (Int32 × PH)) :=
  if okO h a0 4 = true then (if a1 < (33 : Int32) then (f_X5_append_J12 h ) else (if a1 ≤ (126 : Int32) then ((rdR h a0 4 3).bind fun v1 => ((f_X4_isFull h (v1)).bind fun v2 => (if v2 = 0 then ((rdR h a0 4 3).bind fun v3 => ((f_X4_add h (v3) (a1)).bind fun h4 => ((rdR h4 a0 4 3).bind fun v5 => ((f_X4_length h4 (v5)).bind fun v6 => some (.ok (v6, h4)))))) else some (.error ("java/lang/IllegalStateException", h))))) else (f_X5_append_J12 h ))) else none
def f_X4_empty (h : PH) (a0 : Nat) : Option PH :=
  if okO h a0 3 = true then ((wrF h a0 3 1 (.int ((0 : Int32)))).bind fun h1 => some h1) else none
def f_X5_clearBuffer (h : PH) (a0 : Nat) : Option (Int32 × PH) :=
  if okO h a0 4 = true then ((rdR h a0 4 3).bind fun v1 => ((f_X4_length h (v1)).bind fun v2 => ((rdR h a0 4 3).bind fun v3 => ((f_X4_empty h (v3)).bind fun h4 => some (v2, h4))))) else none
def f_X4_codeAt_J31 (h : PH)  (k0 : Int32) : Option Int32 :=
  some (k0)
def f_X4_codeAt_J30 (h : PH)   : Option Int32 :=
  (f_X4_codeAt_J31 h (((-1) : Int32)))
def f_X4_codeAt (h : PH) (a0 : Nat) (a1 : Int32) : Option Int32 :=
  if okO h a0 3 = true then (if a1 < 0 then (f_X4_codeAt_J30 h ) else ((rdI h a0 3 1).bind fun v1 => (if v1 ≤ a1 then (f_X4_codeAt_J30 h ) else ((rdR h a0 3 0).bind fun v2 => ((lnA h v2).bind fun v3 => (if v3 ≤ a1 then (f_X4_codeAt_J30 h ) else ((rdR h a0 3 0).bind fun v4 => ((ldI h v4 a1).bind fun v5 => (f_X4_codeAt_J31 h (v5)))))))))) else none
def f_X4_isBetween_J15 (h : PH)  (k0 : Int32) : Option Int32 :=
  (if z01 k0 = true then some (k0) else none)
def f_X4_isBetween_J14 (h : PH)   : Option Int32 :=
  (f_X4_isBetween_J15 h ((0 : Int32)))
def f_X4_isBetween (h : PH) (a0 : Int32) (a1 : Int32) (a2 : Int32) : Option Int32 :=
  (if a0 < a1 then (f_X4_isBetween_J14 h ) else (if a2 < a0 then (f_X4_isBetween_J14 h ) else (f_X4_isBetween_J15 h ((1 : Int32)))))
def f_X4_isHue (h : PH) (a0 : Int32) : Option Int32 :=
  ((f_X4_isBetween h (a0) ((97 : Int32)) ((104 : Int32))).bind fun v1 => (if z01 v1 = true then some (v1) else none))
def f_X4_dueBehindFirst (h : PH) (a0 : Int32) : Option Int32 :=
  ((f_X4_isHue h (a0)).bind fun v1 => (if v1 = 0 then (if a0 = 45 then some ((3 : Int32)) else (if a0 = 60 then some ((6 : Int32)) else (if a0 = 114 then some ((1 : Int32)) else some ((7 : Int32))))) else some ((2 : Int32))))
def f_X4_dueBehindLengthDigit_J39 (h : PH)  (k0 : Int32) : Option Int32 :=
  some (k0)
def f_X4_dueBehindLengthDigit (h : PH) (a0 : Int32) : Option Int32 :=
  (if ¬ a0 = (54 : Int32) then ((f_X4_isBetween h (a0) ((49 : Int32)) ((53 : Int32))).bind fun v1 => (if v1 = 0 then ((f_X4_isBetween h (a0) ((55 : Int32)) ((57 : Int32))).bind fun v2 => (if v2 = 0 then (f_X4_dueBehindLengthDigit_J39 h ((7 : Int32))) else (f_X4_dueBehindLengthDigit_J39 h ((6 : Int32))))) else some ((4 : Int32)))) else some ((5 : Int32)))
def f_X4_dueBehindPhaseDigit_J26 (h : PH)  (k0 : Int32) : Option Int32 :=
  some (k0)
def f_X4_dueBehindPhaseDigit (h : PH) (a0 : Int32) : Option Int32 :=
  (if ¬ a0 = (49 : Int32) then ((f_X4_isBetween h (a0) ((48 : Int32)) ((57 : Int32))).bind fun v1 => (if v1 = 0 then (f_X4_dueBehindPhaseDigit_J26 h ((7 : Int32))) else (f_X4_dueBehindPhaseDigit_J26 h ((6 : Int32))))) else some ((4 : Int32)))
def f_X4_dueBehindComma_J12 (h : PH)  (k0 : Int32) : Option Int32 :=
  some (k0)
def f_X4_dueBehindComma (h : PH) (a0 : Int32) : Option Int32 :=
  (if ¬ a0 = (44 : Int32) then (f_X4_dueBehindComma_J12 h ((7 : Int32))) else (f_X4_dueBehindComma_J12 h ((0 : Int32))))
def f_X4_dueBehind_J73 (h : PH)  (k0 : Int32) : Option Int32 :=
  some (k0)
def f_X4_dueBehind_J94 (h : PH)  (k0 : Int32) : Option Int32 :=
  some (k0)
def f_X4_dueBehind_J110 (h : PH)  (k0 : Int32) : Option Int32 :=
  some (k0)
def f_X4_dueBehind (h : PH) (a0 : Int32) (a1 : Int32) : Option Int32 :=
  (if a0 = 0 then ((f_X4_dueBehindFirst h (a1)).bind fun v1 => some (v1)) else (if a0 = 1 then ((f_X4_dueBehindLengthDigit h (a1)).bind fun v2 => some (v2)) else (if a0 = 2 then ((f_X4_dueBehindPhaseDigit h (a1)).bind fun v3 => some (v3)) else (if a0 = 3 then ((f_X4_isHue h (a1)).bind fun v4 => (if v4 = 0 then (f_X4_dueBehind_J73 h ((7 : Int32))) else (f_X4_dueBehind_J73 h ((6 : Int32))))) else (if a0 = 4 then ((f_X4_isBetween h (a1) ((48 : Int32)) ((57 : Int32))).bind fun v5 => (if v5 = 0 then ((f_X4_dueBehindComma h (a1)).bind fun v6 => (f_X4_dueBehind_J94 h (v6))) else (f_X4_dueBehind_J94 h ((6 : Int32))))) else (if a0 = 5 then (if ¬ a1 = (48 : Int32) then ((f_X4_dueBehindComma h (a1)).bind fun v7 => (f_X4_dueBehind_J110 h (v7))) else (f_X4_dueBehind_J110 h ((6 : Int32)))) else (if a0 = 6 then ((f_X4_dueBehindComma h (a1)).bind fun v8 => some (v8)) else some ((7 : Int32)))))))))
def f_X4_firstWrong_J28 (h : PH) (x2 : Int32)  : Option Int32 :=
  some (x2)
def f_X4_firstWrong_J36 (h : PH) (x0 : Nat)  : Option Int32 :=
  ((rdI h x0 3 1).bind fun v1 => some (v1))
def f_X4_firstWrong_L4 (h : PH) (x0 : Nat) : Int32 × Int32 → Option ((Int32 × Int32) ⊕ (((Unit) ⊕ (Int32)))) := fun z4 =>
  ((rdI h x0 3 1).bind fun v3 => (if v3 ≤ (z4.2) then some (.inr (.inl ())) else ((f_X4_codeAt h (x0) ((z4.2))).bind fun v4 => ((f_X4_dueBehind h ((z4.1)) (v4)).bind fun v5 => (if ¬ v5 = (7 : Int32) then some (.inl (v5, ((z4.2) + 1))) else some (.inr (.inr (((z4.2))))))))))
def f_X4_firstWrong (h : PH) (a0 : Nat) : Option Int32 :=
  if okO h a0 3 = true then ((lpn (f_X4_firstWrong_L4 (h) (a0)) LF ((0 : Int32), (0 : Int32))).bind (fun w4 => match w4 with | .inl w4 => (f_X4_firstWrong_J36 h (a0)) | .inr w4 => (f_X4_firstWrong_J28 h (w4)))) else none
def f_X5_firstError (h : PH) (a0 : Nat) : Option Int32 :=
  if okO h a0 4 = true then ((rdR h a0 4 3).bind fun v1 => ((f_X4_firstWrong h (v1)).bind fun v2 => some (v2))) else none
def f_X4_isComplete_J49 (h : PH)  (k0 : Int32) : Option Int32 :=
  (if z01 k0 = true then some (k0) else none)
def f_X4_isComplete_J44 (h : PH)   : Option Int32 :=
  (f_X4_isComplete_J49 h ((1 : Int32)))
def f_X4_isComplete_J28 (h : PH) (x1 : Int32)  : Option Int32 :=
  (if x1 = (4 : Int32) then (f_X4_isComplete_J44 h ) else (if x1 = (5 : Int32) then (f_X4_isComplete_J44 h ) else (if ¬ x1 = (6 : Int32) then (f_X4_isComplete_J49 h ((0 : Int32))) else (f_X4_isComplete_J44 h ))))
def f_X4_isComplete_L4 (h : PH) (x0 : Nat) : Int32 × Int32 → Option ((Int32 × Int32) ⊕ (Int32)) := fun z4 =>
  ((rdI h x0 3 1).bind fun v3 => (if v3 ≤ (z4.2) then some (.inr (((z4.1)))) else ((f_X4_codeAt h (x0) ((z4.2))).bind fun v4 => ((f_X4_dueBehind h ((z4.1)) (v4)).bind fun v5 => some (.inl (v5, ((z4.2) + 1)))))))
def f_X4_isComplete (h : PH) (a0 : Nat) : Option Int32 :=
  if okO h a0 3 = true then ((lpn (f_X4_isComplete_L4 (h) (a0)) LF ((0 : Int32), (0 : Int32))).bind (fun w4 => (f_X4_isComplete_J28 h (w4)))) else none
def f_X4_partEnd_J20 (h : PH) (x2 : Int32)  : Option Int32 :=
  some (x2)
def f_X4_partEnd_J28 (h : PH) (x0 : Nat)  : Option Int32 :=
  ((rdI h x0 3 1).bind fun v1 => some (v1))
def f_X4_partEnd_L2 (h : PH) (x0 : Nat) : Int32 → Option ((Int32) ⊕ (((Unit) ⊕ (Int32)))) := fun z2 =>
  ((rdI h x0 3 1).bind fun v3 => (if v3 ≤ z2 then some (.inr (.inl ())) else ((f_X4_codeAt h (x0) (z2)).bind fun v4 => (if ¬ v4 = (44 : Int32) then some (.inl ((z2 + 1))) else some (.inr (.inr ((z2))))))))
def f_X4_partEnd (h : PH) (a0 : Nat) (a1 : Int32) : Option Int32 :=
  if okO h a0 3 = true then ((lpn (f_X4_partEnd_L2 (h) (a0)) LF (a1)).bind (fun w2 => match w2 with | .inl w2 => (f_X4_partEnd_J28 h (a0)) | .inr w2 => (f_X4_partEnd_J20 h (w2)))) else none
def f_X4_numberIn_J32 (h : PH) (x3 : Int32)  : Option Int32 :=
  some (x3)
def f_X4_numberIn_L5 (h : PH) (x0 : Nat) (x2 : Int32) : Int32 × Int32 → Option ((Int32 × Int32) ⊕ (Int32)) := fun z5 =>
  (if x2 ≤ (z5.2) then some (.inr (((z5.1)))) else ((f_X4_codeAt h (x0) ((z5.2))).bind fun v2 => some (.inl (((((10 : Int32) * (z5.1)) + v2) - (48 : Int32)), ((z5.2) + 1)))))
def f_X4_numberIn (h : PH) (a0 : Nat) (a1 : Int32) (a2 : Int32) : Option Int32 :=
  if okO h a0 3 = true then ((lpn (f_X4_numberIn_L5 (h) (a0) (a2)) LF ((0 : Int32), a1)).bind (fun w5 => (f_X4_numberIn_J32 h (w5)))) else none
def f_X5_playLaying_J27 (h : PH)   : Option (Int32 × PH) :=
  some ((0 : Int32), h)
def f_X5_playLaying (h : PH) (a0 : Nat) (a1 : Nat) (a2 : Int32) (a3 : Int32) : Option (Int32 × PH) :=
  if okO h a0 4 = true then ((rdR h a0 4 0).bind fun v1 => ((f_X3_gapAt h (v1) (a2)).bind fun v2 => (if v2 ≤ a3 then (f_X5_playLaying_J27 h ) else ((f_X2_reasonAgainst h (a1) (a2) (a3) (v2)).bind fun v3 => (if v3 = 0 then ((rdR h a0 4 0).bind fun v4 => ((f_X3_layOn h (v4) (a1) (a2) (a3)).bind fun q7 => some ((1 : Int32), q7.2))) else (f_X5_playLaying_J27 h )))))) else none
def f_X5_playPart_J41 (hh : PH)  (k0 : Int32) : Option (Int32 × PH) :=
  (if z01 k0 = true then some (k0, hh) else none)
def f_X5_playPart_J114 (hh : PH)  (k0 : Int32) : Option (Int32 × PH) :=
  (if z01 k0 = true then some (k0, hh) else none)
def f_X5_playPart (h : PH) (a0 : Nat) (a1 : Int32) (a2 : Int32) : Option (Int32 × PH) :=
  if okO h a0 4 = true then ((rdR h a0 4 3).bind fun v3 => ((f_X4_codeAt h (v3) (a1)).bind fun v4 => (if ¬ v4 = (114 : Int32) then ((rdR h a0 4 0).bind fun v5 => ((rdR h a0 4 0).bind fun v6 => ((f_X3_ropeCount h (v6)).bind fun v7 => ((f_X3_ropeAt h (v5) ((v7 - (1 : Int32)))).bind fun v8 => (match v8 with | none => some ((0 : Int32), h) | some a9 => (if ¬ v4 = (60 : Int32) then (if ¬ v4 = (45 : Int32) then ((rdR h a0 4 3).bind fun v10 => ((f_X4_numberIn h (v10) ((a1 + (1 : Int32))) (a2)).bind fun v11 => ((f_X5_playLaying h (a0) (a9) ((v4 - (97 : Int32))) (v11)).bind fun q14 => (if z01 q14.1 = true then some (q14.1, q14.2) else none)))) else ((rdR h a0 4 3).bind fun v16 => ((f_X4_codeAt h (v16) ((a1 + (1 : Int32)))).bind fun v17 => ((f_X2_remove h (a9) ((v17 - (97 : Int32)))).bind fun q20 => (if q20.1 ≤ 0 then (f_X5_playPart_J114 q20.2 ((0 : Int32))) else (f_X5_playPart_J114 q20.2 ((1 : Int32)))))))) else ((f_X5_turnRound h (a0) (a9)).bind fun q23 => some ((1 : Int32), q23.2)))))))) else ((rdR h a0 4 0).bind fun v24 => ((rdR h a0 4 3).bind fun v25 => ((f_X4_numberIn h (v25) ((a1 + (1 : Int32))) (a2)).bind fun v26 => ((f_X3_addRope h (v24) (v26)).bind fun q29 => (match q29.1 with | none => (f_X5_playPart_J41 q29.2 ((0 : Int32))) | some a30 => (f_X5_playPart_J41 q29.2 ((1 : Int32))))))))))) else none
def f_X5_play_J91 (hh : PH) (x0 : Nat) (x1 : Int32)  : Option (Except (String × PH) (Int32 × PH)) :=
  ((rdR hh x0 4 3).bind fun v1 => ((f_X4_empty hh (v1)).bind fun h2 => some (.ok (x1, h2))))
def f_X5_play_J74 (hh : PH) (x0 : Nat) (x1 : Int32)  : Option (Except (String × PH) (Int32 × PH)) :=
  (f_X5_play_J91 hh (x0) (x1))
def f_X5_play_L37 (x0 : Nat) : Int32 × Int32 × Int32 × PH → Option ((Int32 × Int32 × Int32 × PH) ⊕ (((Int32 × PH) ⊕ (Int32 × PH)))) := fun z37 =>
  (if (60 : Int32) ≤ (z37.2.2.1) then some (.inr (.inl ((z37.1), (z37.2.2.2)))) else ((rdR (z37.2.2.2) x0 4 3).bind fun v9 => ((f_X4_length (z37.2.2.2) (v9)).bind fun v10 => (if v10 ≤ (z37.2.1) then some (.inr (.inl ((z37.1), (z37.2.2.2)))) else ((rdR (z37.2.2.2) x0 4 3).bind fun v11 => ((f_X4_partEnd (z37.2.2.2) (v11) ((z37.2.1))).bind fun v12 => ((f_X5_playPart (z37.2.2.2) (x0) ((z37.2.1)) (v12)).bind fun q15 => (if ¬ q15.1 = 0 then some (.inl (((z37.1) + 1), (v12 + (1 : Int32)), ((z37.2.2.1) + 1), q15.2)) else some (.inr (.inr (((z37.1), q15.2))))))))))))
def f_X5_play (h : PH) (a0 : Nat) : Option (Except (String × PH) (Int32 × PH)) :=
  if okO h a0 4 = true then ((rdR h a0 4 3).bind fun v3 => ((f_X4_isComplete h (v3)).bind fun v4 => (if ¬ v4 = 0 then ((rdR h a0 4 2).bind fun v5 => ((rdR h a0 4 0).bind fun v6 => ((f_X0_save h (v5) (v6)).bind fun h7 => ((lpn (f_X5_play_L37 (a0)) LF ((0 : Int32), (0 : Int32), (0 : Int32), h7)).bind (fun w37 => match w37 with | .inl w37 => (f_X5_play_J91 (w37.2) (a0) (w37.1)) | .inr w37 => (f_X5_play_J74 (w37.2) (a0) (w37.1))))))) else some (.error ("java/lang/IllegalArgumentException", h))))) else none
def f_X0_size (h : PH) (a0 : Nat) : Option Int32 :=
  if okO h a0 0 = true then ((rdI h a0 0 1).bind fun v1 => some (v1)) else none
def f_X0_restoreLatest_J30 (hh : PH)   : Option PH :=
  some hh
def f_X0_restoreLatest (h : PH) (a0 : Nat) (a1 : Nat) : Option PH :=
  if okO h a0 0 = true then ((rdI h a0 0 1).bind fun v1 => ((f_X0_rowAt h (a0) ((v1 - (1 : Int32)))).bind fun v2 => (match v2 with | none => (f_X0_restoreLatest_J30 h ) | some a3 => ((f_X3_copyFrom h (a1) (a3)).bind fun h4 => ((rdI h4 a0 0 1).bind fun v5 => ((wrF h4 a0 0 1 (.int ((v5 - (1 : Int32))))).bind fun h6 => (f_X0_restoreLatest_J30 h6 ))))))) else none
def f_X5_undo (h : PH) (a0 : Nat) : Option (Except (String × PH) (Int32 × PH)) :=
  if okO h a0 4 = true then ((rdR h a0 4 2).bind fun v1 => ((f_X0_size h (v1)).bind fun v2 => (if ¬ v2 = 0 then ((rdR h a0 4 2).bind fun v3 => ((rdR h a0 4 0).bind fun v4 => ((f_X0_restoreLatest h (v3) (v4)).bind fun h5 => ((rdR h5 a0 4 2).bind fun v6 => ((f_X0_size h5 (v6)).bind fun v7 => some (.ok (v7, h5))))))) else some (.error ("java/lang/IllegalStateException", h))))) else none
def f_X5_keep (h : PH) (a0 : Nat) : Option (Int32 × PH) :=
  if okO h a0 4 = true then ((rdR h a0 4 1).bind fun v1 => ((rdR h a0 4 0).bind fun v2 => ((f_X3_copyFrom h (v1) (v2)).bind fun h3 => ((wrF h3 a0 4 5 (.int ((1 : Int32)))).bind fun h4 => ((rdR h4 a0 4 0).bind fun v5 => ((f_X3_ropeCount h4 (v5)).bind fun v6 => some (v6, h4))))))) else none
def f_X5_restore (h : PH) (a0 : Nat) : Option (Except (String × PH) (Int32 × PH)) :=
  if okO h a0 4 = true then ((rdI h a0 4 5).bind fun v1 => (if ¬ v1 = 0 then ((rdR h a0 4 2).bind fun v2 => ((rdR h a0 4 0).bind fun v3 => ((f_X0_save h (v2) (v3)).bind fun h4 => ((rdR h4 a0 4 0).bind fun v5 => ((rdR h4 a0 4 1).bind fun v6 => ((f_X3_copyFrom h4 (v5) (v6)).bind fun h7 => ((rdR h7 a0 4 0).bind fun v8 => ((f_X3_ropeCount h7 (v8)).bind fun v9 => some (.ok (v9, h7)))))))))) else some (.error ("java/lang/IllegalStateException", h)))) else none
def f_X5_place_J18 (h : PH)   : Option (Except String Int32) :=
  some (.error "java/lang/IndexOutOfBoundsException")
def f_X5_place (h : PH) (a0 : Nat) (a1 : Int32) (a2 : Int32) : Option (Except String Int32) :=
  if okO h a0 4 = true then ((f_X5_existing h (a0) (a1)).bind fun r1 => (match r1 with | .error E4 => some (.error E4) | .ok v2 => (if a2 < 0 then (f_X5_place_J18 h ) else ((f_X2_length h (v2)).bind fun v5 => (if a2 < v5 then ((f_X2_colourAt h (v2) (a2)).bind fun v6 => some (.ok (v6))) else (f_X5_place_J18 h )))))) else none
def f_X5_requireWhat_J9 (h : PH)   : Option (Except String Unit) :=
  some (.error "java/lang/IllegalArgumentException")
def f_X5_requireWhat (h : PH) (a0 : Nat) (a1 : Int32) (a2 : Int32) : Option (Except String Unit) :=
  if okO h a0 4 = true then (if a1 < 0 then (f_X5_requireWhat_J9 h ) else (if a1 < a2 then some (.ok ()) else (f_X5_requireWhat_J9 h ))) else none
def f_X2_mostHolesSideBySide_J43 (h : PH) (x1 : Int32)  : Option Int32 :=
  some (x1)
def f_X2_mostHolesSideBySide_J30 (h : PH) (x0 : Nat) (x1 : Int32) (x3 : Int32) (k0 : Int32) : Option ((Int32 × Int32 × Int32) ⊕ (Int32)) :=
  some (.inl ((if x1 < k0 then k0 else x1), k0, (x3 + 1)))
def f_X2_mostHolesSideBySide_L6 (h : PH) (x0 : Nat) : Int32 × Int32 × Int32 → Option ((Int32 × Int32 × Int32) ⊕ (Int32)) := fun z6 =>
  ((rdI h x0 1 2).bind fun v2 => (if v2 ≤ (z6.2.2) then some (.inr (((z6.1)))) else ((f_X2_colourAt h (x0) ((z6.2.2))).bind fun v3 => (if ¬ v3 = ((-1) : Int32) then (f_X2_mostHolesSideBySide_J30 h (x0) ((z6.1)) ((z6.2.2)) ((0 : Int32))) else (f_X2_mostHolesSideBySide_J30 h (x0) ((z6.1)) ((z6.2.2)) (((z6.2.1) + (1 : Int32))))))))
def f_X2_mostHolesSideBySide (h : PH) (a0 : Nat) : Option Int32 :=
  if okO h a0 1 = true then ((lpn (f_X2_mostHolesSideBySide_L6 (h) (a0)) LF ((0 : Int32), (0 : Int32), (0 : Int32))).bind (fun w6 => (f_X2_mostHolesSideBySide_J43 h (w6)))) else none
def f_X1_greatestCommonDivisor_J34 (h : PH) (x2 : Int32)  : Option Int32 :=
  some (x2)
def f_X1_greatestCommonDivisor_L7 (h : PH)  : Int32 × Int32 × Int32 → Option ((Int32 × Int32 × Int32) ⊕ (Int32)) := fun z7 =>
  (if (64 : Int32) ≤ (z7.2.2) then some (.inr (((z7.1)))) else (if (z7.2.1) ≤ 0 then some (.inr (((z7.1)))) else (if ¬ (z7.2.1) = 0 then some (.inl ((z7.2.1), ((z7.1) - (z7.1) / (z7.2.1) * (z7.2.1)), ((z7.2.2) + 1))) else none)))
def f_X1_greatestCommonDivisor (h : PH) (a0 : Int32) (a1 : Int32) : Option Int32 :=
  ((lpn (f_X1_greatestCommonDivisor_L7 (h)) LF (a0, a1, (0 : Int32))).bind (fun w7 => (f_X1_greatestCommonDivisor_J34 h (w7))))
def f_X1_leastCommonMultiple_J19 (h : PH)  (k0 : Int32) : Option Int32 :=
  some (k0)
def f_X1_leastCommonMultiple (h : PH) (a0 : Int32) (a1 : Int32) : Option Int32 :=
  ((f_X1_greatestCommonDivisor h (a0) (a1)).bind fun v1 => (if v1 ≤ 0 then (f_X1_leastCommonMultiple_J19 h ((0 : Int32))) else (if ¬ v1 = 0 then (f_X1_leastCommonMultiple_J19 h (((a0 / v1) * a1))) else none)))
def f_X5_period_J35 (h : PH) (x2 : Int32)  : Option Int32 :=
  some (x2)
def f_X5_period_L4 (h : PH) (x0 : Nat) (x1 : Nat) : Int32 × Int32 → Option ((Int32 × Int32) ⊕ (Int32)) := fun z4 =>
  ((f_X2_hueCount h (x1)).bind fun v2 => (if v2 ≤ (z4.2) then some (.inr (((z4.1)))) else ((rdR h x0 4 0).bind fun v3 => ((f_X2_hueAt h (x1) ((z4.2))).bind fun v4 => ((f_X3_gapAt h (v3) (v4)).bind fun v5 => ((f_X1_leastCommonMultiple h ((z4.1)) (v5)).bind fun v6 => some (.inl (v6, ((z4.2) + 1)))))))))
def f_X5_period (h : PH) (a0 : Nat) (a1 : Nat) : Option Int32 :=
  if okO h a0 4 = true then ((lpn (f_X5_period_L4 (h) (a0) (a1)) LF ((1 : Int32), (0 : Int32))).bind (fun w4 => (f_X5_period_J35 h (w4)))) else none
def f_X5_ropeNumber (h : PH) (a0 : Nat) (a1 : Nat) (a2 : Int32) : Option Int32 :=
  if okO h a0 4 = true then (if a2 = 0 then ((f_X2_length h (a1)).bind fun v1 => some (v1)) else (if a2 = 1 then ((f_X2_hueCount h (a1)).bind fun v2 => some (v2)) else (if a2 = 2 then ((f_X2_placesOf h (a1) (((-1) : Int32))).bind fun v3 => some (v3)) else (if a2 = 3 then ((f_X2_firstFrom h (a1) (((-1) : Int32)) ((0 : Int32))).bind fun v4 => some (v4)) else (if a2 = 4 then ((f_X2_mostHolesSideBySide h (a1)).bind fun v5 => some (v5)) else ((f_X5_period h (a0) (a1)).bind fun v6 => some (v6))))))) else none
def f_X5_ropeOf (h : PH) (a0 : Nat) (a1 : Int32) (a2 : Int32) : Option (Except String Int32) :=
  if okO h a0 4 = true then ((f_X5_existing h (a0) (a1)).bind fun r1 => (match r1 with | .error E4 => some (.error E4) | .ok v2 => ((f_X5_requireWhat h (a0) (a2) ((6 : Int32))).bind fun r5 => (match r5 with | .error E8 => some (.error E8) | .ok v6 => ((f_X5_ropeNumber h (a0) (v2) (a2)).bind fun v9 => some (.ok (v9))))))) else none
def f_X2_hueNumber (h : PH) (a0 : Nat) (a1 : Int32) (a2 : Int32) : Option Int32 :=
  if okO h a0 1 = true then ((f_X2_orderOf h (a0) (a1)).bind fun v1 => (if ¬ v1 = ((-1) : Int32) then (if a2 = 0 then ((f_X2_firstFrom h (a0) (a1) ((0 : Int32))).bind fun v2 => some (v2)) else (if a2 = 1 then ((f_X2_placesOf h (a0) (a1)).bind fun v3 => some (v3)) else (if a2 = 2 then ((f_X2_lastOf h (a0) (a1)).bind fun v4 => some (v4)) else some (v1)))) else some (((-1) : Int32)))) else none
def f_X5_hueOf (h : PH) (a0 : Nat) (a1 : Int32) (a2 : Int32) (a3 : Int32) : Option (Except String Int32) :=
  if okO h a0 4 = true then ((f_X5_existing h (a0) (a1)).bind fun r1 => (match r1 with | .error E4 => some (.error E4) | .ok v2 => ((f_X5_requireHue h (a0) (a2)).bind fun r5 => (match r5 with | .error E8 => some (.error E8) | .ok v6 => ((f_X5_requireWhat h (a0) (a3) ((4 : Int32))).bind fun r9 => (match r9 with | .error E12 => some (.error E12) | .ok v10 => ((f_X2_hueNumber h (v2) (a2) (a3)).bind fun v13 => some (.ok (v13))))))))) else none
def f_X5_gapOf (h : PH) (a0 : Nat) (a1 : Int32) : Option (Except String Int32) :=
  if okO h a0 4 = true then ((f_X5_requireHue h (a0) (a1)).bind fun r1 => (match r1 with | .error E4 => some (.error E4) | .ok v2 => ((rdR h a0 4 0).bind fun v5 => ((f_X3_gapAt h (v5) (a1)).bind fun v6 => some (.ok (v6)))))) else none
def f_X3_places_J39 (h : PH) (x1 : Int32)  : Option Int32 :=
  some (x1)
def f_X3_places_J31 (h : PH) (x0 : Nat) (x2 : Int32) (k0 : Int32) (k1 : Int32) : Option ((Int32 × Int32) ⊕ (Int32)) :=
  some (.inl ((k0 + k1), (x2 + 1)))
def f_X3_places_L4 (h : PH) (x0 : Nat) : Int32 × Int32 → Option ((Int32 × Int32) ⊕ (Int32)) := fun z4 =>
  ((rdI h x0 2 2).bind fun v2 => (if v2 ≤ (z4.2) then some (.inr (((z4.1)))) else ((f_X3_ropeAt h (x0) ((z4.2))).bind fun v3 => (match v3 with | none => (f_X3_places_J31 h (x0) ((z4.2)) ((z4.1)) ((0 : Int32))) | some a4 => ((f_X2_length h (a4)).bind fun v5 => (f_X3_places_J31 h (x0) ((z4.2)) ((z4.1)) (v5)))))))
def f_X3_places (h : PH) (a0 : Nat) : Option Int32 :=
  if okO h a0 2 = true then ((lpn (f_X3_places_L4 (h) (a0)) LF ((0 : Int32), (0 : Int32))).bind (fun w4 => (f_X3_places_J39 h (w4)))) else none
def f_X3_holes_J40 (h : PH) (x1 : Int32)  : Option Int32 :=
  some (x1)
def f_X3_holes_J32 (h : PH) (x0 : Nat) (x2 : Int32) (k0 : Int32) (k1 : Int32) : Option ((Int32 × Int32) ⊕ (Int32)) :=
  some (.inl ((k0 + k1), (x2 + 1)))
def f_X3_holes_L4 (h : PH) (x0 : Nat) : Int32 × Int32 → Option ((Int32 × Int32) ⊕ (Int32)) := fun z4 =>
  ((rdI h x0 2 2).bind fun v2 => (if v2 ≤ (z4.2) then some (.inr (((z4.1)))) else ((f_X3_ropeAt h (x0) ((z4.2))).bind fun v3 => (match v3 with | none => (f_X3_holes_J32 h (x0) ((z4.2)) ((z4.1)) ((0 : Int32))) | some a4 => ((f_X2_placesOf h (a4) (((-1) : Int32))).bind fun v5 => (f_X3_holes_J32 h (x0) ((z4.2)) ((z4.1)) (v5)))))))
def f_X3_holes (h : PH) (a0 : Nat) : Option Int32 :=
  if okO h a0 2 = true then ((lpn (f_X3_holes_L4 (h) (a0)) LF ((0 : Int32), (0 : Int32))).bind (fun w4 => (f_X3_holes_J40 h (w4)))) else none
def f_X3_laidHues_J27 (h : PH) (x1 : Int32)  : Option Int32 :=
  some (x1)
def f_X3_laidHues_J21 (h : PH) (x0 : Nat) (x1 : Int32) (x2 : Int32)  : Option ((Int32 × Int32) ⊕ (Int32)) :=
  some (.inl (x1, (x2 + 1)))
def f_X3_laidHues_L4 (h : PH) (x0 : Nat) : Int32 × Int32 → Option ((Int32 × Int32) ⊕ (Int32)) := fun z4 =>
  (if (8 : Int32) ≤ (z4.2) then some (.inr (((z4.1)))) else ((f_X3_isLaidOnSome h (x0) ((z4.2))).bind fun v2 => (if v2 = 0 then (f_X3_laidHues_J21 h (x0) ((z4.1)) ((z4.2))) else (f_X3_laidHues_J21 h (x0) (((z4.1) + 1)) ((z4.2))))))
def f_X3_laidHues (h : PH) (a0 : Nat) : Option Int32 :=
  if okO h a0 2 = true then ((lpn (f_X3_laidHues_L4 (h) (a0)) LF ((0 : Int32), (0 : Int32))).bind (fun w4 => (f_X3_laidHues_J27 h (w4)))) else none
def f_X3_layings (h : PH) (a0 : Nat) : Option Int32 :=
  if okO h a0 2 = true then ((rdI h a0 2 3).bind fun v1 => some (v1)) else none
def f_X3_joins (h : PH) (a0 : Nat) : Option Int32 :=
  if okO h a0 2 = true then ((rdI h a0 2 4).bind fun v1 => some (v1)) else none
def f_X3_cuts (h : PH) (a0 : Nat) : Option Int32 :=
  if okO h a0 2 = true then ((rdI h a0 2 5).bind fun v1 => some (v1)) else none
def f_X5_counted (h : PH) (a0 : Nat) (a1 : Int32) : Option Int32 :=
  if okO h a0 4 = true then (if a1 = 0 then ((rdR h a0 4 0).bind fun v1 => ((f_X3_ropeCount h (v1)).bind fun v2 => some (v2))) else (if a1 = 1 then ((rdR h a0 4 0).bind fun v3 => ((f_X3_places h (v3)).bind fun v4 => some (v4))) else (if a1 = 2 then ((rdR h a0 4 0).bind fun v5 => ((f_X3_holes h (v5)).bind fun v6 => some (v6))) else (if a1 = 3 then ((rdR h a0 4 0).bind fun v7 => ((f_X3_laidHues h (v7)).bind fun v8 => some (v8))) else (if a1 = 4 then ((rdR h a0 4 0).bind fun v9 => ((f_X3_layings h (v9)).bind fun v10 => some (v10))) else (if a1 = 5 then ((rdR h a0 4 0).bind fun v11 => ((f_X3_joins h (v11)).bind fun v12 => some (v12))) else (if a1 = 6 then ((rdR h a0 4 0).bind fun v13 => ((f_X3_cuts h (v13)).bind fun v14 => some (v14))) else ((rdR h a0 4 2).bind fun v15 => ((f_X0_size h (v15)).bind fun v16 => some (v16)))))))))) else none
def f_X5_count (h : PH) (a0 : Nat) (a1 : Int32) : Option (Except String Int32) :=
  if okO h a0 4 = true then ((f_X5_requireWhat h (a0) (a1) ((8 : Int32))).bind fun r1 => (match r1 with | .error E4 => some (.error E4) | .ok v2 => ((f_X5_counted h (a0) (a1)).bind fun v5 => some (.ok (v5))))) else none
def f_X5_refusal (h : PH) (a0 : Nat) (a1 : Int32) (a2 : Int32) (a3 : Int32) : Option (Except String Int32) :=
  if okO h a0 4 = true then ((f_X5_existing h (a0) (a1)).bind fun r1 => (match r1 with | .error E4 => some (.error E4) | .ok v2 => ((f_X5_requireHue h (a0) (a2)).bind fun r5 => (match r5 with | .error E8 => some (.error E8) | .ok v6 => ((f_X5_requirePhase h (a0) (a2) (a3)).bind fun r9 => (match r9 with | .error E12 => some (.error E12) | .ok v10 => ((rdR h a0 4 0).bind fun v13 => ((f_X3_gapAt h (v13) (a2)).bind fun v14 => ((f_X2_reasonAgainst h (v2) (a2) (a3) (v14)).bind fun v15 => some (.ok (v15))))))))))) else none
def f_X1_meetByRemainders_J48 (h : PH) (x5 : Int32)  : Option Int32 :=
  some (x5)
def f_X1_meetByRemainders_J63 (h : PH)   : Option Int32 :=
  some (((-1) : Int32))
def f_X1_meetByRemainders_J51 (h : PH) (x0 : Int32) (x2 : Int32) (x3 : Int32) (x5 : Int32) (x6 : Int32)  : Option ((Int32 × Int32) ⊕ (((Unit) ⊕ (Int32)))) :=
  some (.inl ((x5 + x0), (x6 + 1)))
def f_X1_meetByRemainders_L26 (h : PH) (x0 : Int32) (x2 : Int32) (x3 : Int32) : Int32 × Int32 → Option ((Int32 × Int32) ⊕ (((Unit) ⊕ (Int32)))) := fun z26 =>
  (if x2 ≤ (z26.2) then some (.inr (.inl ())) else (if (z26.1) < x3 then (f_X1_meetByRemainders_J51 h (x0) (x2) (x3) ((z26.1)) ((z26.2))) else ((f_X1_remainder h ((z26.1)) (x2)).bind fun v4 => (if ¬ v4 = x3 then (f_X1_meetByRemainders_J51 h (x0) (x2) (x3) ((z26.1)) ((z26.2))) else some (.inr (.inr (((z26.1)))))))))
def f_X1_meetByRemainders (h : PH) (a0 : Int32) (a1 : Int32) (a2 : Int32) (a3 : Int32) : Option Int32 :=
  ((f_X1_greatestCommonDivisor h (a0) (a2)).bind fun v1 => ((f_X1_remainder h ((a1 - a3)) (v1)).bind fun v2 => (if v2 = 0 then ((lpn (f_X1_meetByRemainders_L26 (h) (a0) (a2) (a3)) LF (a1, (0 : Int32))).bind (fun w26 => match w26 with | .inl w26 => (f_X1_meetByRemainders_J63 h ) | .inr w26 => (f_X1_meetByRemainders_J48 h (w26)))) else some (((-1) : Int32)))))
def f_X5_meeting (h : PH) (a0 : Nat) (a1 : Int32) (a2 : Int32) (a3 : Int32) (a4 : Int32) : Option (Except String Int32) :=
  if okO h a0 4 = true then ((f_X5_requireHue h (a0) (a1)).bind fun r1 => (match r1 with | .error E4 => some (.error E4) | .ok v2 => ((f_X5_requireHue h (a0) (a3)).bind fun r5 => (match r5 with | .error E8 => some (.error E8) | .ok v6 => ((f_X5_requirePhase h (a0) (a1) (a2)).bind fun r9 => (match r9 with | .error E12 => some (.error E12) | .ok v10 => ((f_X5_requirePhase h (a0) (a3) (a4)).bind fun r13 => (match r13 with | .error E16 => some (.error E16) | .ok v14 => ((rdR h a0 4 0).bind fun v17 => ((f_X3_gapAt h (v17) (a1)).bind fun v18 => ((rdR h a0 4 0).bind fun v19 => ((f_X3_gapAt h (v19) (a3)).bind fun v20 => ((f_X1_meetByRemainders h (v18) (a2) (v20) (a4)).bind fun v21 => some (.ok (v21))))))))))))))) else none
def f_X1_meetByWalking_J40 (h : PH) (x4 : Int32)  : Option Int32 :=
  some (x4)
def f_X1_meetByWalking_J71 (h : PH)   : Option Int32 :=
  some (((-1) : Int32))
def f_X1_meetByWalking_J65 (h : PH) (x0 : Int32) (x2 : Int32) (x4 : Int32) (x5 : Int32) (x6 : Int32)  : Option ((Int32 × Int32 × Int32) ⊕ (((Unit) ⊕ (Int32)))) :=
  some (.inl (x4, x5, (x6 + 1)))
def f_X1_meetByWalking_L9 (h : PH) (x0 : Int32) (x2 : Int32) : Int32 × Int32 × Int32 → Option ((Int32 × Int32 × Int32) ⊕ (((Unit) ⊕ (Int32)))) := fun z9 =>
  (if (800 : Int32) ≤ (z9.2.2) then some (.inr (.inl ())) else (if (800 : Int32) ≤ (z9.1) then some (.inr (.inl ())) else (if (800 : Int32) ≤ (z9.2.1) then some (.inr (.inl ())) else (if ¬ (z9.1) = (z9.2.1) then (if (z9.2.1) ≤ (z9.1) then (f_X1_meetByWalking_J65 h (x0) (x2) ((z9.1)) (((z9.2.1) + x2)) ((z9.2.2))) else (f_X1_meetByWalking_J65 h (x0) (x2) (((z9.1) + x0)) ((z9.2.1)) ((z9.2.2)))) else some (.inr (.inr (((z9.1)))))))))
def f_X1_meetByWalking (h : PH) (a0 : Int32) (a1 : Int32) (a2 : Int32) (a3 : Int32) : Option Int32 :=
  ((lpn (f_X1_meetByWalking_L9 (h) (a0) (a2)) LF (a1, a3, (0 : Int32))).bind (fun w9 => match w9 with | .inl w9 => (f_X1_meetByWalking_J71 h ) | .inr w9 => (f_X1_meetByWalking_J40 h (w9))))
def f_X5_walked (h : PH) (a0 : Nat) (a1 : Int32) (a2 : Int32) (a3 : Int32) (a4 : Int32) : Option (Except String Int32) :=
  if okO h a0 4 = true then ((f_X5_requireHue h (a0) (a1)).bind fun r1 => (match r1 with | .error E4 => some (.error E4) | .ok v2 => ((f_X5_requireHue h (a0) (a3)).bind fun r5 => (match r5 with | .error E8 => some (.error E8) | .ok v6 => ((f_X5_requirePhase h (a0) (a1) (a2)).bind fun r9 => (match r9 with | .error E12 => some (.error E12) | .ok v10 => ((f_X5_requirePhase h (a0) (a3) (a4)).bind fun r13 => (match r13 with | .error E16 => some (.error E16) | .ok v14 => ((rdR h a0 4 0).bind fun v17 => ((f_X3_gapAt h (v17) (a1)).bind fun v18 => ((rdR h a0 4 0).bind fun v19 => ((f_X3_gapAt h (v19) (a3)).bind fun v20 => ((f_X1_meetByWalking h (v18) (a2) (v20) (a4)).bind fun v21 => some (.ok (v21))))))))))))))) else none
def f_X2_fittingPhases_J31 (h : PH) (x3 : Int32)  : Option Int32 :=
  some (x3)
def f_X2_fittingPhases_J25 (h : PH) (x0 : Nat) (x1 : Int32) (x2 : Int32) (x3 : Int32) (x4 : Int32)  : Option ((Int32 × Int32) ⊕ (Int32)) :=
  some (.inl (x3, (x4 + 1)))
def f_X2_fittingPhases_L5 (h : PH) (x0 : Nat) (x1 : Int32) (x2 : Int32) : Int32 × Int32 → Option ((Int32 × Int32) ⊕ (Int32)) := fun z5 =>
  (if x2 ≤ (z5.2) then some (.inr (((z5.1)))) else ((f_X2_reasonAgainst h (x0) (x1) ((z5.2)) (x2)).bind fun v2 => (if ¬ v2 = 0 then (f_X2_fittingPhases_J25 h (x0) (x1) (x2) ((z5.1)) ((z5.2))) else (f_X2_fittingPhases_J25 h (x0) (x1) (x2) (((z5.1) + 1)) ((z5.2))))))
def f_X2_fittingPhases (h : PH) (a0 : Nat) (a1 : Int32) (a2 : Int32) : Option Int32 :=
  if okO h a0 1 = true then ((lpn (f_X2_fittingPhases_L5 (h) (a0) (a1) (a2)) LF ((0 : Int32), (0 : Int32))).bind (fun w5 => (f_X2_fittingPhases_J31 h (w5)))) else none
def f_X2_lowestPhase_J17 (h : PH) (x3 : Int32)  : Option Int32 :=
  some (x3)
def f_X2_lowestPhase_J25 (h : PH)   : Option Int32 :=
  some (((-1) : Int32))
def f_X2_lowestPhase_L2 (h : PH) (x0 : Nat) (x1 : Int32) (x2 : Int32) : Int32 → Option ((Int32) ⊕ (((Unit) ⊕ (Int32)))) := fun z2 =>
  (if x2 ≤ z2 then some (.inr (.inl ())) else ((f_X2_reasonAgainst h (x0) (x1) (z2) (x2)).bind fun v2 => (if ¬ v2 = 0 then some (.inl ((z2 + 1))) else some (.inr (.inr ((z2)))))))
def f_X2_lowestPhase (h : PH) (a0 : Nat) (a1 : Int32) (a2 : Int32) : Option Int32 :=
  if okO h a0 1 = true then ((lpn (f_X2_lowestPhase_L2 (h) (a0) (a1) (a2)) LF ((0 : Int32))).bind (fun w2 => match w2 with | .inl w2 => (f_X2_lowestPhase_J25 h ) | .inr w2 => (f_X2_lowestPhase_J17 h (w2)))) else none
def f_X2_placesFrom_J34 (h : PH) (x3 : Int32)  : Option Int32 :=
  some (x3)
def f_X2_placesFrom_L12 (h : PH) (x0 : Nat) (x4 : Int32) : Int32 × Int32 → Option ((Int32 × Int32) ⊕ (Int32)) := fun z12 =>
  ((rdI h x0 1 2).bind fun v2 => (if v2 ≤ (z12.2) then some (.inr (((z12.1)))) else some (.inl (((z12.1) + 1), ((z12.2) + x4)))))
def f_X2_placesFrom (h : PH) (a0 : Nat) (a1 : Int32) (a2 : Int32) : Option Int32 :=
  if okO h a0 1 = true then ((lpn (f_X2_placesFrom_L12 (h) (a0) ((if (1 : Int32) < a2 then a2 else (1 : Int32)))) LF ((0 : Int32), a1)).bind (fun w12 => (f_X2_placesFrom_J34 h (w12)))) else none
def f_X2_fillingPhase_J54 (h : PH) (x3 : Int32)  : Option Int32 :=
  some (x3)
def f_X2_fillingPhase_J48 (h : PH) (x0 : Nat) (x1 : Int32) (x2 : Int32) (x3 : Int32) (x4 : Int32) (x5 : Int32)  : Option ((Int32 × Int32 × Int32) ⊕ (Int32)) :=
  some (.inl (x3, x4, (x5 + 1)))
def f_X2_fillingPhase_L8 (h : PH) (x0 : Nat) (x1 : Int32) (x2 : Int32) : Int32 × Int32 × Int32 → Option ((Int32 × Int32 × Int32) ⊕ (Int32)) := fun z8 =>
  (if x2 ≤ (z8.2.2) then some (.inr (((z8.1)))) else ((f_X2_placesFrom h (x0) ((z8.2.2)) (x2)).bind fun v2 => (if v2 ≤ (z8.2.1) then (f_X2_fillingPhase_J48 h (x0) (x1) (x2) ((z8.1)) ((z8.2.1)) ((z8.2.2))) else ((f_X2_reasonAgainst h (x0) (x1) ((z8.2.2)) (x2)).bind fun v3 => (if ¬ v3 = 0 then (f_X2_fillingPhase_J48 h (x0) (x1) (x2) ((z8.1)) ((z8.2.1)) ((z8.2.2))) else (f_X2_fillingPhase_J48 h (x0) (x1) (x2) ((z8.2.2)) (v2) ((z8.2.2))))))))
def f_X2_fillingPhase (h : PH) (a0 : Nat) (a1 : Int32) (a2 : Int32) : Option Int32 :=
  if okO h a0 1 = true then ((lpn (f_X2_fillingPhase_L8 (h) (a0) (a1) (a2)) LF (((-1) : Int32), (0 : Int32), (0 : Int32))).bind (fun w8 => (f_X2_fillingPhase_J54 h (w8)))) else none
def f_X2_phaseNumber (h : PH) (a0 : Nat) (a1 : Int32) (a2 : Int32) (a3 : Int32) : Option Int32 :=
  if okO h a0 1 = true then (if a3 = 0 then ((f_X2_fittingPhases h (a0) (a1) (a2)).bind fun v1 => some (v1)) else (if a3 = 1 then ((f_X2_lowestPhase h (a0) (a1) (a2)).bind fun v2 => some (v2)) else ((f_X2_fillingPhase h (a0) (a1) (a2)).bind fun v3 => some (v3)))) else none
def f_X5_phases (h : PH) (a0 : Nat) (a1 : Int32) (a2 : Int32) (a3 : Int32) : Option (Except String Int32) :=
  if okO h a0 4 = true then ((f_X5_existing h (a0) (a1)).bind fun r1 => (match r1 with | .error E4 => some (.error E4) | .ok v2 => ((f_X5_requireHue h (a0) (a2)).bind fun r5 => (match r5 with | .error E8 => some (.error E8) | .ok v6 => ((f_X5_requireWhat h (a0) (a3) ((3 : Int32))).bind fun r9 => (match r9 with | .error E12 => some (.error E12) | .ok v10 => ((rdR h a0 4 0).bind fun v13 => ((f_X3_gapAt h (v13) (a2)).bind fun v14 => ((f_X2_phaseNumber h (v2) (a2) (v14) (a3)).bind fun v15 => some (.ok (v15))))))))))) else none
def f_X5_fillingHue_J73 (h : PH) (x2 : Int32)  : Option Int32 :=
  some (x2)
def f_X5_fillingHue_J67 (h : PH) (x0 : Nat) (x1 : Nat) (x2 : Int32) (x3 : Int32) (x4 : Int32)  : Option ((Int32 × Int32 × Int32) ⊕ (Int32)) :=
  some (.inl (x2, x3, (x4 + 1)))
def f_X5_fillingHue_J53 (h : PH) (x0 : Nat) (x1 : Nat) (x2 : Int32) (x3 : Int32) (x4 : Int32) (k0 : Int32) : Option ((Int32 × Int32 × Int32) ⊕ (Int32)) :=
  (if k0 ≤ x3 then (f_X5_fillingHue_J67 h (x0) (x1) (x2) (x3) (x4)) else (f_X5_fillingHue_J67 h (x0) (x1) (x4) (k0) (x4)))
def f_X5_fillingHue_L7 (h : PH) (x0 : Nat) (x1 : Nat) : Int32 × Int32 × Int32 → Option ((Int32 × Int32 × Int32) ⊕ (Int32)) := fun z7 =>
  (if (8 : Int32) ≤ (z7.2.2) then some (.inr (((z7.1)))) else ((rdR h x0 4 0).bind fun v2 => ((f_X3_gapAt h (v2) ((z7.2.2))).bind fun v3 => ((f_X2_fillingPhase h (x1) ((z7.2.2)) (v3)).bind fun v4 => (if ¬ v4 = ((-1) : Int32) then ((f_X2_placesFrom h (x1) (v4) (v3)).bind fun v5 => (f_X5_fillingHue_J53 h (x0) (x1) ((z7.1)) ((z7.2.1)) ((z7.2.2)) (v5))) else (f_X5_fillingHue_J53 h (x0) (x1) ((z7.1)) ((z7.2.1)) ((z7.2.2)) ((0 : Int32))))))))
def f_X5_fillingHue (h : PH) (a0 : Nat) (a1 : Nat) : Option Int32 :=
  if okO h a0 4 = true then ((lpn (f_X5_fillingHue_L7 (h) (a0) (a1)) LF (((-1) : Int32), (0 : Int32), (0 : Int32))).bind (fun w7 => (f_X5_fillingHue_J73 h (w7)))) else none
def f_X5_bestHue (h : PH) (a0 : Nat) (a1 : Int32) : Option (Except String Int32) :=
  if okO h a0 4 = true then ((f_X5_existing h (a0) (a1)).bind fun r1 => (match r1 with | .error E4 => some (.error E4) | .ok v2 => ((f_X5_fillingHue h (a0) (v2)).bind fun v5 => some (.ok (v5))))) else none
def f_X5_joining_J29 (hh : PH)  (k0 : Int32) : Option (Except (String × PH) (Int32 × PH)) :=
  some (.ok (k0, hh))
def f_X5_joining (h : PH) (a0 : Nat) (a1 : Int32) (a2 : Int32) : Option (Except (String × PH) (Int32 × PH)) :=
  if okO h a0 4 = true then ((f_X5_existing h (a0) (a1)).bind fun r1 => (match r1 with | .error E4 => some (.error (E4, h)) | .ok v2 => ((f_X5_existing h (a0) (a2)).bind fun r5 => (match r5 with | .error E8 => some (.error (E8, h)) | .ok v6 => (if ¬ a1 = a2 then ((f_X5_reasonAgainstJoining h (a0) (v2) (v6)).bind fun q11 => (f_X5_joining_J29 q11.2 (q11.1))) else (f_X5_joining_J29 h ((1 : Int32)))))))) else none
def f_X5_greatest (h : PH) (a0 : Nat) (a1 : Int32) : Option (Except String Int32) :=
  if okO h a0 4 = true then ((f_X5_existing h (a0) (a1)).bind fun r1 => (match r1 with | .error E4 => some (.error E4) | .ok v2 => ((f_X5_greatestLength h (a0) (v2)).bind fun v5 => some (.ok (v5))))) else none
def f_X5_fullness_J31 (h : PH)  (k0 : UInt64) : Option UInt64 :=
  some (k0)
def f_X5_fullness (h : PH) (a0 : Nat) : Option UInt64 :=
  if okO h a0 4 = true then ((rdR h a0 4 0).bind fun v1 => ((f_X3_places h (v1)).bind fun v2 => ((rdR h a0 4 0).bind fun v3 => ((f_X3_holes h (v3)).bind fun v4 => (if v2 ≤ 0 then (f_X5_fullness_J31 h (FP.dconst1)) else (if nn64 (FP.ddiv (FP.i2d (v2 - v4)) (FP.i2d v2)) = true then (f_X5_fullness_J31 h ((FP.ddiv (FP.i2d (v2 - v4)) (FP.i2d v2)))) else none)))))) else none
def f_X5_mixed (h : PH) (a0 : Int64) (a2 : Int64) : Option Int64 :=
  some ((((31 : Int64) * a0) + a2))
def f_X5_hueMixed_J74 (h : PH) (x5 : Int64)  : Option Int64 :=
  some (x5)
def f_X5_hueMixed_L37 (h : PH) (x0 : Nat) (x3 : Nat) (x4 : Int32) : Int64 × Int32 → Option ((Int64 × Int32) ⊕ (Int64)) := fun z37 =>
  (if (3 : Int32) ≤ (z37.2) then some (.inr (((z37.1)))) else ((rdR h x0 4 0).bind fun v2 => ((f_X3_gapAt h (v2) (x4)).bind fun v3 => ((f_X2_phaseNumber h (x3) (x4) (v3) ((z37.2))).bind fun v4 => ((f_X5_mixed h ((z37.1)) ((v4).toInt64)).bind fun v5 => some (.inl (v5, ((z37.2) + 1))))))))
def f_X5_hueMixed_J34 (h : PH) (x0 : Nat) (x3 : Nat) (x4 : Int32) (x5 : Int64)  : Option Int64 :=
  ((lpn (f_X5_hueMixed_L37 (h) (x0) (x3) (x4)) LF (x5, (0 : Int32))).bind (fun w37 => (f_X5_hueMixed_J74 h (w37))))
def f_X5_hueMixed_L6 (h : PH) (x0 : Nat) (x3 : Nat) (x4 : Int32) : Int64 × Int32 → Option ((Int64 × Int32) ⊕ (Int64)) := fun z6 =>
  (if (4 : Int32) ≤ (z6.2) then some (.inr (((z6.1)))) else ((f_X2_hueNumber h (x3) (x4) ((z6.2))).bind fun v7 => ((f_X5_mixed h ((z6.1)) ((v7).toInt64)).bind fun v8 => some (.inl (v8, ((z6.2) + 1))))))
def f_X5_hueMixed (h : PH) (a0 : Nat) (a1 : Int64) (a3 : Nat) (a4 : Int32) : Option Int64 :=
  if okO h a0 4 = true then ((lpn (f_X5_hueMixed_L6 (h) (a0) (a3) (a4)) LF (a1, (0 : Int32))).bind (fun w6 => (f_X5_hueMixed_J34 h (a0) (a3) (a4) (w6)))) else none
def f_X5_ropeMixed_J30 (h : PH) (x1 : Int64)  : Option (Int64 × PH) :=
  some (x1, h)
def f_X5_ropeMixed_J176 (hh : PH)  (k0 : Int64) (k1 : Int64) : Option (Int64 × PH) :=
  ((f_X5_mixed hh (k0) (k1)).bind fun v1 => some (v1, hh))
def f_X5_ropeMixed_J129 (h : PH) (x0 : Nat) (x3 : Int32) (x4 : Nat) (x5 : Nat) (x6 : Int64)  : Option (Int64 × PH) :=
  ((f_X5_fillingHue h (x0) (x4)).bind fun v2 => ((f_X5_mixed h (x6) ((v2).toInt64)).bind fun v3 => ((f_X5_greatestLength h (x0) (x4)).bind fun v4 => ((f_X5_mixed h (v3) ((v4).toInt64)).bind fun v5 => (if ¬ x3 = 0 then ((f_X5_reasonAgainstJoining h (x0) (x4) (x5)).bind fun q8 => (f_X5_ropeMixed_J176 q8.2 (v5) ((q8.1).toInt64))) else (f_X5_ropeMixed_J176 h (v5) ((1 : Int64))))))))
def f_X5_ropeMixed_L104 (hh : PH) (x0 : Nat) (x3 : Int32) (x4 : Nat) (x5 : Nat) : Int64 × Int32 → Option ((Int64 × Int32) ⊕ (Int64)) := fun z104 =>
  (if (8 : Int32) ≤ (z104.2) then some (.inr (((z104.1)))) else ((f_X5_hueMixed hh (x0) ((z104.1)) (x4) ((z104.2))).bind fun v10 => some (.inl (v10, ((z104.2) + 1)))))
def f_X5_ropeMixed_J101 (h : PH) (x0 : Nat) (x3 : Int32) (x4 : Nat) (x5 : Nat) (x6 : Int64)  : Option (Int64 × PH) :=
  ((lpn (f_X5_ropeMixed_L104 (h) (x0) (x3) (x4) (x5)) LF (x6, (0 : Int32))).bind (fun w104 => (f_X5_ropeMixed_J129 h (x0) (x3) (x4) (x5) (w104))))
def f_X5_ropeMixed_L70 (hh : PH) (x0 : Nat) (x3 : Int32) (x4 : Nat) (x5 : Nat) : Int64 × Int32 → Option ((Int64 × Int32) ⊕ (Int64)) := fun z70 =>
  ((f_X2_length hh (x4)).bind fun v12 => (if v12 ≤ (z70.2) then some (.inr (((z70.1)))) else ((f_X2_colourAt hh (x4) ((z70.2))).bind fun v13 => ((f_X5_mixed hh ((z70.1)) ((v13).toInt64)).bind fun v14 => some (.inl (v14, ((z70.2) + 1)))))))
def f_X5_ropeMixed_J67 (h : PH) (x0 : Nat) (x3 : Int32) (x4 : Nat) (x5 : Nat) (x6 : Int64)  : Option (Int64 × PH) :=
  ((lpn (f_X5_ropeMixed_L70 (h) (x0) (x3) (x4) (x5)) LF (x6, (0 : Int32))).bind (fun w70 => (f_X5_ropeMixed_J101 h (x0) (x3) (x4) (x5) (w70))))
def f_X5_ropeMixed_L38 (hh : PH) (x0 : Nat) (x3 : Int32) (x4 : Nat) (x5 : Nat) : Int64 × Int32 → Option ((Int64 × Int32) ⊕ (Int64)) := fun z38 =>
  (if (6 : Int32) ≤ (z38.2) then some (.inr (((z38.1)))) else ((f_X5_ropeNumber hh (x0) (x4) ((z38.2))).bind fun v22 => ((f_X5_mixed hh ((z38.1)) ((v22).toInt64)).bind fun v23 => some (.inl (v23, ((z38.2) + 1))))))
def f_X5_ropeMixed (h : PH) (a0 : Nat) (a1 : Int64) (a3 : Int32) : Option (Int64 × PH) :=
  if okO h a0 4 = true then ((rdR h a0 4 0).bind fun v15 => ((f_X3_ropeAt h (v15) (a3)).bind fun v16 => ((rdR h a0 4 0).bind fun v17 => ((f_X3_ropeAt h (v17) ((0 : Int32))).bind fun v18 => (match v16 with | none => (f_X5_ropeMixed_J30 h (a1)) | some a19 => (match v18 with | none => (f_X5_ropeMixed_J30 h (a1)) | some a20 => ((lpn (f_X5_ropeMixed_L38 (h) (a0) (a3) (a19) (a20)) LF (a1, (0 : Int32))).bind (fun w38 => (f_X5_ropeMixed_J67 h (a0) (a3) (a19) (a20) (w38)))))))))) else none
def f_X1_bitsOfShare_J41 (h : PH) (x2 : UInt64) (x4 : Int64)  : Option Int64 :=
  (if 0 ≤ (Op.cmpValue (FP.dcmp x2 FP.dconst1) .g) then (if nn64 (FP.dsub x2 FP.dconst1) = true then (if nn64 (FP.dmul (FP.dsub x2 FP.dconst1) (4841369599423283200 : UInt64)) = true then some (((x4 <<< (((52 : Int32)).toInt64 &&& 63)) + (FP.d2l (FP.dmul (FP.dsub x2 FP.dconst1) (4841369599423283200 : UInt64))))) else none) else none) else some ((0 : Int64)))
def f_X1_bitsOfShare_L10 (h : PH)  : UInt64 × Int64 × Int32 → Option ((UInt64 × Int64 × Int32) ⊕ (UInt64 × Int64)) := fun z10 =>
  (if (64 : Int32) ≤ (z10.2.2) then some (.inr (((z10.1), (z10.2.1)))) else (if 0 ≤ (Op.cmpValue (FP.dcmp (z10.1) FP.dconst1) .g) then some (.inr (((z10.1), (z10.2.1)))) else (if nn64 (FP.dmul (z10.1) (4611686018427387904 : UInt64)) = true then some (.inl ((FP.dmul (z10.1) (4611686018427387904 : UInt64)), ((z10.2.1) - (1 : Int64)), ((z10.2.2) + 1))) else none)))
def f_X1_bitsOfShare (h : PH) (a0 : UInt64) : Option Int64 :=
  ((lpn (f_X1_bitsOfShare_L10 (h)) LF (a0, (1023 : Int64), (0 : Int32))).bind (fun w10 => (f_X1_bitsOfShare_J41 h (w10.1) (w10.2))))
def f_X5_digest_J182 (hh : PH) (x1 : Int64)  : Option (Int64 × PH) :=
  some (x1, hh)
def f_X5_digest_L151 (hh : PH) (x0 : Nat) : Int64 × Int32 → Option ((Int64 × Int32) ⊕ (Int64)) := fun z151 =>
  ((rdR hh x0 4 3).bind fun v8 => ((f_X4_length hh (v8)).bind fun v9 => (if v9 ≤ (z151.2) then some (.inr (((z151.1)))) else ((rdR hh x0 4 3).bind fun v10 => ((f_X4_codeAt hh (v10) ((z151.2))).bind fun v11 => ((f_X5_mixed hh ((z151.1)) ((v11).toInt64)).bind fun v12 => some (.inl (v12, ((z151.2) + 1)))))))))
def f_X5_digest_J124 (hh : PH) (x0 : Nat) (x1 : Int64)  : Option (Int64 × PH) :=
  ((f_X5_fullness hh (x0)).bind fun v1 => ((f_X1_bitsOfShare hh (v1)).bind fun v2 => ((f_X5_mixed hh (x1) (v2)).bind fun v3 => ((rdR hh x0 4 3).bind fun v4 => ((f_X4_length hh (v4)).bind fun v5 => ((f_X5_mixed hh (v3) ((v5).toInt64)).bind fun v6 => ((lpn (f_X5_digest_L151 (hh) (x0)) LF (v6, (0 : Int32))).bind (fun w151 => (f_X5_digest_J182 hh (w151))))))))))
def f_X5_digest_L85 (hh : PH) (x0 : Nat) : Int64 × Int32 → Option ((Int64 × Int32) ⊕ (Int64)) := fun z85 =>
  (if (8 : Int32) ≤ (z85.2) then some (.inr (((z85.1)))) else ((rdR hh x0 4 0).bind fun v14 => ((f_X3_gapAt hh (v14) ((0 : Int32))).bind fun v15 => ((rdR hh x0 4 0).bind fun v16 => ((f_X3_gapAt hh (v16) ((z85.2))).bind fun v17 => ((f_X1_meetByRemainders hh (v15) ((1 : Int32)) (v17) ((0 : Int32))).bind fun v18 => ((f_X5_mixed hh ((z85.1)) ((v18).toInt64)).bind fun v19 => some (.inl (v19, ((z85.2) + 1))))))))))
def f_X5_digest_J83 (hh : PH) (x0 : Nat) (x1 : Int64)  : Option (Int64 × PH) :=
  ((lpn (f_X5_digest_L85 (hh) (x0)) LF (x1, (0 : Int32))).bind (fun w85 => (f_X5_digest_J124 hh (x0) (w85))))
def f_X5_digest_L59 (x0 : Nat) : Int64 × Int32 × PH → Option ((Int64 × Int32 × PH) ⊕ (Int64 × PH)) := fun z59 =>
  ((rdR (z59.2.2) x0 4 0).bind fun v21 => ((f_X3_ropeCount (z59.2.2) (v21)).bind fun v22 => (if v22 ≤ (z59.2.1) then some (.inr (((z59.1), (z59.2.2)))) else ((f_X5_ropeMixed (z59.2.2) (x0) ((z59.1)) ((z59.2.1))).bind fun q25 => some (.inl (q25.1, ((z59.2.1) + 1), q25.2))))))
def f_X5_digest_J57 (h : PH) (x0 : Nat) (x1 : Int64)  : Option (Int64 × PH) :=
  ((lpn (f_X5_digest_L59 (x0)) LF (x1, (0 : Int32), h)).bind (fun w59 => (f_X5_digest_J83 (w59.2) (x0) (w59.1))))
def f_X5_digest_L31 (hh : PH) (x0 : Nat) : Int64 × Int32 → Option ((Int64 × Int32) ⊕ (Int64)) := fun z31 =>
  (if (8 : Int32) ≤ (z31.2) then some (.inr (((z31.1)))) else ((rdR hh x0 4 0).bind fun v27 => ((f_X3_gapAt hh (v27) ((z31.2))).bind fun v28 => ((f_X5_mixed hh ((z31.1)) ((v28).toInt64)).bind fun v29 => some (.inl (v29, ((z31.2) + 1)))))))
def f_X5_digest_J29 (h : PH) (x0 : Nat) (x1 : Int64)  : Option (Int64 × PH) :=
  ((lpn (f_X5_digest_L31 (h) (x0)) LF (x1, (0 : Int32))).bind (fun w31 => (f_X5_digest_J57 h (x0) (w31))))
def f_X5_digest_L6 (hh : PH) (x0 : Nat) : Int64 × Int32 → Option ((Int64 × Int32) ⊕ (Int64)) := fun z6 =>
  (if (8 : Int32) ≤ (z6.2) then some (.inr (((z6.1)))) else ((f_X5_counted hh (x0) ((z6.2))).bind fun v31 => ((f_X5_mixed hh ((z6.1)) ((v31).toInt64)).bind fun v32 => some (.inl (v32, ((z6.2) + 1))))))
def f_X5_digest (h : PH) (a0 : Nat) : Option (Int64 × PH) :=
  if okO h a0 4 = true then ((lpn (f_X5_digest_L6 (h) (a0)) LF ((3643 : Int64), (0 : Int32))).bind (fun w6 => (f_X5_digest_J29 h (a0) (w6)))) else none
def f_X6_thrown (h : PH) (a0 : Nat) : Option Int32 :=
  if okO h a0 5 = true then ((rdI h a0 5 0).bind fun v1 => some (v1)) else none
def f_X6_in_J15 (h : PH)  (k0 : Int32) : Option Int32 :=
  (if z01 k0 = true then some (k0) else none)
def f_X6_in_J14 (h : PH)   : Option Int32 :=
  (f_X6_in_J15 h ((0 : Int32)))
def f_X6_in (h : PH) (a0 : Int32) (a1 : Int32) (a2 : Int32) : Option Int32 :=
  (if a0 < a1 then (f_X6_in_J14 h ) else (if a2 < a0 then (f_X6_in_J14 h ) else (f_X6_in_J15 h ((1 : Int32)))))
def f_X6_holds_J14 (hh : PH)  (k0 : Int32) : Option (Int32 × PH) :=
  (if z01 k0 = true then some (k0, hh) else none)
def f_X6_holds (h : PH) (a0 : Nat) (a1 : Int32) : Option (Int32 × PH) :=
  if okO h a0 5 = true then ((wrF h a0 5 0 (.int (a1))).bind fun h2 => (if ¬ a1 = 0 then (f_X6_holds_J14 h2 ((0 : Int32))) else (f_X6_holds_J14 h2 ((1 : Int32))))) else none
def f_X6_isHue (h : PH) (a0 : Int32) : Option Int32 :=
  ((f_X6_in h (a0) ((0 : Int32)) ((7 : Int32))).bind fun v1 => (if z01 v1 = true then some (v1) else none))
def f_X6_isRope (h : PH) (a0 : Nat) (a1 : Int32) : Option Int32 :=
  if okO h a0 5 = true then ((rdR h a0 5 1).bind fun v1 => ((ldI h v1 (8 : Int32)).bind fun v2 => ((f_X6_in h (a1) ((0 : Int32)) ((v2 - (1 : Int32)))).bind fun v3 => (if z01 v3 = true then some (v3) else none)))) else none
def f_X6_isPhase (h : PH) (a0 : Nat) (a1 : Int32) (a2 : Int32) : Option Int32 :=
  if okO h a0 5 = true then ((rdR h a0 5 1).bind fun v1 => ((ldI h v1 ((0 : Int32) + a1)).bind fun v2 => ((f_X6_in h (a2) ((0 : Int32)) ((v2 - (1 : Int32)))).bind fun v3 => (if z01 v3 = true then some (v3) else none)))) else none
def f_X6_of (h : PH) (a0 : Int32) (a1 : Int32) : Option Int32 :=
  some ((((12 : Int32) + ((18 : Int32) * a0)) + a1))
def f_X6_phaseOf (h : PH) (a0 : Nat) (a1 : Int32) (a2 : Int32) : Option Int32 :=
  if okO h a0 5 = true then ((rdR h a0 5 1).bind fun v1 => ((f_X6_of h (a1) (((10 : Int32) + a2))).bind fun v2 => ((ldI h v1 v2).bind fun v3 => some (v3)))) else none
def f_X6_isLaid_J14 (h : PH)  (k0 : Int32) : Option Int32 :=
  (if z01 k0 = true then some (k0) else none)
def f_X6_isLaid (h : PH) (a0 : Nat) (a1 : Int32) (a2 : Int32) : Option Int32 :=
  if okO h a0 5 = true then ((f_X6_phaseOf h (a0) (a1) (a2)).bind fun v2 => (if v2 < 0 then (f_X6_isLaid_J14 h ((0 : Int32))) else (f_X6_isLaid_J14 h ((1 : Int32))))) else none
def f_X6_save_J83 (hh : PH) (x0 : Nat)  : Option PH :=
  ((rdI hh x0 5 6).bind fun v1 => ((wrF hh x0 5 6 (.int ((v1 + (1 : Int32))))).bind fun h2 => some h2))
def f_X6_save_L51 (x0 : Nat) : Int32 × PH → Option ((Int32 × PH) ⊕ (PH)) := fun z51 =>
  (if (84 : Int32) ≤ (z51.1) then some (.inr (((z51.2)))) else ((rdR (z51.2) x0 5 5).bind fun v4 => ((rdI (z51.2) x0 5 6).bind fun v5 => ((rdR (z51.2) x0 5 1).bind fun v6 => ((ldI (z51.2) v6 (z51.1)).bind fun v7 => ((stI (z51.2) v4 (((84 : Int32) * v5) + (z51.1)) v7).bind fun h8 => some (.inl (((z51.1) + 1), h8))))))))
def f_X6_save_J49 (hh : PH) (x0 : Nat)  : Option PH :=
  ((lpn (f_X6_save_L51 (x0)) LF ((0 : Int32), hh)).bind (fun w51 => (f_X6_save_J83 w51 (x0))))
def f_X6_save_J39 (hh : PH) (x0 : Nat)  : Option PH :=
  ((rdI hh x0 5 6).bind fun v9 => ((wrF hh x0 5 6 (.int ((v9 - (1 : Int32))))).bind fun h10 => (f_X6_save_J49 h10 (x0))))
def f_X6_save_L11 (x0 : Nat) : Int32 × PH → Option ((Int32 × PH) ⊕ (PH)) := fun z11 =>
  (if (420 : Int32) ≤ (z11.1) then some (.inr (((z11.2)))) else ((rdR (z11.2) x0 5 5).bind fun v13 => ((rdR (z11.2) x0 5 5).bind fun v14 => ((ldI (z11.2) v14 ((84 : Int32) + (z11.1))).bind fun v15 => ((stI (z11.2) v13 (z11.1) v15).bind fun h16 => some (.inl (((z11.1) + 1), h16)))))))
def f_X6_save (h : PH) (a0 : Nat) : Option PH :=
  if okO h a0 5 = true then ((rdI h a0 5 6).bind fun v11 => (if ¬ v11 = (6 : Int32) then (f_X6_save_J49 h (a0)) else ((lpn (f_X6_save_L11 (a0)) LF ((0 : Int32), h)).bind (fun w11 => (f_X6_save_J39 w11 (a0)))))) else none
def f_X6_putAside_J26 (hh : PH)   : Option PH :=
  some hh
def f_X6_putAside_L2 (x0 : Nat) : Int32 × PH → Option ((Int32 × PH) ⊕ (PH)) := fun z2 =>
  (if (84 : Int32) ≤ (z2.1) then some (.inr (((z2.2)))) else ((rdR (z2.2) x0 5 2).bind fun v2 => ((rdR (z2.2) x0 5 1).bind fun v3 => ((ldI (z2.2) v3 (z2.1)).bind fun v4 => ((stI (z2.2) v2 (z2.1) v4).bind fun h5 => some (.inl (((z2.1) + 1), h5)))))))
def f_X6_putAside (h : PH) (a0 : Nat) : Option PH :=
  if okO h a0 5 = true then ((lpn (f_X6_putAside_L2 (a0)) LF ((0 : Int32), h)).bind (fun w2 => (f_X6_putAside_J26 w2 ))) else none
def f_X6_putBack_J26 (hh : PH)   : Option PH :=
  some hh
def f_X6_putBack_L2 (x0 : Nat) : Int32 × PH → Option ((Int32 × PH) ⊕ (PH)) := fun z2 =>
  (if (84 : Int32) ≤ (z2.1) then some (.inr (((z2.2)))) else ((rdR (z2.2) x0 5 1).bind fun v2 => ((rdR (z2.2) x0 5 2).bind fun v3 => ((ldI (z2.2) v3 (z2.1)).bind fun v4 => ((stI (z2.2) v2 (z2.1) v4).bind fun h5 => some (.inl (((z2.1) + 1), h5)))))))
def f_X6_putBack (h : PH) (a0 : Nat) : Option PH :=
  if okO h a0 5 = true then ((lpn (f_X6_putBack_L2 (a0)) LF ((0 : Int32), h)).bind (fun w2 => (f_X6_putBack_J26 w2 ))) else none
def f_X6_takes_J40 (h : PH)  (k0 : Int32) : Option Int32 :=
  (if z01 k0 = true then some (k0) else none)
def f_X6_takes_J39 (h : PH)   : Option Int32 :=
  (f_X6_takes_J40 h ((0 : Int32)))
def f_X6_takes (h : PH) (a0 : Nat) (a1 : Int32) (a2 : Int32) (a3 : Int32) : Option Int32 :=
  if okO h a0 5 = true then ((f_X6_phaseOf h (a0) (a1) (a2)).bind fun v2 => (if v2 < 0 then (f_X6_takes_J39 h ) else (if a3 < v2 then (f_X6_takes_J39 h ) else ((rdR h a0 5 1).bind fun v3 => ((ldI h v3 ((0 : Int32) + a2)).bind fun v4 => (if ¬ v4 = 0 then (if ¬ ((a3 - v2) - (a3 - v2) / v4 * v4) = 0 then (f_X6_takes_J39 h ) else (f_X6_takes_J40 h ((1 : Int32)))) else none)))))) else none
def f_X6_hueAt_J36 (h : PH) (x3 : Int32)  : Option Int32 :=
  some (x3)
def f_X6_hueAt_J29 (h : PH) (x0 : Nat) (x1 : Int32) (x2 : Int32) (x4 : Int32) (k0 : Int32) : Option ((Int32 × Int32) ⊕ (Int32)) :=
  some (.inl (k0, (x4 + 1)))
def f_X6_hueAt_L5 (h : PH) (x0 : Nat) (x1 : Int32) (x2 : Int32) : Int32 × Int32 → Option ((Int32 × Int32) ⊕ (Int32)) := fun z5 =>
  (if (8 : Int32) ≤ (z5.2) then some (.inr (((z5.1)))) else ((f_X6_takes h (x0) (x1) ((z5.2)) (x2)).bind fun v2 => (if v2 = 0 then (f_X6_hueAt_J29 h (x0) (x1) (x2) ((z5.2)) ((z5.1))) else (f_X6_hueAt_J29 h (x0) (x1) (x2) ((z5.2)) ((z5.2))))))
def f_X6_hueAt (h : PH) (a0 : Nat) (a1 : Int32) (a2 : Int32) : Option Int32 :=
  if okO h a0 5 = true then ((lpn (f_X6_hueAt_L5 (h) (a0) (a1) (a2)) LF (((-1) : Int32), (0 : Int32))).bind (fun w5 => (f_X6_hueAt_J36 h (w5)))) else none
def f_X6_takers_J37 (h : PH) (x3 : Int32)  : Option Int32 :=
  some (x3)
def f_X6_takers_J29 (h : PH) (x0 : Nat) (x1 : Int32) (x2 : Int32) (x4 : Int32) (k0 : Int32) (k1 : Int32) : Option ((Int32 × Int32) ⊕ (Int32)) :=
  some (.inl ((k0 + k1), (x4 + 1)))
def f_X6_takers_L5 (h : PH) (x0 : Nat) (x1 : Int32) (x2 : Int32) : Int32 × Int32 → Option ((Int32 × Int32) ⊕ (Int32)) := fun z5 =>
  (if (8 : Int32) ≤ (z5.2) then some (.inr (((z5.1)))) else ((f_X6_takes h (x0) (x1) ((z5.2)) (x2)).bind fun v2 => (if v2 = 0 then (f_X6_takers_J29 h (x0) (x1) (x2) ((z5.2)) ((z5.1)) ((0 : Int32))) else (f_X6_takers_J29 h (x0) (x1) (x2) ((z5.2)) ((z5.1)) ((1 : Int32))))))
def f_X6_takers (h : PH) (a0 : Nat) (a1 : Int32) (a2 : Int32) : Option Int32 :=
  if okO h a0 5 = true then ((lpn (f_X6_takers_L5 (h) (a0) (a1) (a2)) LF ((0 : Int32), (0 : Int32))).bind (fun w5 => (f_X6_takers_J37 h (w5)))) else none
def f_X6_clash_J24 (h : PH) (x2 : Int32)  : Option Int32 :=
  some (x2)
def f_X6_clash_L2 (h : PH) (x0 : Nat) (x1 : Int32) : Int32 → Option ((Int32) ⊕ (Int32)) := fun z2 =>
  (if (60 : Int32) ≤ z2 then some (.inr ((z2))) else ((f_X6_takers h (x0) (x1) (z2)).bind fun v2 => (if (2 : Int32) ≤ v2 then some (.inr ((z2))) else some (.inl ((z2 + 1))))))
def f_X6_clash (h : PH) (a0 : Nat) (a1 : Int32) : Option Int32 :=
  if okO h a0 5 = true then ((lpn (f_X6_clash_L2 (h) (a0) (a1)) LF ((0 : Int32))).bind (fun w2 => (f_X6_clash_J24 h (w2)))) else none
def f_X6_placesOf_J45 (h : PH) (x3 : Int32)  : Option Int32 :=
  some (x3)
def f_X6_placesOf_J37 (h : PH) (x0 : Nat) (x1 : Int32) (x2 : Int32) (x4 : Int32) (k0 : Int32) (k1 : Int32) : Option ((Int32 × Int32) ⊕ (Int32)) :=
  some (.inl ((k0 + k1), (x4 + 1)))
def f_X6_placesOf_L5 (h : PH) (x0 : Nat) (x1 : Int32) (x2 : Int32) : Int32 × Int32 → Option ((Int32 × Int32) ⊕ (Int32)) := fun z5 =>
  ((rdR h x0 5 1).bind fun v2 => ((f_X6_of h (x1) ((0 : Int32))).bind fun v3 => ((ldI h v2 v3).bind fun v4 => (if v4 ≤ (z5.2) then some (.inr (((z5.1)))) else ((f_X6_takes h (x0) (x1) (x2) ((z5.2))).bind fun v5 => (if v5 = 0 then (f_X6_placesOf_J37 h (x0) (x1) (x2) ((z5.2)) ((z5.1)) ((0 : Int32))) else (f_X6_placesOf_J37 h (x0) (x1) (x2) ((z5.2)) ((z5.1)) ((1 : Int32)))))))))
def f_X6_placesOf (h : PH) (a0 : Nat) (a1 : Int32) (a2 : Int32) : Option Int32 :=
  if okO h a0 5 = true then ((lpn (f_X6_placesOf_L5 (h) (a0) (a1) (a2)) LF ((0 : Int32), (0 : Int32))).bind (fun w5 => (f_X6_placesOf_J45 h (w5)))) else none
def f_X6_lastOf_J44 (h : PH) (x3 : Int32)  : Option Int32 :=
  some (x3)
def f_X6_lastOf_J37 (h : PH) (x0 : Nat) (x1 : Int32) (x2 : Int32) (x4 : Int32) (k0 : Int32) : Option ((Int32 × Int32) ⊕ (Int32)) :=
  some (.inl (k0, (x4 + 1)))
def f_X6_lastOf_L5 (h : PH) (x0 : Nat) (x1 : Int32) (x2 : Int32) : Int32 × Int32 → Option ((Int32 × Int32) ⊕ (Int32)) := fun z5 =>
  ((rdR h x0 5 1).bind fun v2 => ((f_X6_of h (x1) ((0 : Int32))).bind fun v3 => ((ldI h v2 v3).bind fun v4 => (if v4 ≤ (z5.2) then some (.inr (((z5.1)))) else ((f_X6_takes h (x0) (x1) (x2) ((z5.2))).bind fun v5 => (if v5 = 0 then (f_X6_lastOf_J37 h (x0) (x1) (x2) ((z5.2)) ((z5.1))) else (f_X6_lastOf_J37 h (x0) (x1) (x2) ((z5.2)) ((z5.2)))))))))
def f_X6_lastOf (h : PH) (a0 : Nat) (a1 : Int32) (a2 : Int32) : Option Int32 :=
  if okO h a0 5 = true then ((lpn (f_X6_lastOf_L5 (h) (a0) (a1) (a2)) LF (((-1) : Int32), (0 : Int32))).bind (fun w5 => (f_X6_lastOf_J44 h (w5)))) else none
def f_X6_clears_J63 (hh : PH)   : Option PH :=
  some hh
def f_X6_clears_L24 (x0 : Nat) (x1 : Int32) : Int32 × PH → Option ((Int32 × PH) ⊕ (PH)) := fun z24 =>
  (if (8 : Int32) ≤ (z24.1) then some (.inr (((z24.2)))) else ((rdR (z24.2) x0 5 1).bind fun v8 => ((f_X6_of (z24.2) (x1) (((2 : Int32) + (z24.1)))).bind fun v9 => ((stI (z24.2) v8 v9 (0 : Int32)).bind fun h10 => ((rdR h10 x0 5 1).bind fun v11 => ((f_X6_of h10 (x1) (((10 : Int32) + (z24.1)))).bind fun v12 => ((stI h10 v11 v12 ((-1) : Int32)).bind fun h13 => some (.inl (((z24.1) + 1), h13)))))))))
def f_X6_clears (h : PH) (a0 : Nat) (a1 : Int32) (a2 : Int32) : Option PH :=
  if okO h a0 5 = true then ((rdR h a0 5 1).bind fun v1 => ((f_X6_of h (a1) ((0 : Int32))).bind fun v2 => ((stI h v1 v2 a2).bind fun h3 => ((rdR h3 a0 5 1).bind fun v4 => ((f_X6_of h3 (a1) ((1 : Int32))).bind fun v5 => ((stI h3 v4 v5 (0 : Int32)).bind fun h6 => ((lpn (f_X6_clears_L24 (a0) (a1)) LF ((0 : Int32), h6)).bind (fun w24 => (f_X6_clears_J63 w24 ))))))))) else none
def f_X6_lays (h : PH) (a0 : Nat) (a1 : Int32) (a2 : Int32) (a3 : Int32) : Option PH :=
  if okO h a0 5 = true then ((rdR h a0 5 1).bind fun v1 => ((rdR h a0 5 1).bind fun v2 => ((f_X6_of h (a1) ((1 : Int32))).bind fun v3 => ((ldI h v2 v3).bind fun v4 => ((f_X6_of h (a1) (((2 : Int32) + v4))).bind fun v5 => ((stI h v1 v5 a2).bind fun h6 => ((rdR h6 a0 5 1).bind fun v7 => ((f_X6_of h6 (a1) ((1 : Int32))).bind fun v8 => ((ldI h6 v7 v8).bind fun v9 => ((stI h6 v7 v8 (v9 + (1 : Int32))).bind fun h10 => ((rdR h10 a0 5 1).bind fun v11 => ((f_X6_of h10 (a1) (((10 : Int32) + a2))).bind fun v12 => ((stI h10 v11 v12 a3).bind fun h13 => some h13))))))))))))) else none
def f_X6_remembers_J30 (hh : PH)   : Option PH :=
  some hh
def f_X6_remembers_L2 (x0 : Nat) (x1 : Int32) : Int32 × PH → Option ((Int32 × PH) ⊕ (PH)) := fun z2 =>
  (if (18 : Int32) ≤ (z2.1) then some (.inr (((z2.2)))) else ((rdR (z2.2) x0 5 9).bind fun v2 => ((rdR (z2.2) x0 5 1).bind fun v3 => ((f_X6_of (z2.2) (x1) ((z2.1))).bind fun v4 => ((ldI (z2.2) v3 v4).bind fun v5 => ((stI (z2.2) v2 (z2.1) v5).bind fun h6 => some (.inl (((z2.1) + 1), h6))))))))
def f_X6_remembers (h : PH) (a0 : Nat) (a1 : Int32) : Option PH :=
  if okO h a0 5 = true then ((lpn (f_X6_remembers_L2 (a0) (a1)) LF ((0 : Int32), h)).bind (fun w2 => (f_X6_remembers_J30 w2 ))) else none
def f_X6_laysFrom_J88 (hh : PH)   : Option PH :=
  some hh
def f_X6_laysFrom_J82 (hh : PH) (x0 : Nat) (x1 : Int32) (x2 : Int32) (x3 : Int32)  : Option ((Int32 × PH) ⊕ (PH)) :=
  some (.inl ((x3 + 1), hh))
def f_X6_laysFrom_J58 (hh : PH) (x0 : Nat) (x1 : Int32) (x2 : Int32) (x3 : Int32) (x4 : Int32) (x5 : Int32)  : Option ((Int32 × PH) ⊕ (PH)) :=
  ((rdR hh x0 5 1).bind fun v2 => ((f_X6_of hh (x1) ((0 : Int32))).bind fun v3 => ((ldI hh v2 v3).bind fun v4 => (if v4 ≤ x5 then (f_X6_laysFrom_J82 hh (x0) (x1) (x2) (x3)) else ((f_X6_lays hh (x0) (x1) (x4) (x5)).bind fun h5 => (f_X6_laysFrom_J82 h5 (x0) (x1) (x2) (x3)))))))
def f_X6_laysFrom_L36 (hh : PH) (x0 : Nat) (x1 : Int32) (x2 : Int32) (x3 : Int32) (x4 : Int32) : Int32 → Option ((Int32) ⊕ (Int32)) := fun z36 =>
  (if 0 ≤ z36 then some (.inr ((z36))) else ((rdR hh x0 5 1).bind fun v13 => ((ldI hh v13 ((0 : Int32) + x4)).bind fun v14 => some (.inl ((z36 + v14))))))
def f_X6_laysFrom_L2 (x0 : Nat) (x1 : Int32) (x2 : Int32) : Int32 × PH → Option ((Int32 × PH) ⊕ (PH)) := fun z2 =>
  ((rdR (z2.2) x0 5 9).bind fun v6 => ((ldI (z2.2) v6 (1 : Int32)).bind fun v7 => (if v7 ≤ (z2.1) then some (.inr (((z2.2)))) else ((rdR (z2.2) x0 5 9).bind fun v8 => ((ldI (z2.2) v8 ((2 : Int32) + (z2.1))).bind fun v9 => ((rdR (z2.2) x0 5 9).bind fun v10 => ((ldI (z2.2) v10 ((10 : Int32) + v9)).bind fun v11 => ((lpn (f_X6_laysFrom_L36 ((z2.2)) (x0) (x1) (x2) ((z2.1)) (v9)) LF ((v11 - x2))).bind (fun w36 => (f_X6_laysFrom_J58 (z2.2) (x0) (x1) (x2) ((z2.1)) (v9) (w36)))))))))))
def f_X6_laysFrom (h : PH) (a0 : Nat) (a1 : Int32) (a2 : Int32) : Option PH :=
  if okO h a0 5 = true then ((lpn (f_X6_laysFrom_L2 (a0) (a1) (a2)) LF ((0 : Int32), h)).bind (fun w2 => (f_X6_laysFrom_J88 w2 ))) else none
def f_X6_drops_J84 (hh : PH)   : Option PH :=
  some hh
def f_X6_drops_L55 (x0 : Nat) : Int32 × PH → Option ((Int32 × PH) ⊕ (PH)) := fun z55 =>
  (if (18 : Int32) ≤ (z55.1) then some (.inr (((z55.2)))) else ((rdR (z55.2) x0 5 1).bind fun v2 => ((rdR (z55.2) x0 5 1).bind fun v3 => ((ldI (z55.2) v3 (8 : Int32)).bind fun v4 => ((f_X6_of (z55.2) (v4) ((z55.1))).bind fun v5 => ((stI (z55.2) v2 v5 (0 : Int32)).bind fun h6 => some (.inl (((z55.1) + 1), h6))))))))
def f_X6_drops_J53 (hh : PH) (x0 : Nat)  : Option PH :=
  ((lpn (f_X6_drops_L55 (x0)) LF ((0 : Int32), hh)).bind (fun w55 => (f_X6_drops_J84 w55 )))
def f_X6_drops_L17 (x0 : Nat) : Int32 × PH → Option ((Int32 × PH) ⊕ (PH)) := fun z17 =>
  ((rdR (z17.2) x0 5 1).bind fun v12 => ((ldI (z17.2) v12 (8 : Int32)).bind fun v13 => ((f_X6_of (z17.2) (v13) ((0 : Int32))).bind fun v14 => (if v14 ≤ (z17.1) then some (.inr (((z17.2)))) else ((rdR (z17.2) x0 5 1).bind fun v15 => ((rdR (z17.2) x0 5 1).bind fun v16 => ((ldI (z17.2) v16 ((z17.1) + (18 : Int32))).bind fun v17 => ((stI (z17.2) v15 (z17.1) v17).bind fun h18 => some (.inl (((z17.1) + 1), h18))))))))))
def f_X6_drops (h : PH) (a0 : Nat) (a1 : Int32) : Option PH :=
  if okO h a0 5 = true then ((rdR h a0 5 1).bind fun v7 => ((ldI h v7 (8 : Int32)).bind fun v8 => ((stI h v7 (8 : Int32) (v8 - (1 : Int32))).bind fun h9 => ((f_X6_of h9 (a1) ((0 : Int32))).bind fun v10 => ((lpn (f_X6_drops_L17 (a0)) LF (v10, h9)).bind (fun w17 => (f_X6_drops_J53 w17 (a0)))))))) else none
def f_X6_turns_J60 (hh : PH)   : Option PH :=
  some hh
def f_X6_turns_L7 (x0 : Nat) (x1 : Int32) : Int32 × PH → Option ((Int32 × PH) ⊕ (PH)) := fun z7 =>
  ((rdR (z7.2) x0 5 9).bind fun v3 => ((ldI (z7.2) v3 (1 : Int32)).bind fun v4 => (if v4 ≤ (z7.1) then some (.inr (((z7.2)))) else ((rdR (z7.2) x0 5 9).bind fun v5 => ((ldI (z7.2) v5 ((2 : Int32) + (z7.1))).bind fun v6 => ((rdR (z7.2) x0 5 1).bind fun v7 => ((f_X6_of (z7.2) (x1) (((10 : Int32) + v6))).bind fun v8 => ((rdR (z7.2) x0 5 9).bind fun v9 => ((ldI (z7.2) v9 (0 : Int32)).bind fun v10 => ((f_X6_lastOf (z7.2) (x0) (x1) (v6)).bind fun v11 => ((stI (z7.2) v7 v8 ((v10 - (1 : Int32)) - v11)).bind fun h12 => some (.inl (((z7.1) + 1), h12)))))))))))))
def f_X6_turns (h : PH) (a0 : Nat) (a1 : Int32) : Option PH :=
  if okO h a0 5 = true then ((f_X6_remembers h (a0) (a1)).bind fun h1 => ((lpn (f_X6_turns_L7 (a0) (a1)) LF ((0 : Int32), h1)).bind (fun w7 => (f_X6_turns_J60 w7 )))) else none
def f_X6_unlikeTurned_J60 (h : PH) (x2 : Int32)  : Option Int32 :=
  some (x2)
def f_X6_unlikeTurned_J52 (h : PH) (x0 : Nat) (x1 : Int32) (x3 : Int32) (k0 : Int32) (k1 : Int32) : Option ((Int32 × Int32) ⊕ (Int32)) :=
  some (.inl ((k0 + k1), (x3 + 1)))
def f_X6_unlikeTurned_L4 (h : PH) (x0 : Nat) (x1 : Int32) : Int32 × Int32 → Option ((Int32 × Int32) ⊕ (Int32)) := fun z4 =>
  ((rdR h x0 5 1).bind fun v2 => ((f_X6_of h (x1) ((0 : Int32))).bind fun v3 => ((ldI h v2 v3).bind fun v4 => (if v4 ≤ (z4.2) then some (.inr (((z4.1)))) else ((f_X6_hueAt h (x0) (x1) ((z4.2))).bind fun v5 => ((rdR h x0 5 1).bind fun v6 => ((f_X6_of h (x1) ((0 : Int32))).bind fun v7 => ((ldI h v6 v7).bind fun v8 => ((f_X6_hueAt h (x0) (x1) (((v8 - (1 : Int32)) - (z4.2)))).bind fun v9 => (if v5 = v9 then (f_X6_unlikeTurned_J52 h (x0) (x1) ((z4.2)) ((z4.1)) ((0 : Int32))) else (f_X6_unlikeTurned_J52 h (x0) (x1) ((z4.2)) ((z4.1)) ((1 : Int32)))))))))))))
def f_X6_unlikeTurned (h : PH) (a0 : Nat) (a1 : Int32) : Option Int32 :=
  if okO h a0 5 = true then ((lpn (f_X6_unlikeTurned_L4 (h) (a0) (a1)) LF ((0 : Int32), (0 : Int32))).bind (fun w4 => (f_X6_unlikeTurned_J60 h (w4)))) else none
def f_X6_takesOff_J75 (hh : PH)   : Option PH :=
  some hh
def f_X6_takesOff_J69 (hh : PH) (x0 : Nat) (x1 : Int32) (x2 : Int32) (x3 : Int32)  : Option ((Int32 × PH) ⊕ (PH)) :=
  some (.inl ((x3 + 1), hh))
def f_X6_takesOff_L18 (x0 : Nat) (x1 : Int32) (x2 : Int32) : Int32 × PH → Option ((Int32 × PH) ⊕ (PH)) := fun z18 =>
  ((rdR (z18.2) x0 5 9).bind fun v6 => ((ldI (z18.2) v6 (1 : Int32)).bind fun v7 => (if v7 ≤ (z18.1) then some (.inr (((z18.2)))) else ((rdR (z18.2) x0 5 9).bind fun v8 => ((ldI (z18.2) v8 ((2 : Int32) + (z18.1))).bind fun v9 => (if v9 = x2 then (f_X6_takesOff_J69 (z18.2) (x0) (x1) (x2) ((z18.1))) else ((rdR (z18.2) x0 5 9).bind fun v10 => ((ldI (z18.2) v10 ((2 : Int32) + (z18.1))).bind fun v11 => ((rdR (z18.2) x0 5 9).bind fun v12 => ((rdR (z18.2) x0 5 9).bind fun v13 => ((ldI (z18.2) v13 ((2 : Int32) + (z18.1))).bind fun v14 => ((ldI (z18.2) v12 ((10 : Int32) + v14)).bind fun v15 => ((f_X6_lays (z18.2) (x0) (x1) (v11) (v15)).bind fun h16 => (f_X6_takesOff_J69 h16 (x0) (x1) (x2) ((z18.1))))))))))))))))
def f_X6_takesOff (h : PH) (a0 : Nat) (a1 : Int32) (a2 : Int32) : Option PH :=
  if okO h a0 5 = true then ((f_X6_remembers h (a0) (a1)).bind fun h1 => ((rdR h1 a0 5 9).bind fun v2 => ((ldI h1 v2 (0 : Int32)).bind fun v3 => ((f_X6_clears h1 (a0) (a1) (v3)).bind fun h4 => ((lpn (f_X6_takesOff_L18 (a0) (a1) (a2)) LF ((0 : Int32), h4)).bind (fun w18 => (f_X6_takesOff_J75 w18 ))))))) else none
def f_X6_isLaidAnywhere_J40 (h : PH) (x2 : Int32)  : Option Int32 :=
  (if z01 x2 = true then some (x2) else none)
def f_X6_isLaidAnywhere_J33 (h : PH) (x0 : Nat) (x1 : Int32) (x3 : Int32) (k0 : Int32) : Option ((Int32 × Int32) ⊕ (Int32)) :=
  some (.inl (k0, (x3 + 1)))
def f_X6_isLaidAnywhere_J28 (h : PH) (x0 : Nat) (x1 : Int32) (x3 : Int32)  : Option ((Int32 × Int32) ⊕ (Int32)) :=
  (f_X6_isLaidAnywhere_J33 h (x0) (x1) (x3) ((1 : Int32)))
def f_X6_isLaidAnywhere_L4 (h : PH) (x0 : Nat) (x1 : Int32) : Int32 × Int32 → Option ((Int32 × Int32) ⊕ (Int32)) := fun z4 =>
  ((rdR h x0 5 1).bind fun v3 => ((ldI h v3 (8 : Int32)).bind fun v4 => (if v4 ≤ (z4.2) then some (.inr (((z4.1)))) else (if ¬ (z4.1) = 0 then (f_X6_isLaidAnywhere_J28 h (x0) (x1) ((z4.2))) else ((f_X6_isLaid h (x0) ((z4.2)) (x1)).bind fun v5 => (if v5 = 0 then (f_X6_isLaidAnywhere_J33 h (x0) (x1) ((z4.2)) ((0 : Int32))) else (f_X6_isLaidAnywhere_J28 h (x0) (x1) ((z4.2)))))))))
def f_X6_isLaidAnywhere (h : PH) (a0 : Nat) (a1 : Int32) : Option Int32 :=
  if okO h a0 5 = true then ((lpn (f_X6_isLaidAnywhere_L4 (h) (a0) (a1)) LF ((0 : Int32), (0 : Int32))).bind (fun w4 => (f_X6_isLaidAnywhere_J40 h (w4)))) else none
def f_X6_gap_J39 (h : PH) (x0 : Nat) (x1 : Int32) (x2 : Int32) (k0 : Nat) (k1 : Int32) : Option (Int32 × PH) :=
  ((f_X6_holds h (k0) (k1)).bind fun q3 => (if ¬ q3.1 = 0 then ((f_X6_save q3.2 (x0)).bind fun h4 => ((rdR h4 x0 5 1).bind fun v5 => ((ldI h4 v5 ((0 : Int32) + x1)).bind fun v6 => ((rdR h4 x0 5 1).bind fun v7 => ((stI h4 v7 ((0 : Int32) + x1) x2).bind fun h8 => some (v6, h8)))))) else some ((0 : Int32), q3.2)))
def f_X6_gap (h : PH) (a0 : Nat) (a1 : Int32) (a2 : Int32) : Option (Int32 × PH) :=
  if okO h a0 5 = true then ((f_X6_isHue h (a1)).bind fun v9 => (if ¬ v9 = 0 then ((f_X6_in h (a2) ((2 : Int32)) ((20 : Int32))).bind fun v10 => (if ¬ v10 = 0 then ((f_X6_isLaidAnywhere h (a0) (a1)).bind fun v11 => (if v11 = 0 then (f_X6_gap_J39 h (a0) (a1) (a2) (a0) ((0 : Int32))) else (f_X6_gap_J39 h (a0) (a1) (a2) (a0) ((3 : Int32))))) else (f_X6_gap_J39 h (a0) (a1) (a2) (a0) ((2 : Int32))))) else (f_X6_gap_J39 h (a0) (a1) (a2) (a0) ((1 : Int32))))) else none
def f_X6_adds (h : PH) (a0 : Nat) (a1 : Int32) : Option PH :=
  if okO h a0 5 = true then ((rdR h a0 5 1).bind fun v1 => ((ldI h v1 (8 : Int32)).bind fun v2 => ((f_X6_clears h (a0) (v2) (a1)).bind fun h3 => ((rdR h3 a0 5 1).bind fun v4 => ((ldI h3 v4 (8 : Int32)).bind fun v5 => ((stI h3 v4 (8 : Int32) (v5 + (1 : Int32))).bind fun h6 => some h6)))))) else none
def f_X6_rope_J31 (h : PH) (x0 : Nat) (x1 : Int32) (k0 : Nat) (k1 : Int32) : Option (Int32 × PH) :=
  ((f_X6_holds h (k0) (k1)).bind fun q3 => (if ¬ q3.1 = 0 then ((f_X6_save q3.2 (x0)).bind fun h4 => ((f_X6_adds h4 (x0) (x1)).bind fun h5 => ((rdR h5 x0 5 1).bind fun v6 => ((ldI h5 v6 (8 : Int32)).bind fun v7 => some ((v7 - (1 : Int32)), h5))))) else some ((0 : Int32), q3.2)))
def f_X6_rope (h : PH) (a0 : Nat) (a1 : Int32) : Option (Int32 × PH) :=
  if okO h a0 5 = true then ((f_X6_in h (a1) ((1 : Int32)) ((60 : Int32))).bind fun v8 => (if ¬ v8 = 0 then ((rdR h a0 5 1).bind fun v9 => ((ldI h v9 (8 : Int32)).bind fun v10 => (if ¬ v10 = (4 : Int32) then (f_X6_rope_J31 h (a0) (a1) (a0) ((0 : Int32))) else (f_X6_rope_J31 h (a0) (a1) (a0) ((2 : Int32)))))) else (f_X6_rope_J31 h (a0) (a1) (a0) ((1 : Int32))))) else none
def f_X6_drop_J14 (h : PH) (x0 : Nat) (x1 : Int32) (k0 : Nat) (k1 : Int32) : Option (Int32 × PH) :=
  ((f_X6_holds h (k0) (k1)).bind fun q3 => (if ¬ q3.1 = 0 then ((f_X6_save q3.2 (x0)).bind fun h4 => ((f_X6_drops h4 (x0) (x1)).bind fun h5 => ((rdR h5 x0 5 1).bind fun v6 => ((ldI h5 v6 (8 : Int32)).bind fun v7 => some (v7, h5))))) else some ((0 : Int32), q3.2)))
def f_X6_drop (h : PH) (a0 : Nat) (a1 : Int32) : Option (Int32 × PH) :=
  if okO h a0 5 = true then ((f_X6_isRope h (a0) (a1)).bind fun v8 => (if v8 = 0 then (f_X6_drop_J14 h (a0) (a1) (a0) ((1 : Int32))) else (f_X6_drop_J14 h (a0) (a1) (a0) ((0 : Int32))))) else none
def f_X6_why_J97 (h : PH)  (k0 : Int32) : Option Int32 :=
  some (k0)
def f_X6_why_J87 (h : PH) (x4 : Int32)  : Option Int32 :=
  (if x4 = 0 then (f_X6_why_J97 h ((0 : Int32))) else (f_X6_why_J97 h ((3 : Int32))))
def f_X6_why_J69 (h : PH) (x0 : Nat) (x1 : Int32) (x2 : Int32) (x5 : Int32) (k0 : Int32) : Option ((Int32 × Int32) ⊕ (Int32)) :=
  ((rdR h x0 5 1).bind fun v6 => ((ldI h v6 ((0 : Int32) + x2)).bind fun v7 => some (.inl (k0, (x5 + v7)))))
def f_X6_why_J64 (h : PH) (x0 : Nat) (x1 : Int32) (x2 : Int32) (x5 : Int32)  : Option ((Int32 × Int32) ⊕ (Int32)) :=
  (f_X6_why_J69 h (x0) (x1) (x2) (x5) ((1 : Int32)))
def f_X6_why_L33 (h : PH) (x0 : Nat) (x1 : Int32) (x2 : Int32) : Int32 × Int32 → Option ((Int32 × Int32) ⊕ (Int32)) := fun z33 =>
  ((rdR h x0 5 1).bind fun v8 => ((f_X6_of h (x1) ((0 : Int32))).bind fun v9 => ((ldI h v8 v9).bind fun v10 => (if v10 ≤ (z33.2) then some (.inr (((z33.1)))) else (if ¬ (z33.1) = 0 then (f_X6_why_J64 h (x0) (x1) (x2) ((z33.2))) else ((f_X6_hueAt h (x0) (x1) ((z33.2))).bind fun v11 => (if v11 = ((-1) : Int32) then (f_X6_why_J69 h (x0) (x1) (x2) ((z33.2)) ((0 : Int32))) else (f_X6_why_J64 h (x0) (x1) (x2) ((z33.2))))))))))
def f_X6_why (h : PH) (a0 : Nat) (a1 : Int32) (a2 : Int32) (a3 : Int32) : Option Int32 :=
  if okO h a0 5 = true then ((f_X6_isLaid h (a0) (a1) (a2)).bind fun v1 => (if v1 = 0 then ((rdR h a0 5 1).bind fun v2 => ((f_X6_of h (a1) ((0 : Int32))).bind fun v3 => ((ldI h v2 v3).bind fun v4 => (if a3 < v4 then ((lpn (f_X6_why_L33 (h) (a0) (a1) (a2)) LF ((0 : Int32), a3)).bind (fun w33 => (f_X6_why_J87 h (w33)))) else some ((2 : Int32)))))) else some ((1 : Int32)))) else none
def f_X6_areThere_J20 (h : PH)  (k0 : Int32) : Option Int32 :=
  (if z01 k0 = true then some (k0) else none)
def f_X6_areThere_J19 (h : PH)   : Option Int32 :=
  (f_X6_areThere_J20 h ((0 : Int32)))
def f_X6_areThere (h : PH) (a0 : Nat) (a1 : Int32) (a2 : Int32) : Option Int32 :=
  if okO h a0 5 = true then ((f_X6_isRope h (a0) (a1)).bind fun v2 => (if v2 = 0 then (f_X6_areThere_J19 h ) else ((f_X6_isHue h (a2)).bind fun v3 => (if v3 = 0 then (f_X6_areThere_J19 h ) else (f_X6_areThere_J20 h ((1 : Int32))))))) else none
def f_X6_lay_J42 (h : PH) (x0 : Nat) (x1 : Int32) (x2 : Int32) (x3 : Int32) (k0 : Nat) (k1 : Int32) : Option (Int32 × PH) :=
  ((f_X6_holds h (k0) (k1)).bind fun q3 => (if ¬ q3.1 = 0 then ((f_X6_save q3.2 (x0)).bind fun h4 => ((f_X6_lays h4 (x0) (x1) (x2) (x3)).bind fun h5 => ((rdR h5 x0 5 1).bind fun v6 => ((ldI h5 v6 (9 : Int32)).bind fun v7 => ((stI h5 v6 (9 : Int32) (v7 + (1 : Int32))).bind fun h8 => ((f_X6_placesOf h8 (x0) (x1) (x2)).bind fun v9 => some (v9, h8))))))) else some ((0 : Int32), q3.2)))
def f_X6_lay (h : PH) (a0 : Nat) (a1 : Int32) (a2 : Int32) (a3 : Int32) : Option (Int32 × PH) :=
  if okO h a0 5 = true then ((f_X6_areThere h (a0) (a1) (a2)).bind fun v10 => (if ¬ v10 = 0 then ((f_X6_isPhase h (a0) (a2) (a3)).bind fun v11 => (if ¬ v11 = 0 then ((f_X6_why h (a0) (a1) (a2) (a3)).bind fun v12 => (if v12 ≤ 0 then (f_X6_lay_J42 h (a0) (a1) (a2) (a3) (a0) ((0 : Int32))) else (f_X6_lay_J42 h (a0) (a1) (a2) (a3) (a0) ((3 : Int32))))) else (f_X6_lay_J42 h (a0) (a1) (a2) (a3) (a0) ((2 : Int32))))) else (f_X6_lay_J42 h (a0) (a1) (a2) (a3) (a0) ((1 : Int32))))) else none
def f_X6_take_J28 (h : PH) (x0 : Nat) (x1 : Int32) (x2 : Int32) (k0 : Nat) (k1 : Int32) : Option (Int32 × PH) :=
  ((f_X6_holds h (k0) (k1)).bind fun q3 => (if ¬ q3.1 = 0 then ((f_X6_save q3.2 (x0)).bind fun h4 => ((f_X6_placesOf h4 (x0) (x1) (x2)).bind fun v5 => ((f_X6_takesOff h4 (x0) (x1) (x2)).bind fun h6 => some (v5, h6)))) else some ((0 : Int32), q3.2)))
def f_X6_take (h : PH) (a0 : Nat) (a1 : Int32) (a2 : Int32) : Option (Int32 × PH) :=
  if okO h a0 5 = true then ((f_X6_areThere h (a0) (a1) (a2)).bind fun v7 => (if ¬ v7 = 0 then ((f_X6_isLaid h (a0) (a1) (a2)).bind fun v8 => (if ¬ v8 = 0 then (f_X6_take_J28 h (a0) (a1) (a2) (a0) ((0 : Int32))) else (f_X6_take_J28 h (a0) (a1) (a2) (a0) ((2 : Int32))))) else (f_X6_take_J28 h (a0) (a1) (a2) (a0) ((1 : Int32))))) else none
def f_X6_stretch_J41 (h : PH) (x0 : Nat) (x1 : Int32) (x2 : Int32) (k0 : Nat) (k1 : Int32) : Option (Int32 × PH) :=
  ((f_X6_holds h (k0) (k1)).bind fun q3 => (if ¬ q3.1 = 0 then ((f_X6_save q3.2 (x0)).bind fun h4 => ((f_X6_remembers h4 (x0) (x1)).bind fun h5 => ((f_X6_clears h5 (x0) (x1) (x2)).bind fun h6 => ((f_X6_laysFrom h6 (x0) (x1) ((0 : Int32))).bind fun h7 => ((rdR h7 x0 5 9).bind fun v8 => ((ldI h7 v8 (1 : Int32)).bind fun v9 => ((rdR h7 x0 5 1).bind fun v10 => ((f_X6_of h7 (x1) ((1 : Int32))).bind fun v11 => ((ldI h7 v10 v11).bind fun v12 => some ((v9 - v12), h7)))))))))) else some ((0 : Int32), q3.2)))
def f_X6_stretch (h : PH) (a0 : Nat) (a1 : Int32) (a2 : Int32) : Option (Int32 × PH) :=
  if okO h a0 5 = true then ((f_X6_isRope h (a0) (a1)).bind fun v13 => (if ¬ v13 = 0 then ((f_X6_in h (a2) ((1 : Int32)) ((60 : Int32))).bind fun v14 => (if ¬ v14 = 0 then ((f_X6_clash h (a0) (a1)).bind fun v15 => (if a2 ≤ v15 then (f_X6_stretch_J41 h (a0) (a1) (a2) (a0) ((0 : Int32))) else (f_X6_stretch_J41 h (a0) (a1) (a2) (a0) ((3 : Int32))))) else (f_X6_stretch_J41 h (a0) (a1) (a2) (a0) ((2 : Int32))))) else (f_X6_stretch_J41 h (a0) (a1) (a2) (a0) ((1 : Int32))))) else none
def f_X6_cut_J55 (h : PH) (x0 : Nat) (x1 : Int32) (x2 : Int32) (k0 : Nat) (k1 : Int32) : Option (Int32 × PH) :=
  ((f_X6_holds h (k0) (k1)).bind fun q3 => (if ¬ q3.1 = 0 then ((f_X6_save q3.2 (x0)).bind fun h4 => ((f_X6_remembers h4 (x0) (x1)).bind fun h5 => ((rdR h5 x0 5 9).bind fun v6 => ((ldI h5 v6 (0 : Int32)).bind fun v7 => ((f_X6_adds h5 (x0) ((v7 - x2))).bind fun h8 => ((rdR h8 x0 5 1).bind fun v9 => ((ldI h8 v9 (8 : Int32)).bind fun v10 => ((f_X6_laysFrom h8 (x0) ((v10 - (1 : Int32))) (x2)).bind fun h11 => ((f_X6_clears h11 (x0) (x1) (x2)).bind fun h12 => ((f_X6_laysFrom h12 (x0) (x1) ((0 : Int32))).bind fun h13 => ((rdR h13 x0 5 1).bind fun v14 => ((ldI h13 v14 (11 : Int32)).bind fun v15 => ((stI h13 v14 (11 : Int32) (v15 + (1 : Int32))).bind fun h16 => ((rdR h16 x0 5 1).bind fun v17 => ((ldI h16 v17 (8 : Int32)).bind fun v18 => some ((v18 - (1 : Int32)), h16)))))))))))))))) else some ((0 : Int32), q3.2)))
def f_X6_cut (h : PH) (a0 : Nat) (a1 : Int32) (a2 : Int32) : Option (Int32 × PH) :=
  if okO h a0 5 = true then ((f_X6_isRope h (a0) (a1)).bind fun v19 => (if ¬ v19 = 0 then ((rdR h a0 5 1).bind fun v20 => ((f_X6_of h (a1) ((0 : Int32))).bind fun v21 => ((ldI h v20 v21).bind fun v22 => ((f_X6_in h (a2) ((1 : Int32)) ((v22 - (1 : Int32)))).bind fun v23 => (if ¬ v23 = 0 then ((rdR h a0 5 1).bind fun v24 => ((ldI h v24 (8 : Int32)).bind fun v25 => (if ¬ v25 = (4 : Int32) then (f_X6_cut_J55 h (a0) (a1) (a2) (a0) ((0 : Int32))) else (f_X6_cut_J55 h (a0) (a1) (a2) (a0) ((3 : Int32)))))) else (f_X6_cut_J55 h (a0) (a1) (a2) (a0) ((2 : Int32)))))))) else (f_X6_cut_J55 h (a0) (a1) (a2) (a0) ((1 : Int32))))) else none
def f_X6_turn_J14 (h : PH) (x0 : Nat) (x1 : Int32) (k0 : Nat) (k1 : Int32) : Option (Int32 × PH) :=
  ((f_X6_holds h (k0) (k1)).bind fun q3 => (if ¬ q3.1 = 0 then ((f_X6_save q3.2 (x0)).bind fun h4 => ((f_X6_unlikeTurned h4 (x0) (x1)).bind fun v5 => ((f_X6_turns h4 (x0) (x1)).bind fun h6 => some (v5, h6)))) else some ((0 : Int32), q3.2)))
def f_X6_turn (h : PH) (a0 : Nat) (a1 : Int32) : Option (Int32 × PH) :=
  if okO h a0 5 = true then ((f_X6_isRope h (a0) (a1)).bind fun v7 => (if v7 = 0 then (f_X6_turn_J14 h (a0) (a1) (a0) ((1 : Int32))) else (f_X6_turn_J14 h (a0) (a1) (a0) ((0 : Int32))))) else none
def f_X6_phaseBehind (h : PH) (a0 : Nat) (a1 : Int32) (a2 : Int32) (a3 : Int32) : Option Int32 :=
  if okO h a0 5 = true then ((rdR h a0 5 1).bind fun v1 => ((f_X6_of h (a1) ((0 : Int32))).bind fun v2 => ((ldI h v1 v2).bind fun v3 => ((f_X6_phaseOf h (a0) (a2) (a3)).bind fun v4 => ((rdR h a0 5 1).bind fun v5 => ((ldI h v5 ((0 : Int32) + a3)).bind fun v6 => (if ¬ v6 = 0 then some (((v3 + v4) - (v3 + v4) / v6 * v6)) else none))))))) else none
def f_X6_joinsWith_J61 (hh : PH) (x0 : Nat) (x1 : Int32) (x2 : Int32)  : Option PH :=
  ((rdR hh x0 5 1).bind fun v1 => ((f_X6_of hh (x1) ((0 : Int32))).bind fun v2 => ((ldI hh v1 v2).bind fun v3 => ((rdR hh x0 5 1).bind fun v4 => ((f_X6_of hh (x2) ((0 : Int32))).bind fun v5 => ((ldI hh v4 v5).bind fun v6 => ((stI hh v1 v2 (v3 + v6)).bind fun h7 => some h7)))))))
def f_X6_joinsWith_J55 (hh : PH) (x0 : Nat) (x1 : Int32) (x2 : Int32) (x3 : Int32)  : Option ((Int32 × PH) ⊕ (PH)) :=
  some (.inl ((x3 + 1), hh))
def f_X6_joinsWith_L2 (x0 : Nat) (x1 : Int32) (x2 : Int32) : Int32 × PH → Option ((Int32 × PH) ⊕ (PH)) := fun z2 =>
  ((rdR (z2.2) x0 5 1).bind fun v9 => ((f_X6_of (z2.2) (x2) ((1 : Int32))).bind fun v10 => ((ldI (z2.2) v9 v10).bind fun v11 => (if v11 ≤ (z2.1) then some (.inr (((z2.2)))) else ((rdR (z2.2) x0 5 1).bind fun v12 => ((f_X6_of (z2.2) (x2) (((2 : Int32) + (z2.1)))).bind fun v13 => ((ldI (z2.2) v12 v13).bind fun v14 => ((f_X6_isLaid (z2.2) (x0) (x1) (v14)).bind fun v15 => (if ¬ v15 = 0 then (f_X6_joinsWith_J55 (z2.2) (x0) (x1) (x2) ((z2.1))) else ((f_X6_phaseBehind (z2.2) (x0) (x1) (x2) (v14)).bind fun v16 => ((f_X6_lays (z2.2) (x0) (x1) (v14) (v16)).bind fun h17 => (f_X6_joinsWith_J55 h17 (x0) (x1) (x2) ((z2.1))))))))))))))
def f_X6_joinsWith (h : PH) (a0 : Nat) (a1 : Int32) (a2 : Int32) : Option PH :=
  if okO h a0 5 = true then ((lpn (f_X6_joinsWith_L2 (a0) (a1) (a2)) LF ((0 : Int32), h)).bind (fun w2 => (f_X6_joinsWith_J61 w2 (a0) (a1) (a2)))) else none
def f_X6_whyNotJoined_J43 (h : PH)  (k0 : Int32) : Option (Int32 × PH) :=
  some (k0, h)
def f_X6_whyNotJoined_J33 (h : PH) (x1 : Int32) (x2 : Int32)  : Option (Int32 × PH) :=
  (if ¬ x1 = x2 then (f_X6_whyNotJoined_J43 h ((2 : Int32))) else (f_X6_whyNotJoined_J43 h ((1 : Int32))))
def f_X6_whyNotJoined_J160 (hh : PH)  (k0 : Int32) : Option (Int32 × PH) :=
  some (k0, hh)
def f_X6_whyNotJoined_J144 (hh : PH) (x0 : Nat) (k0 : Int32) : Option (Int32 × PH) :=
  ((f_X6_putBack hh (x0)).bind fun h1 => (if k0 = 0 then (f_X6_whyNotJoined_J160 h1 ((0 : Int32))) else (f_X6_whyNotJoined_J160 h1 ((4 : Int32)))))
def f_X6_whyNotJoined_J113 (h : PH) (x0 : Nat) (x1 : Int32) (x2 : Int32) (x3 : Int32) (x4 : Int32)  : Option (Int32 × PH) :=
  (if ¬ x4 = 0 then ((f_X6_putAside h (x0)).bind fun h2 => ((f_X6_joinsWith h2 (x0) (x1) (x2)).bind fun h3 => ((f_X6_clash h3 (x0) (x1)).bind fun v4 => (if x3 ≤ v4 then (f_X6_whyNotJoined_J144 h3 (x0) ((0 : Int32))) else (f_X6_whyNotJoined_J144 h3 (x0) ((1 : Int32))))))) else some ((3 : Int32), h))
def f_X6_whyNotJoined_J105 (h : PH) (x0 : Nat) (x1 : Int32) (x2 : Int32) (x3 : Int32) (x5 : Int32) (k0 : Int32) : Option ((Int32 × Int32) ⊕ (Int32)) :=
  some (.inl (k0, (x5 + 1)))
def f_X6_whyNotJoined_J100 (h : PH) (x0 : Nat) (x1 : Int32) (x2 : Int32) (x3 : Int32) (x5 : Int32)  : Option ((Int32 × Int32) ⊕ (Int32)) :=
  (f_X6_whyNotJoined_J105 h (x0) (x1) (x2) (x3) (x5) ((1 : Int32)))
def f_X6_whyNotJoined_J104 (h : PH) (x0 : Nat) (x1 : Int32) (x2 : Int32) (x3 : Int32) (x5 : Int32)  : Option ((Int32 × Int32) ⊕ (Int32)) :=
  (f_X6_whyNotJoined_J105 h (x0) (x1) (x2) (x3) (x5) ((0 : Int32)))
def f_X6_whyNotJoined_L50 (hh : PH) (x0 : Nat) (x1 : Int32) (x2 : Int32) (x3 : Int32) : Int32 × Int32 → Option ((Int32 × Int32) ⊕ (Int32)) := fun z50 =>
  (if (8 : Int32) ≤ (z50.2) then some (.inr (((z50.1)))) else (if (z50.1) = 0 then (f_X6_whyNotJoined_J104 hh (x0) (x1) (x2) (x3) ((z50.2))) else ((f_X6_isLaid hh (x0) (x1) ((z50.2))).bind fun v12 => (if v12 = 0 then (f_X6_whyNotJoined_J100 hh (x0) (x1) (x2) (x3) ((z50.2))) else ((f_X6_isLaid hh (x0) (x2) ((z50.2))).bind fun v13 => (if v13 = 0 then (f_X6_whyNotJoined_J100 hh (x0) (x1) (x2) (x3) ((z50.2))) else ((f_X6_phaseOf hh (x0) (x1) ((z50.2))).bind fun v14 => ((f_X6_phaseBehind hh (x0) (x1) (x2) ((z50.2))).bind fun v15 => (if ¬ v14 = v15 then (f_X6_whyNotJoined_J104 hh (x0) (x1) (x2) (x3) ((z50.2))) else (f_X6_whyNotJoined_J100 hh (x0) (x1) (x2) (x3) ((z50.2))))))))))))
def f_X6_whyNotJoined (h : PH) (a0 : Nat) (a1 : Int32) (a2 : Int32) : Option (Int32 × PH) :=
  if okO h a0 5 = true then ((rdR h a0 5 1).bind fun v5 => ((f_X6_of h (a1) ((0 : Int32))).bind fun v6 => ((ldI h v5 v6).bind fun v7 => ((rdR h a0 5 1).bind fun v8 => ((f_X6_of h (a2) ((0 : Int32))).bind fun v9 => ((ldI h v8 v9).bind fun v10 => (if a1 = a2 then (f_X6_whyNotJoined_J33 h (a1) (a2)) else (if (v7 + v10) ≤ (60 : Int32) then ((lpn (f_X6_whyNotJoined_L50 (h) (a0) (a1) (a2) ((v7 + v10))) LF ((1 : Int32), (0 : Int32))).bind (fun w50 => (f_X6_whyNotJoined_J113 h (a0) (a1) (a2) ((v7 + v10)) (w50)))) else (f_X6_whyNotJoined_J33 h (a1) (a2)))))))))) else none
def f_X6_join_J35 (hh : PH) (x0 : Nat) (x1 : Int32) (x2 : Int32) (k0 : Nat) (k1 : Int32) : Option (Int32 × PH) :=
  ((f_X6_holds hh (k0) (k1)).bind fun q3 => (if ¬ q3.1 = 0 then ((f_X6_save q3.2 (x0)).bind fun h4 => ((f_X6_joinsWith h4 (x0) (x1) (x2)).bind fun h5 => ((rdR h5 x0 5 1).bind fun v6 => ((f_X6_of h5 (x1) ((0 : Int32))).bind fun v7 => ((ldI h5 v6 v7).bind fun v8 => ((f_X6_drops h5 (x0) (x2)).bind fun h9 => ((rdR h9 x0 5 1).bind fun v10 => ((ldI h9 v10 (10 : Int32)).bind fun v11 => ((stI h9 v10 (10 : Int32) (v11 + (1 : Int32))).bind fun h12 => some (v8, h12)))))))))) else some ((0 : Int32), q3.2)))
def f_X6_join_J17 (h : PH) (x0 : Nat) (x1 : Int32) (x2 : Int32) (k0 : Nat) : Option (Int32 × PH) :=
  (f_X6_join_J35 h (x0) (x1) (x2) (k0) ((1 : Int32)))
def f_X6_join (h : PH) (a0 : Nat) (a1 : Int32) (a2 : Int32) : Option (Int32 × PH) :=
  if okO h a0 5 = true then ((f_X6_isRope h (a0) (a1)).bind fun v13 => (if v13 = 0 then (f_X6_join_J17 h (a0) (a1) (a2) (a0)) else ((f_X6_isRope h (a0) (a2)).bind fun v14 => (if ¬ v14 = 0 then ((f_X6_whyNotJoined h (a0) (a1) (a2)).bind fun q17 => (if q17.1 ≤ 0 then (f_X6_join_J35 q17.2 (a0) (a1) (a2) (a0) ((0 : Int32))) else (f_X6_join_J35 q17.2 (a0) (a1) (a2) (a0) ((2 : Int32))))) else (f_X6_join_J17 h (a0) (a1) (a2) (a0)))))) else none
def f_X6_append_J30 (h : PH) (x0 : Nat) (x1 : Int32) (k0 : Nat) (k1 : Int32) : Option (Int32 × PH) :=
  ((f_X6_holds h (k0) (k1)).bind fun q3 => (if ¬ q3.1 = 0 then ((rdR q3.2 x0 5 7).bind fun v4 => ((rdI q3.2 x0 5 8).bind fun v5 => ((stI q3.2 v4 v5 x1).bind fun h6 => ((rdI h6 x0 5 8).bind fun v7 => ((wrF h6 x0 5 8 (.int ((v7 + (1 : Int32))))).bind fun h8 => ((rdI h8 x0 5 8).bind fun v9 => some (v9, h8))))))) else some ((0 : Int32), q3.2)))
def f_X6_append (h : PH) (a0 : Nat) (a1 : Int32) : Option (Int32 × PH) :=
  if okO h a0 5 = true then ((f_X6_in h (a1) ((33 : Int32)) ((126 : Int32))).bind fun v10 => (if ¬ v10 = 0 then ((rdI h a0 5 8).bind fun v11 => (if ¬ v11 = (60 : Int32) then (f_X6_append_J30 h (a0) (a1) (a0) ((0 : Int32))) else (f_X6_append_J30 h (a0) (a1) (a0) ((2 : Int32))))) else (f_X6_append_J30 h (a0) (a1) (a0) ((1 : Int32))))) else none
def f_X6_clearBuffer (h : PH) (a0 : Nat) : Option (Int32 × PH) :=
  if okO h a0 5 = true then ((wrF h a0 5 0 (.int ((0 : Int32)))).bind fun h1 => ((rdI h1 a0 5 8).bind fun v2 => ((wrF h1 a0 5 8 (.int ((0 : Int32)))).bind fun h3 => some (v2, h3)))) else none
def f_X6_isNext_J40 (h : PH)  (k0 : Int32) : Option Int32 :=
  (if z01 k0 = true then some (k0) else none)
def f_X6_isNext_J39 (h : PH)   : Option Int32 :=
  (f_X6_isNext_J40 h ((0 : Int32)))
def f_X6_isNext (h : PH) (a0 : Nat) (a1 : Int32) (a2 : Int32) : Option Int32 :=
  if okO h a0 5 = true then ((rdI h a0 5 11).bind fun v2 => (if ¬ v2 = 0 then (f_X6_isNext_J39 h ) else ((rdI h a0 5 10).bind fun v3 => ((rdI h a0 5 8).bind fun v4 => (if v4 ≤ v3 then (f_X6_isNext_J39 h ) else ((rdR h a0 5 7).bind fun v5 => ((rdI h a0 5 10).bind fun v6 => ((ldI h v5 v6).bind fun v7 => ((f_X6_in h (v7) (a1) (a2)).bind fun v8 => (if v8 = 0 then (f_X6_isNext_J39 h ) else (f_X6_isNext_J40 h ((1 : Int32))))))))))))) else none
def f_X6_reads_J67 (hh : PH) (x1 : Int32) (x3 : Int32) (k0 : Nat) (k1 : Int32) (k2 : Int32) : Option (Int32 × PH) :=
  ((wrF hh k0 5 10 (.int ((k1 + k2)))).bind fun h1 => some ((x3 - x1), h1))
def f_X6_reads_J47 (h : PH) (x0 : Nat) (x1 : Int32) (x3 : Int32) (k0 : Nat) (k1 : Int32) : Option (Int32 × PH) :=
  (if z01 k1 = true then ((wrF h k0 5 11 (.int (k1))).bind fun h2 => ((rdI h2 x0 5 10).bind fun v4 => ((rdI h2 x0 5 11).bind fun v5 => (if v5 = 0 then (f_X6_reads_J67 h2 (x1) (x3) (x0) (v4) ((1 : Int32))) else (f_X6_reads_J67 h2 (x1) (x3) (x0) (v4) ((0 : Int32))))))) else none)
def f_X6_reads_J42 (h : PH) (x0 : Nat) (x1 : Int32) (x3 : Int32) (k0 : Nat) : Option (Int32 × PH) :=
  (f_X6_reads_J47 h (x0) (x1) (x3) (k0) ((1 : Int32)))
def f_X6_reads_J24 (h : PH) (x0 : Nat) (x1 : Int32) (x2 : Int32) (k0 : Int32) : Option (Int32 × PH) :=
  ((rdI h x0 5 11).bind fun v6 => (if ¬ v6 = 0 then (f_X6_reads_J42 h (x0) (x1) (k0) (x0)) else ((f_X6_in h (k0) (x1) (x2)).bind fun v7 => (if ¬ v7 = 0 then (f_X6_reads_J47 h (x0) (x1) (k0) (x0) ((0 : Int32))) else (f_X6_reads_J42 h (x0) (x1) (k0) (x0))))))
def f_X6_reads (h : PH) (a0 : Nat) (a1 : Int32) (a2 : Int32) : Option (Int32 × PH) :=
  if okO h a0 5 = true then ((rdI h a0 5 10).bind fun v8 => ((rdI h a0 5 8).bind fun v9 => (if v9 ≤ v8 then (f_X6_reads_J24 h (a0) (a1) (a2) ((0 : Int32))) else ((rdR h a0 5 7).bind fun v10 => ((rdI h a0 5 10).bind fun v11 => ((ldI h v10 v11).bind fun v12 => (f_X6_reads_J24 h (a0) (a1) (a2) (v12)))))))) else none
def f_X6_readsNumber_J94 (hh : PH) (x3 : Int32)  : Option (Int32 × PH) :=
  some (x3, hh)
def f_X6_readsNumber_J90 (hh : PH) (x0 : Nat) (x2 : Int32) (x4 : Int32) (k0 : Int32) : Option ((Int32 × Int32 × PH) ⊕ (Int32 × PH)) :=
  some (.inl (k0, x4, hh))
def f_X6_readsNumber_J66 (hh : PH) (x0 : Nat) (x2 : Int32) (x3 : Int32) (k0 : Int32) : Option ((Int32 × Int32 × PH) ⊕ (Int32 × PH)) :=
  (if k0 = 0 then (f_X6_readsNumber_J90 hh (x0) (x2) (k0) (x3)) else ((f_X6_reads hh (x0) ((48 : Int32)) ((57 : Int32))).bind fun q4 => (f_X6_readsNumber_J90 q4.2 (x0) (x2) (k0) ((((10 : Int32) * x3) + q4.1)))))
def f_X6_readsNumber_J65 (hh : PH) (x0 : Nat) (x2 : Int32) (x3 : Int32)  : Option ((Int32 × Int32 × PH) ⊕ (Int32 × PH)) :=
  (f_X6_readsNumber_J66 hh (x0) (x2) (x3) ((0 : Int32)))
def f_X6_readsNumber_L24 (x0 : Nat) (x2 : Int32) : Int32 × Int32 × PH → Option ((Int32 × Int32 × PH) ⊕ (Int32 × PH)) := fun z24 =>
  (if (z24.2.1) = 0 then some (.inr (((z24.1), (z24.2.2)))) else ((f_X6_isNext (z24.2.2) (x0) ((48 : Int32)) ((57 : Int32))).bind fun v5 => (if v5 = 0 then (f_X6_readsNumber_J65 (z24.2.2) (x0) (x2) ((z24.1))) else ((rdR (z24.2.2) x0 5 7).bind fun v6 => ((rdI (z24.2.2) x0 5 10).bind fun v7 => ((ldI (z24.2.2) v6 v7).bind fun v8 => (if x2 < ((((10 : Int32) * (z24.1)) + v8) - (48 : Int32)) then (f_X6_readsNumber_J65 (z24.2.2) (x0) (x2) ((z24.1))) else (f_X6_readsNumber_J66 (z24.2.2) (x0) (x2) ((z24.1)) ((1 : Int32))))))))))
def f_X6_readsNumber_J22 (hh : PH) (x0 : Nat) (x2 : Int32) (x3 : Int32) (k0 : Int32) : Option (Int32 × PH) :=
  ((lpn (f_X6_readsNumber_L24 (x0) (x2)) LF (x3, k0, hh)).bind (fun w24 => (f_X6_readsNumber_J94 (w24.2) (w24.1))))
def f_X6_readsNumber (h : PH) (a0 : Nat) (a1 : Int32) (a2 : Int32) : Option (Int32 × PH) :=
  if okO h a0 5 = true then ((f_X6_reads h (a0) (((48 : Int32) + a1)) ((57 : Int32))).bind fun q11 => (if (a1 + q11.1) ≤ 0 then (f_X6_readsNumber_J22 q11.2 (a0) (a2) ((a1 + q11.1)) ((0 : Int32))) else (f_X6_readsNumber_J22 q11.2 (a0) (a2) ((a1 + q11.1)) ((1 : Int32))))) else none
def f_X6_readsPart_J174 (hh : PH)  (k0 : Nat) (k1 : Int32) : Option PH :=
  ((wrF hh k0 5 14 (.int (k1))).bind fun h1 => some h1)
def f_X6_readsPart_J150 (hh : PH) (x0 : Nat) (k0 : Nat) (k1 : Int32) : Option PH :=
  ((wrF hh k0 5 13 (.int (k1))).bind fun h2 => ((rdI h2 x0 5 12).bind fun v3 => (if ¬ v3 = (97 : Int32) then (f_X6_readsPart_J174 h2 (x0) ((0 : Int32))) else ((f_X6_readsNumber h2 (x0) ((0 : Int32)) ((19 : Int32))).bind fun q6 => (f_X6_readsPart_J174 q6.2 (x0) (q6.1))))))
def f_X6_readsPart_J109 (hh : PH) (x0 : Nat) (x1 : Int32) (k0 : Nat) (k1 : Int32) : Option PH :=
  ((wrF hh k0 5 12 (.int (k1))).bind fun h7 => (if ¬ x1 = (114 : Int32) then (if ¬ x1 = (45 : Int32) then (f_X6_readsPart_J150 h7 (x0) (x0) ((x1 - (97 : Int32)))) else ((f_X6_reads h7 (x0) ((97 : Int32)) ((104 : Int32))).bind fun q10 => (f_X6_readsPart_J150 q10.2 (x0) (x0) (q10.1)))) else ((f_X6_readsNumber h7 (x0) ((1 : Int32)) ((60 : Int32))).bind fun q13 => (f_X6_readsPart_J150 q13.2 (x0) (x0) (q13.1)))))
def f_X6_readsPart_J87 (hh : PH) (x0 : Nat) (x1 : Int32) (k0 : Nat) (k1 : Int32) (k2 : Int32) : Option PH :=
  ((wrF hh k0 5 10 (.int ((k1 + k2)))).bind fun h14 => ((f_X6_in h14 (x1) ((97 : Int32)) ((104 : Int32))).bind fun v15 => (if v15 = 0 then (f_X6_readsPart_J109 h14 (x0) (x1) (x0) (x1)) else (f_X6_readsPart_J109 h14 (x0) (x1) (x0) ((97 : Int32))))))
def f_X6_readsPart_J67 (h : PH) (x0 : Nat) (x1 : Int32) (k0 : Nat) (k1 : Int32) : Option PH :=
  (if z01 k1 = true then ((wrF h k0 5 11 (.int (k1))).bind fun h16 => ((rdI h16 x0 5 10).bind fun v18 => ((rdI h16 x0 5 11).bind fun v19 => (if v19 = 0 then (f_X6_readsPart_J87 h16 (x0) (x1) (x0) (v18) ((1 : Int32))) else (f_X6_readsPart_J87 h16 (x0) (x1) (x0) (v18) ((0 : Int32))))))) else none)
def f_X6_readsPart_J62 (h : PH) (x0 : Nat) (x1 : Int32) (k0 : Nat) : Option PH :=
  (f_X6_readsPart_J67 h (x0) (x1) (k0) ((1 : Int32)))
def f_X6_readsPart_J66 (h : PH) (x0 : Nat) (x1 : Int32) (k0 : Nat) : Option PH :=
  (f_X6_readsPart_J67 h (x0) (x1) (k0) ((0 : Int32)))
def f_X6_readsPart_J24 (h : PH) (x0 : Nat) (k0 : Int32) : Option PH :=
  ((rdI h x0 5 11).bind fun v20 => (if ¬ v20 = 0 then (f_X6_readsPart_J62 h (x0) (k0) (x0)) else (if k0 = (114 : Int32) then (f_X6_readsPart_J66 h (x0) (k0) (x0)) else (if k0 = (45 : Int32) then (f_X6_readsPart_J66 h (x0) (k0) (x0)) else (if k0 = (60 : Int32) then (f_X6_readsPart_J66 h (x0) (k0) (x0)) else ((f_X6_in h (k0) ((97 : Int32)) ((104 : Int32))).bind fun v21 => (if ¬ v21 = 0 then (f_X6_readsPart_J66 h (x0) (k0) (x0)) else (f_X6_readsPart_J62 h (x0) (k0) (x0)))))))))
def f_X6_readsPart (h : PH) (a0 : Nat) : Option PH :=
  if okO h a0 5 = true then ((rdI h a0 5 10).bind fun v22 => ((rdI h a0 5 8).bind fun v23 => (if v23 ≤ v22 then (f_X6_readsPart_J24 h (a0) ((0 : Int32))) else ((rdR h a0 5 7).bind fun v24 => ((rdI h a0 5 10).bind fun v25 => ((ldI h v24 v25).bind fun v26 => (f_X6_readsPart_J24 h (a0) (v26)))))))) else none
def f_X6_does_J37 (h : PH)   : Option (Int32 × PH) :=
  some ((0 : Int32), h)
def f_X6_does_J117 (h : PH)   : Option (Int32 × PH) :=
  some ((0 : Int32), h)
def f_X6_does_J39 (h : PH) (x0 : Nat) (x1 : Int32)  : Option (Int32 × PH) :=
  ((rdI h x0 5 12).bind fun v1 => (if v1 = 45 then ((rdI h x0 5 13).bind fun v2 => ((f_X6_isLaid h (x0) (x1) (v2)).bind fun v3 => (if ¬ v3 = 0 then ((rdI h x0 5 13).bind fun v4 => ((f_X6_takesOff h (x0) (x1) (v4)).bind fun h5 => some ((1 : Int32), h5))) else some ((0 : Int32), h)))) else (if v1 = 97 then ((rdI h x0 5 13).bind fun v6 => ((rdI h x0 5 14).bind fun v7 => ((f_X6_isPhase h (x0) (v6) (v7)).bind fun v8 => (if v8 = 0 then (f_X6_does_J117 h ) else ((rdI h x0 5 13).bind fun v9 => ((rdI h x0 5 14).bind fun v10 => ((f_X6_why h (x0) (x1) (v9) (v10)).bind fun v11 => (if v11 ≤ 0 then ((rdI h x0 5 13).bind fun v12 => ((rdI h x0 5 14).bind fun v13 => ((f_X6_lays h (x0) (x1) (v12) (v13)).bind fun h14 => ((rdR h14 x0 5 1).bind fun v15 => ((ldI h14 v15 (9 : Int32)).bind fun v16 => ((stI h14 v15 (9 : Int32) (v16 + (1 : Int32))).bind fun h17 => some ((1 : Int32), h17))))))) else (f_X6_does_J117 h ))))))))) else (if v1 = 114 then ((rdI h x0 5 13).bind fun v18 => ((f_X6_adds h (x0) (v18)).bind fun h19 => some ((1 : Int32), h19))) else ((f_X6_turns h (x0) (x1)).bind fun h20 => some ((1 : Int32), h20))))))
def f_X6_does (h : PH) (a0 : Nat) : Option (Int32 × PH) :=
  if okO h a0 5 = true then ((rdR h a0 5 1).bind fun v21 => ((ldI h v21 (8 : Int32)).bind fun v22 => ((rdI h a0 5 12).bind fun v23 => (if ¬ v23 = (114 : Int32) then (if 0 ≤ (v22 - (1 : Int32)) then (f_X6_does_J39 h (a0) ((v22 - (1 : Int32)))) else (f_X6_does_J37 h )) else ((rdR h a0 5 1).bind fun v24 => ((ldI h v24 (8 : Int32)).bind fun v25 => (if ¬ v25 = (4 : Int32) then (f_X6_does_J39 h (a0) ((v22 - (1 : Int32)))) else (f_X6_does_J37 h )))))))) else none
def f_X6_goes_J112 (hh : PH) (x2 : Int32)  : Option (Int32 × PH) :=
  some (x2, hh)
def f_X6_goes_J109 (hh : PH) (x0 : Nat) (x1 : Int32) (x2 : Int32) (x3 : Int32)  : Option ((Int32 × Int32 × PH) ⊕ (Int32 × PH)) :=
  some (.inl (x2, x3, hh))
def f_X6_goes_J108 (hh : PH) (x0 : Nat) (x1 : Int32) (x2 : Int32) (k0 : Int32) : Option ((Int32 × Int32 × PH) ⊕ (Int32 × PH)) :=
  (f_X6_goes_J109 hh (x0) (x1) (x2) (k0))
def f_X6_goes_J81 (hh : PH) (x0 : Nat) (x1 : Int32) (x2 : Int32) (k0 : Int32) : Option ((Int32 × Int32 × PH) ⊕ (Int32 × PH)) :=
  (if k0 = 0 then (f_X6_goes_J109 hh (x0) (x1) (x2) (k0)) else ((f_X6_reads hh (x0) ((44 : Int32)) ((44 : Int32))).bind fun q6 => ((rdI q6.2 x0 5 11).bind fun v7 => (if ¬ v7 = 0 then (f_X6_goes_J108 q6.2 (x0) (x1) (x2) ((0 : Int32))) else (f_X6_goes_J108 q6.2 (x0) (x1) (x2) ((1 : Int32)))))))
def f_X6_goes_J80 (hh : PH) (x0 : Nat) (x1 : Int32) (x2 : Int32)  : Option ((Int32 × Int32 × PH) ⊕ (Int32 × PH)) :=
  (f_X6_goes_J81 hh (x0) (x1) (x2) ((0 : Int32)))
def f_X6_goes_J51 (hh : PH) (x0 : Nat) (x1 : Int32) (x4 : Int32) (k0 : Int32) (k1 : Int32) : Option ((Int32 × Int32 × PH) ⊕ (Int32 × PH)) :=
  (if x4 = 0 then (f_X6_goes_J80 hh (x0) (x1) ((k0 + k1))) else ((rdI hh x0 5 11).bind fun v8 => (if ¬ v8 = 0 then (f_X6_goes_J80 hh (x0) (x1) ((k0 + k1))) else ((rdI hh x0 5 10).bind fun v9 => ((rdI hh x0 5 8).bind fun v10 => (if v10 ≤ v9 then (f_X6_goes_J80 hh (x0) (x1) ((k0 + k1))) else (f_X6_goes_J81 hh (x0) (x1) ((k0 + k1)) ((1 : Int32)))))))))
def f_X6_goes_J38 (hh : PH) (x0 : Nat) (x1 : Int32) (x2 : Int32) (k0 : Int32) : Option ((Int32 × Int32 × PH) ⊕ (Int32 × PH)) :=
  (if k0 = 0 then (f_X6_goes_J51 hh (x0) (x1) (k0) (x2) ((0 : Int32))) else (f_X6_goes_J51 hh (x0) (x1) (k0) (x2) ((1 : Int32))))
def f_X6_goes_J33 (hh : PH) (x0 : Nat) (x1 : Int32) (x2 : Int32)  : Option ((Int32 × Int32 × PH) ⊕ (Int32 × PH)) :=
  (f_X6_goes_J38 hh (x0) (x1) (x2) ((1 : Int32)))
def f_X6_goes_L14 (x0 : Nat) (x1 : Int32) : Int32 × Int32 × PH → Option ((Int32 × Int32 × PH) ⊕ (Int32 × PH)) := fun z14 =>
  (if (z14.2.1) = 0 then some (.inr (((z14.1), (z14.2.2)))) else ((f_X6_readsPart (z14.2.2) (x0)).bind fun h11 => (if x1 = 0 then (f_X6_goes_J33 h11 (x0) (x1) ((z14.1))) else ((f_X6_does h11 (x0)).bind fun q14 => (if q14.1 = 0 then (f_X6_goes_J38 q14.2 (x0) (x1) ((z14.1)) ((0 : Int32))) else (f_X6_goes_J33 q14.2 (x0) (x1) ((z14.1))))))))
def f_X6_goes (h : PH) (a0 : Nat) (a1 : Int32) : Option (Int32 × PH) :=
  if okO h a0 5 = true then ((wrF h a0 5 10 (.int ((0 : Int32)))).bind fun h1 => ((wrF h1 a0 5 11 (.int ((0 : Int32)))).bind fun h2 => ((lpn (f_X6_goes_L14 (a0) (a1)) LF ((0 : Int32), (1 : Int32), h2)).bind (fun w14 => (f_X6_goes_J112 (w14.2) (w14.1)))))) else none
def f_X6_firstError_J29 (hh : PH)  (k0 : Int32) : Option (Int32 × PH) :=
  some (k0, hh)
def f_X6_firstError (h : PH) (a0 : Nat) : Option (Int32 × PH) :=
  if okO h a0 5 = true then ((wrF h a0 5 0 (.int ((0 : Int32)))).bind fun h1 => ((f_X6_goes h1 (a0) ((0 : Int32))).bind fun q4 => ((rdI q4.2 a0 5 11).bind fun v5 => (if v5 = 0 then ((rdI q4.2 a0 5 8).bind fun v6 => (f_X6_firstError_J29 q4.2 (v6))) else ((rdI q4.2 a0 5 10).bind fun v7 => (f_X6_firstError_J29 q4.2 (v7))))))) else none
def f_X6_play_J19 (hh : PH) (x0 : Nat) (k0 : Nat) (k1 : Int32) : Option (Int32 × PH) :=
  ((f_X6_holds hh (k0) (k1)).bind fun q3 => (if ¬ q3.1 = 0 then ((f_X6_save q3.2 (x0)).bind fun h4 => ((f_X6_goes h4 (x0) ((1 : Int32))).bind fun q7 => ((wrF q7.2 x0 5 8 (.int ((0 : Int32)))).bind fun h8 => some (q7.1, h8)))) else some ((0 : Int32), q3.2)))
def f_X6_play (h : PH) (a0 : Nat) : Option (Int32 × PH) :=
  if okO h a0 5 = true then ((f_X6_goes h (a0) ((0 : Int32))).bind fun q11 => ((rdI q11.2 a0 5 11).bind fun v12 => (if v12 = 0 then (f_X6_play_J19 q11.2 (a0) (a0) ((0 : Int32))) else (f_X6_play_J19 q11.2 (a0) (a0) ((1 : Int32)))))) else none
def f_X6_undo_J65 (hh : PH) (x0 : Nat)  : Option (Int32 × PH) :=
  ((rdI hh x0 5 6).bind fun v1 => some (v1, hh))
def f_X6_undo_L33 (x0 : Nat) : Int32 × PH → Option ((Int32 × PH) ⊕ (PH)) := fun z33 =>
  (if (84 : Int32) ≤ (z33.1) then some (.inr (((z33.2)))) else ((rdR (z33.2) x0 5 1).bind fun v8 => ((rdR (z33.2) x0 5 5).bind fun v9 => ((rdI (z33.2) x0 5 6).bind fun v10 => ((ldI (z33.2) v9 (((84 : Int32) * v10) + (z33.1))).bind fun v11 => ((stI (z33.2) v8 (z33.1) v11).bind fun h12 => some (.inl (((z33.1) + 1), h12))))))))
def f_X6_undo_J13 (h : PH) (x0 : Nat) (k0 : Nat) (k1 : Int32) : Option (Int32 × PH) :=
  ((f_X6_holds h (k0) (k1)).bind fun q4 => (if ¬ q4.1 = 0 then ((rdI q4.2 x0 5 6).bind fun v5 => ((wrF q4.2 x0 5 6 (.int ((v5 - (1 : Int32))))).bind fun h6 => ((lpn (f_X6_undo_L33 (x0)) LF ((0 : Int32), h6)).bind (fun w33 => (f_X6_undo_J65 w33 (x0)))))) else some ((0 : Int32), q4.2)))
def f_X6_undo (h : PH) (a0 : Nat) : Option (Int32 × PH) :=
  if okO h a0 5 = true then ((rdI h a0 5 6).bind fun v13 => (if v13 ≤ 0 then (f_X6_undo_J13 h (a0) (a0) ((1 : Int32))) else (f_X6_undo_J13 h (a0) (a0) ((0 : Int32))))) else none
def f_X6_keep_J31 (hh : PH) (x0 : Nat)  : Option (Int32 × PH) :=
  ((wrF hh x0 5 4 (.int ((1 : Int32)))).bind fun h1 => ((rdR h1 x0 5 1).bind fun v2 => ((ldI h1 v2 (8 : Int32)).bind fun v3 => some (v3, h1))))
def f_X6_keep_L7 (x0 : Nat) : Int32 × PH → Option ((Int32 × PH) ⊕ (PH)) := fun z7 =>
  (if (84 : Int32) ≤ (z7.1) then some (.inr (((z7.2)))) else ((rdR (z7.2) x0 5 3).bind fun v6 => ((rdR (z7.2) x0 5 1).bind fun v7 => ((ldI (z7.2) v7 (z7.1)).bind fun v8 => ((stI (z7.2) v6 (z7.1) v8).bind fun h9 => some (.inl (((z7.1) + 1), h9)))))))
def f_X6_keep (h : PH) (a0 : Nat) : Option (Int32 × PH) :=
  if okO h a0 5 = true then ((wrF h a0 5 0 (.int ((0 : Int32)))).bind fun h4 => ((lpn (f_X6_keep_L7 (a0)) LF ((0 : Int32), h4)).bind (fun w7 => (f_X6_keep_J31 w7 (a0))))) else none
def f_X6_restore_J51 (hh : PH) (x0 : Nat)  : Option (Int32 × PH) :=
  ((rdR hh x0 5 1).bind fun v1 => ((ldI hh v1 (8 : Int32)).bind fun v2 => some (v2, hh)))
def f_X6_restore_L27 (x0 : Nat) : Int32 × PH → Option ((Int32 × PH) ⊕ (PH)) := fun z27 =>
  (if (84 : Int32) ≤ (z27.1) then some (.inr (((z27.2)))) else ((rdR (z27.2) x0 5 1).bind fun v8 => ((rdR (z27.2) x0 5 3).bind fun v9 => ((ldI (z27.2) v9 (z27.1)).bind fun v10 => ((stI (z27.2) v8 (z27.1) v10).bind fun h11 => some (.inl (((z27.1) + 1), h11)))))))
def f_X6_restore_J13 (h : PH) (x0 : Nat) (k0 : Nat) (k1 : Int32) : Option (Int32 × PH) :=
  ((f_X6_holds h (k0) (k1)).bind fun q5 => (if ¬ q5.1 = 0 then ((f_X6_save q5.2 (x0)).bind fun h6 => ((lpn (f_X6_restore_L27 (x0)) LF ((0 : Int32), h6)).bind (fun w27 => (f_X6_restore_J51 w27 (x0))))) else some ((0 : Int32), q5.2)))
def f_X6_restore (h : PH) (a0 : Nat) : Option (Int32 × PH) :=
  if okO h a0 5 = true then ((rdI h a0 5 4).bind fun v12 => (if v12 = 0 then (f_X6_restore_J13 h (a0) (a0) ((1 : Int32))) else (f_X6_restore_J13 h (a0) (a0) ((0 : Int32))))) else none
def f_X6_place_J50 (hh : PH)  (k0 : Int32) : Option (Int32 × PH) :=
  some (k0, hh)
def f_X6_place_J34 (h : PH) (x0 : Nat) (x1 : Int32) (x2 : Int32) (k0 : Nat) (k1 : Int32) : Option (Int32 × PH) :=
  ((f_X6_holds h (k0) (k1)).bind fun q3 => (if q3.1 = 0 then (f_X6_place_J50 q3.2 ((0 : Int32))) else ((f_X6_hueAt q3.2 (x0) (x1) (x2)).bind fun v4 => (f_X6_place_J50 q3.2 (v4)))))
def f_X6_place_J33 (h : PH) (x0 : Nat) (x1 : Int32) (x2 : Int32) (k0 : Nat) : Option (Int32 × PH) :=
  (f_X6_place_J34 h (x0) (x1) (x2) (k0) ((1 : Int32)))
def f_X6_place (h : PH) (a0 : Nat) (a1 : Int32) (a2 : Int32) : Option (Int32 × PH) :=
  if okO h a0 5 = true then ((f_X6_isRope h (a0) (a1)).bind fun v5 => (if v5 = 0 then (f_X6_place_J33 h (a0) (a1) (a2) (a0)) else ((rdR h a0 5 1).bind fun v6 => ((f_X6_of h (a1) ((0 : Int32))).bind fun v7 => ((ldI h v6 v7).bind fun v8 => ((f_X6_in h (a2) ((0 : Int32)) ((v8 - (1 : Int32)))).bind fun v9 => (if v9 = 0 then (f_X6_place_J33 h (a0) (a1) (a2) (a0)) else (f_X6_place_J34 h (a0) (a1) (a2) (a0) ((0 : Int32)))))))))) else none
def f_X6_holes_J42 (h : PH) (x2 : Int32)  : Option Int32 :=
  some (x2)
def f_X6_holes_J34 (h : PH) (x0 : Nat) (x1 : Int32) (x3 : Int32) (k0 : Int32) (k1 : Int32) : Option ((Int32 × Int32) ⊕ (Int32)) :=
  some (.inl ((k0 + k1), (x3 + 1)))
def f_X6_holes_L4 (h : PH) (x0 : Nat) (x1 : Int32) : Int32 × Int32 → Option ((Int32 × Int32) ⊕ (Int32)) := fun z4 =>
  ((rdR h x0 5 1).bind fun v2 => ((f_X6_of h (x1) ((0 : Int32))).bind fun v3 => ((ldI h v2 v3).bind fun v4 => (if v4 ≤ (z4.2) then some (.inr (((z4.1)))) else ((f_X6_hueAt h (x0) (x1) ((z4.2))).bind fun v5 => (if ¬ v5 = ((-1) : Int32) then (f_X6_holes_J34 h (x0) (x1) ((z4.2)) ((z4.1)) ((0 : Int32))) else (f_X6_holes_J34 h (x0) (x1) ((z4.2)) ((z4.1)) ((1 : Int32)))))))))
def f_X6_holes (h : PH) (a0 : Nat) (a1 : Int32) : Option Int32 :=
  if okO h a0 5 = true then ((lpn (f_X6_holes_L4 (h) (a0) (a1)) LF ((0 : Int32), (0 : Int32))).bind (fun w4 => (f_X6_holes_J42 h (w4)))) else none
def f_X6_firstHole_J41 (h : PH) (x2 : Int32)  : Option Int32 :=
  some (x2)
def f_X6_firstHole_J34 (h : PH) (x0 : Nat) (x1 : Int32) (x3 : Int32) (k0 : Int32) : Option ((Int32 × Int32) ⊕ (Int32)) :=
  some (.inl (k0, (x3 + (-1))))
def f_X6_firstHole_L15 (h : PH) (x0 : Nat) (x1 : Int32) : Int32 × Int32 → Option ((Int32 × Int32) ⊕ (Int32)) := fun z15 =>
  (if (z15.2) < 0 then some (.inr (((z15.1)))) else ((f_X6_hueAt h (x0) (x1) ((z15.2))).bind fun v5 => (if ¬ v5 = ((-1) : Int32) then (f_X6_firstHole_J34 h (x0) (x1) ((z15.2)) ((z15.1))) else (f_X6_firstHole_J34 h (x0) (x1) ((z15.2)) ((z15.2))))))
def f_X6_firstHole (h : PH) (a0 : Nat) (a1 : Int32) : Option Int32 :=
  if okO h a0 5 = true then ((rdR h a0 5 1).bind fun v1 => ((f_X6_of h (a1) ((0 : Int32))).bind fun v2 => ((ldI h v1 v2).bind fun v3 => ((lpn (f_X6_firstHole_L15 (h) (a0) (a1)) LF (((-1) : Int32), (v3 - (1 : Int32)))).bind (fun w15 => (f_X6_firstHole_J41 h (w15))))))) else none
def f_X6_holesSideBySide_J58 (h : PH) (x2 : Int32)  : Option Int32 :=
  some (x2)
def f_X6_holesSideBySide_J51 (h : PH) (x0 : Nat) (x1 : Int32) (x3 : Int32) (x4 : Int32) (k0 : Int32) : Option ((Int32 × Int32 × Int32) ⊕ (Int32)) :=
  some (.inl (k0, x3, (x4 + 1)))
def f_X6_holesSideBySide_J40 (h : PH) (x0 : Nat) (x1 : Int32) (x2 : Int32) (x4 : Int32) (k0 : Int32) : Option ((Int32 × Int32 × Int32) ⊕ (Int32)) :=
  (if k0 ≤ x2 then (f_X6_holesSideBySide_J51 h (x0) (x1) (k0) (x4) (x2)) else (f_X6_holesSideBySide_J51 h (x0) (x1) (k0) (x4) (k0)))
def f_X6_holesSideBySide_L7 (h : PH) (x0 : Nat) (x1 : Int32) : Int32 × Int32 × Int32 → Option ((Int32 × Int32 × Int32) ⊕ (Int32)) := fun z7 =>
  ((rdR h x0 5 1).bind fun v2 => ((f_X6_of h (x1) ((0 : Int32))).bind fun v3 => ((ldI h v2 v3).bind fun v4 => (if v4 ≤ (z7.2.2) then some (.inr (((z7.1)))) else ((f_X6_hueAt h (x0) (x1) ((z7.2.2))).bind fun v5 => (if ¬ v5 = ((-1) : Int32) then (f_X6_holesSideBySide_J40 h (x0) (x1) ((z7.1)) ((z7.2.2)) ((0 : Int32))) else (f_X6_holesSideBySide_J40 h (x0) (x1) ((z7.1)) ((z7.2.2)) (((z7.2.1) + (1 : Int32))))))))))
def f_X6_holesSideBySide (h : PH) (a0 : Nat) (a1 : Int32) : Option Int32 :=
  if okO h a0 5 = true then ((lpn (f_X6_holesSideBySide_L7 (h) (a0) (a1)) LF ((0 : Int32), (0 : Int32), (0 : Int32))).bind (fun w7 => (f_X6_holesSideBySide_J58 h (w7)))) else none
def f_X6_divisor_J21 (h : PH) (x2 : Int32)  : Option Int32 :=
  some (x2)
def f_X6_divisor_L4 (h : PH)  : Int32 × Int32 → Option ((Int32 × Int32) ⊕ (Int32)) := fun z4 =>
  (if (z4.2) ≤ 0 then some (.inr (((z4.1)))) else (if ¬ (z4.2) = 0 then some (.inl ((z4.2), ((z4.1) - (z4.1) / (z4.2) * (z4.2)))) else none))
def f_X6_divisor (h : PH) (a0 : Int32) (a1 : Int32) : Option Int32 :=
  ((lpn (f_X6_divisor_L4 (h)) LF (a0, a1)).bind (fun w4 => (f_X6_divisor_J21 h (w4))))
def f_X6_period_J53 (h : PH) (x2 : Int32)  : Option Int32 :=
  some (x2)
def f_X6_period_J46 (h : PH) (x0 : Nat) (x1 : Int32) (x3 : Int32) (k0 : Int32) : Option ((Int32 × Int32) ⊕ (Int32)) :=
  some (.inl (k0, (x3 + 1)))
def f_X6_period_L4 (h : PH) (x0 : Nat) (x1 : Int32) : Int32 × Int32 → Option ((Int32 × Int32) ⊕ (Int32)) := fun z4 =>
  (if (8 : Int32) ≤ (z4.2) then some (.inr (((z4.1)))) else ((f_X6_isLaid h (x0) (x1) ((z4.2))).bind fun v2 => (if v2 = 0 then (f_X6_period_J46 h (x0) (x1) ((z4.2)) ((z4.1))) else ((rdR h x0 5 1).bind fun v3 => ((ldI h v3 ((0 : Int32) + (z4.2))).bind fun v4 => ((f_X6_divisor h ((z4.1)) (v4)).bind fun v5 => (if ¬ v5 = 0 then ((rdR h x0 5 1).bind fun v7 => ((ldI h v7 ((0 : Int32) + (z4.2))).bind fun v8 => (f_X6_period_J46 h (x0) (x1) ((z4.2)) ((((z4.1) / v5) * v8))))) else none)))))))
def f_X6_period (h : PH) (a0 : Nat) (a1 : Int32) : Option Int32 :=
  if okO h a0 5 = true then ((lpn (f_X6_period_L4 (h) (a0) (a1)) LF ((1 : Int32), (0 : Int32))).bind (fun w4 => (f_X6_period_J53 h (w4)))) else none
def f_X6_toldOfRope (h : PH) (a0 : Nat) (a1 : Int32) (a2 : Int32) : Option Int32 :=
  if okO h a0 5 = true then (if a2 = 0 then ((rdR h a0 5 1).bind fun v1 => ((f_X6_of h (a1) (a2)).bind fun v2 => ((ldI h v1 v2).bind fun v3 => some (v3)))) else (if a2 = 1 then ((rdR h a0 5 1).bind fun v4 => ((f_X6_of h (a1) (a2)).bind fun v5 => ((ldI h v4 v5).bind fun v6 => some (v6)))) else (if a2 = 2 then ((f_X6_holes h (a0) (a1)).bind fun v7 => some (v7)) else (if a2 = 3 then ((f_X6_firstHole h (a0) (a1)).bind fun v8 => some (v8)) else (if a2 = 4 then ((f_X6_holesSideBySide h (a0) (a1)).bind fun v9 => some (v9)) else ((f_X6_period h (a0) (a1)).bind fun v10 => some (v10))))))) else none
def f_X6_ropeOf_J43 (hh : PH)  (k0 : Int32) : Option (Int32 × PH) :=
  some (k0, hh)
def f_X6_ropeOf_J27 (h : PH) (x0 : Nat) (x1 : Int32) (x2 : Int32) (k0 : Nat) (k1 : Int32) : Option (Int32 × PH) :=
  ((f_X6_holds h (k0) (k1)).bind fun q3 => (if q3.1 = 0 then (f_X6_ropeOf_J43 q3.2 ((0 : Int32))) else ((f_X6_toldOfRope q3.2 (x0) (x1) (x2)).bind fun v4 => (f_X6_ropeOf_J43 q3.2 (v4)))))
def f_X6_ropeOf (h : PH) (a0 : Nat) (a1 : Int32) (a2 : Int32) : Option (Int32 × PH) :=
  if okO h a0 5 = true then ((f_X6_isRope h (a0) (a1)).bind fun v5 => (if ¬ v5 = 0 then ((f_X6_in h (a2) ((0 : Int32)) ((5 : Int32))).bind fun v6 => (if ¬ v6 = 0 then (f_X6_ropeOf_J27 h (a0) (a1) (a2) (a0) ((0 : Int32))) else (f_X6_ropeOf_J27 h (a0) (a1) (a2) (a0) ((2 : Int32))))) else (f_X6_ropeOf_J27 h (a0) (a1) (a2) (a0) ((1 : Int32))))) else none
def f_X6_orderOf_J50 (h : PH) (x3 : Int32)  : Option Int32 :=
  some (x3)
def f_X6_orderOf_J43 (h : PH) (x0 : Nat) (x1 : Int32) (x2 : Int32) (x4 : Int32) (k0 : Int32) : Option ((Int32 × Int32) ⊕ (Int32)) :=
  some (.inl (k0, (x4 + 1)))
def f_X6_orderOf_L5 (h : PH) (x0 : Nat) (x1 : Int32) (x2 : Int32) : Int32 × Int32 → Option ((Int32 × Int32) ⊕ (Int32)) := fun z5 =>
  ((rdR h x0 5 1).bind fun v2 => ((f_X6_of h (x1) ((1 : Int32))).bind fun v3 => ((ldI h v2 v3).bind fun v4 => (if v4 ≤ (z5.2) then some (.inr (((z5.1)))) else ((rdR h x0 5 1).bind fun v5 => ((f_X6_of h (x1) (((2 : Int32) + (z5.2)))).bind fun v6 => ((ldI h v5 v6).bind fun v7 => (if ¬ v7 = x2 then (f_X6_orderOf_J43 h (x0) (x1) (x2) ((z5.2)) ((z5.1))) else (f_X6_orderOf_J43 h (x0) (x1) (x2) ((z5.2)) ((z5.2)))))))))))
def f_X6_orderOf (h : PH) (a0 : Nat) (a1 : Int32) (a2 : Int32) : Option Int32 :=
  if okO h a0 5 = true then ((lpn (f_X6_orderOf_L5 (h) (a0) (a1) (a2)) LF (((-1) : Int32), (0 : Int32))).bind (fun w5 => (f_X6_orderOf_J50 h (w5)))) else none
def f_X6_toldOfHue_J58 (h : PH)  (k0 : Int32) : Option Int32 :=
  some (k0)
def f_X6_toldOfHue (h : PH) (a0 : Nat) (a1 : Int32) (a2 : Int32) (a3 : Int32) : Option Int32 :=
  if okO h a0 5 = true then ((f_X6_isLaid h (a0) (a1) (a2)).bind fun v1 => (if ¬ v1 = 0 then (if ¬ a3 = 0 then (if ¬ a3 = (1 : Int32) then (if ¬ a3 = (2 : Int32) then ((f_X6_orderOf h (a0) (a1) (a2)).bind fun v2 => (f_X6_toldOfHue_J58 h (v2))) else ((f_X6_lastOf h (a0) (a1) (a2)).bind fun v3 => (f_X6_toldOfHue_J58 h (v3)))) else ((f_X6_placesOf h (a0) (a1) (a2)).bind fun v4 => (f_X6_toldOfHue_J58 h (v4)))) else ((f_X6_phaseOf h (a0) (a1) (a2)).bind fun v5 => (f_X6_toldOfHue_J58 h (v5)))) else some (((-1) : Int32)))) else none
def f_X6_hueOf_J45 (hh : PH)  (k0 : Int32) : Option (Int32 × PH) :=
  some (k0, hh)
def f_X6_hueOf_J28 (h : PH) (x0 : Nat) (x1 : Int32) (x2 : Int32) (x3 : Int32) (k0 : Nat) (k1 : Int32) : Option (Int32 × PH) :=
  ((f_X6_holds h (k0) (k1)).bind fun q3 => (if q3.1 = 0 then (f_X6_hueOf_J45 q3.2 ((0 : Int32))) else ((f_X6_toldOfHue q3.2 (x0) (x1) (x2) (x3)).bind fun v4 => (f_X6_hueOf_J45 q3.2 (v4)))))
def f_X6_hueOf (h : PH) (a0 : Nat) (a1 : Int32) (a2 : Int32) (a3 : Int32) : Option (Int32 × PH) :=
  if okO h a0 5 = true then ((f_X6_areThere h (a0) (a1) (a2)).bind fun v5 => (if ¬ v5 = 0 then ((f_X6_in h (a3) ((0 : Int32)) ((3 : Int32))).bind fun v6 => (if ¬ v6 = 0 then (f_X6_hueOf_J28 h (a0) (a1) (a2) (a3) (a0) ((0 : Int32))) else (f_X6_hueOf_J28 h (a0) (a1) (a2) (a3) (a0) ((2 : Int32))))) else (f_X6_hueOf_J28 h (a0) (a1) (a2) (a3) (a0) ((1 : Int32))))) else none
def f_X6_gapOf_J31 (hh : PH)  (k0 : Int32) : Option (Int32 × PH) :=
  some (k0, hh)
def f_X6_gapOf_J13 (h : PH) (x0 : Nat) (x1 : Int32) (k0 : Nat) (k1 : Int32) : Option (Int32 × PH) :=
  ((f_X6_holds h (k0) (k1)).bind fun q3 => (if q3.1 = 0 then (f_X6_gapOf_J31 q3.2 ((0 : Int32))) else ((rdR q3.2 x0 5 1).bind fun v4 => ((ldI q3.2 v4 ((0 : Int32) + x1)).bind fun v5 => (f_X6_gapOf_J31 q3.2 (v5))))))
def f_X6_gapOf (h : PH) (a0 : Nat) (a1 : Int32) : Option (Int32 × PH) :=
  if okO h a0 5 = true then ((f_X6_isHue h (a1)).bind fun v6 => (if v6 = 0 then (f_X6_gapOf_J13 h (a0) (a1) (a0) ((1 : Int32))) else (f_X6_gapOf_J13 h (a0) (a1) (a0) ((0 : Int32))))) else none
def f_X6_sum_J46 (h : PH) (x2 : Int32)  : Option Int32 :=
  some (x2)
def f_X6_sum_J38 (h : PH) (x0 : Nat) (x1 : Int32) (x3 : Int32) (k0 : Int32) (k1 : Int32) : Option ((Int32 × Int32) ⊕ (Int32)) :=
  some (.inl ((k0 + k1), (x3 + 1)))
def f_X6_sum_L4 (h : PH) (x0 : Nat) (x1 : Int32) : Int32 × Int32 → Option ((Int32 × Int32) ⊕ (Int32)) := fun z4 =>
  ((rdR h x0 5 1).bind fun v2 => ((ldI h v2 (8 : Int32)).bind fun v3 => (if v3 ≤ (z4.2) then some (.inr (((z4.1)))) else (if x1 = 0 then ((rdR h x0 5 1).bind fun v4 => ((f_X6_of h ((z4.2)) ((0 : Int32))).bind fun v5 => ((ldI h v4 v5).bind fun v6 => (f_X6_sum_J38 h (x0) (x1) ((z4.2)) ((z4.1)) (v6))))) else ((f_X6_holes h (x0) ((z4.2))).bind fun v7 => (f_X6_sum_J38 h (x0) (x1) ((z4.2)) ((z4.1)) (v7)))))))
def f_X6_sum (h : PH) (a0 : Nat) (a1 : Int32) : Option Int32 :=
  if okO h a0 5 = true then ((lpn (f_X6_sum_L4 (h) (a0) (a1)) LF ((0 : Int32), (0 : Int32))).bind (fun w4 => (f_X6_sum_J46 h (w4)))) else none
def f_X6_huesLaid_J32 (h : PH) (x1 : Int32)  : Option Int32 :=
  some (x1)
def f_X6_huesLaid_J24 (h : PH) (x0 : Nat) (x2 : Int32) (k0 : Int32) (k1 : Int32) : Option ((Int32 × Int32) ⊕ (Int32)) :=
  some (.inl ((k0 + k1), (x2 + 1)))
def f_X6_huesLaid_L4 (h : PH) (x0 : Nat) : Int32 × Int32 → Option ((Int32 × Int32) ⊕ (Int32)) := fun z4 =>
  (if (8 : Int32) ≤ (z4.2) then some (.inr (((z4.1)))) else ((f_X6_isLaidAnywhere h (x0) ((z4.2))).bind fun v2 => (if v2 = 0 then (f_X6_huesLaid_J24 h (x0) ((z4.2)) ((z4.1)) ((0 : Int32))) else (f_X6_huesLaid_J24 h (x0) ((z4.2)) ((z4.1)) ((1 : Int32))))))
def f_X6_huesLaid (h : PH) (a0 : Nat) : Option Int32 :=
  if okO h a0 5 = true then ((lpn (f_X6_huesLaid_L4 (h) (a0)) LF ((0 : Int32), (0 : Int32))).bind (fun w4 => (f_X6_huesLaid_J32 h (w4)))) else none
def f_X6_counted_J63 (h : PH)  (k0 : Nat) (k1 : Int32) : Option Int32 :=
  ((f_X6_sum h (k0) (k1)).bind fun v1 => some (v1))
def f_X6_counted (h : PH) (a0 : Nat) (a1 : Int32) : Option Int32 :=
  if okO h a0 5 = true then (if a1 = 0 then ((rdR h a0 5 1).bind fun v2 => ((ldI h v2 (8 : Int32)).bind fun v3 => some (v3))) else (if a1 = 1 then (if ¬ a1 = (2 : Int32) then (f_X6_counted_J63 h (a0) ((0 : Int32))) else (f_X6_counted_J63 h (a0) ((1 : Int32)))) else (if a1 = 2 then (if ¬ a1 = (2 : Int32) then (f_X6_counted_J63 h (a0) ((0 : Int32))) else (f_X6_counted_J63 h (a0) ((1 : Int32)))) else (if a1 = 3 then ((f_X6_huesLaid h (a0)).bind fun v4 => some (v4)) else (if a1 = 4 then ((rdR h a0 5 1).bind fun v5 => ((ldI h v5 (((9 : Int32) + a1) - (4 : Int32))).bind fun v6 => some (v6))) else (if a1 = 5 then ((rdR h a0 5 1).bind fun v7 => ((ldI h v7 (((9 : Int32) + a1) - (4 : Int32))).bind fun v8 => some (v8))) else (if a1 = 6 then ((rdR h a0 5 1).bind fun v9 => ((ldI h v9 (((9 : Int32) + a1) - (4 : Int32))).bind fun v10 => some (v10))) else ((rdI h a0 5 6).bind fun v11 => some (v11))))))))) else none
def f_X6_count_J31 (hh : PH)  (k0 : Int32) : Option (Int32 × PH) :=
  some (k0, hh)
def f_X6_count_J16 (h : PH) (x0 : Nat) (x1 : Int32) (k0 : Nat) (k1 : Int32) : Option (Int32 × PH) :=
  ((f_X6_holds h (k0) (k1)).bind fun q3 => (if q3.1 = 0 then (f_X6_count_J31 q3.2 ((0 : Int32))) else ((f_X6_counted q3.2 (x0) (x1)).bind fun v4 => (f_X6_count_J31 q3.2 (v4)))))
def f_X6_count (h : PH) (a0 : Nat) (a1 : Int32) : Option (Int32 × PH) :=
  if okO h a0 5 = true then ((f_X6_in h (a1) ((0 : Int32)) ((7 : Int32))).bind fun v5 => (if v5 = 0 then (f_X6_count_J16 h (a0) (a1) (a0) ((1 : Int32))) else (f_X6_count_J16 h (a0) (a1) (a0) ((0 : Int32))))) else none
def f_X6_refusal_J45 (hh : PH)  (k0 : Int32) : Option (Int32 × PH) :=
  some (k0, hh)
def f_X6_refusal_J28 (h : PH) (x0 : Nat) (x1 : Int32) (x2 : Int32) (x3 : Int32) (k0 : Nat) (k1 : Int32) : Option (Int32 × PH) :=
  ((f_X6_holds h (k0) (k1)).bind fun q3 => (if q3.1 = 0 then (f_X6_refusal_J45 q3.2 ((0 : Int32))) else ((f_X6_why q3.2 (x0) (x1) (x2) (x3)).bind fun v4 => (f_X6_refusal_J45 q3.2 (v4)))))
def f_X6_refusal (h : PH) (a0 : Nat) (a1 : Int32) (a2 : Int32) (a3 : Int32) : Option (Int32 × PH) :=
  if okO h a0 5 = true then ((f_X6_areThere h (a0) (a1) (a2)).bind fun v5 => (if ¬ v5 = 0 then ((f_X6_isPhase h (a0) (a2) (a3)).bind fun v6 => (if ¬ v6 = 0 then (f_X6_refusal_J28 h (a0) (a1) (a2) (a3) (a0) ((0 : Int32))) else (f_X6_refusal_J28 h (a0) (a1) (a2) (a3) (a0) ((2 : Int32))))) else (f_X6_refusal_J28 h (a0) (a1) (a2) (a3) (a0) ((1 : Int32))))) else none
def f_X6_meet_J55 (h : PH) (x5 : Int32)  : Option Int32 :=
  some (x5)
def f_X6_meet_J64 (h : PH)   : Option Int32 :=
  some (((-1) : Int32))
def f_X6_meet_J58 (h : PH) (x0 : Nat) (x1 : Int32) (x2 : Int32) (x3 : Int32) (x4 : Int32) (x5 : Int32)  : Option ((Int32) ⊕ (((Unit) ⊕ (Int32)))) :=
  some (.inl ((x5 + 1)))
def f_X6_meet_L14 (h : PH) (x0 : Nat) (x1 : Int32) (x2 : Int32) (x3 : Int32) (x4 : Int32) : Int32 → Option ((Int32) ⊕ (((Unit) ⊕ (Int32)))) := fun z14 =>
  (if (800 : Int32) ≤ z14 then some (.inr (.inl ())) else ((rdR h x0 5 1).bind fun v2 => ((ldI h v2 ((0 : Int32) + x1)).bind fun v3 => (if ¬ v3 = 0 then (if ¬ ((z14 - x2) - (z14 - x2) / v3 * v3) = 0 then (f_X6_meet_J58 h (x0) (x1) (x2) (x3) (x4) (z14)) else ((rdR h x0 5 1).bind fun v5 => ((ldI h v5 ((0 : Int32) + x3)).bind fun v6 => (if ¬ v6 = 0 then (if ¬ ((z14 - x4) - (z14 - x4) / v6 * v6) = 0 then (f_X6_meet_J58 h (x0) (x1) (x2) (x3) (x4) (z14)) else some (.inr (.inr ((z14))))) else none)))) else none))))
def f_X6_meet_J12 (h : PH) (x0 : Nat) (x1 : Int32) (x2 : Int32) (x3 : Int32) (x4 : Int32) (k0 : Int32) : Option Int32 :=
  ((lpn (f_X6_meet_L14 (h) (x0) (x1) (x2) (x3) (x4)) LF (k0)).bind (fun w14 => match w14 with | .inl w14 => (f_X6_meet_J64 h ) | .inr w14 => (f_X6_meet_J55 h (w14))))
def f_X6_meet (h : PH) (a0 : Nat) (a1 : Int32) (a2 : Int32) (a3 : Int32) (a4 : Int32) : Option Int32 :=
  if okO h a0 5 = true then (if a2 ≤ a4 then (f_X6_meet_J12 h (a0) (a1) (a2) (a3) (a4) (a4)) else (f_X6_meet_J12 h (a0) (a1) (a2) (a3) (a4) (a2))) else none
def f_X6_canMeet_J55 (h : PH)  (k0 : Nat) (k1 : Int32) : Option (Int32 × PH) :=
  ((f_X6_holds h (k0) (k1)).bind fun q3 => (if z01 q3.1 = true then some (q3.1, q3.2) else none))
def f_X6_canMeet_J50 (h : PH)  (k0 : Nat) : Option (Int32 × PH) :=
  (f_X6_canMeet_J55 h (k0) ((2 : Int32)))
def f_X6_canMeet_J19 (h : PH) (x0 : Nat) (x1 : Int32) (x2 : Int32) (x3 : Int32) (x4 : Int32) (k0 : Int32) : Option (Int32 × PH) :=
  (if ¬ k0 = 0 then ((f_X6_isPhase h (x0) (x1) (x2)).bind fun v5 => (if v5 = 0 then (f_X6_canMeet_J50 h (x0)) else ((f_X6_isPhase h (x0) (x3) (x4)).bind fun v6 => (if ¬ v6 = 0 then (f_X6_canMeet_J55 h (x0) ((0 : Int32))) else (f_X6_canMeet_J50 h (x0)))))) else (f_X6_canMeet_J55 h (x0) ((1 : Int32))))
def f_X6_canMeet_J18 (h : PH) (x0 : Nat) (x1 : Int32) (x2 : Int32) (x3 : Int32) (x4 : Int32)  : Option (Int32 × PH) :=
  (f_X6_canMeet_J19 h (x0) (x1) (x2) (x3) (x4) ((0 : Int32)))
def f_X6_canMeet (h : PH) (a0 : Nat) (a1 : Int32) (a2 : Int32) (a3 : Int32) (a4 : Int32) : Option (Int32 × PH) :=
  if okO h a0 5 = true then ((f_X6_isHue h (a1)).bind fun v7 => (if v7 = 0 then (f_X6_canMeet_J18 h (a0) (a1) (a2) (a3) (a4)) else ((f_X6_isHue h (a3)).bind fun v8 => (if v8 = 0 then (f_X6_canMeet_J18 h (a0) (a1) (a2) (a3) (a4)) else (f_X6_canMeet_J19 h (a0) (a1) (a2) (a3) (a4) ((1 : Int32))))))) else none
def f_X6_meeting_J25 (hh : PH)  (k0 : Int32) : Option (Int32 × PH) :=
  some (k0, hh)
def f_X6_meeting (h : PH) (a0 : Nat) (a1 : Int32) (a2 : Int32) (a3 : Int32) (a4 : Int32) : Option (Int32 × PH) :=
  if okO h a0 5 = true then ((f_X6_canMeet h (a0) (a1) (a2) (a3) (a4)).bind fun q3 => (if q3.1 = 0 then (f_X6_meeting_J25 q3.2 ((0 : Int32))) else ((f_X6_meet q3.2 (a0) (a1) (a2) (a3) (a4)).bind fun v4 => (f_X6_meeting_J25 q3.2 (v4))))) else none
def f_X6_walked_J25 (hh : PH)  (k0 : Int32) : Option (Int32 × PH) :=
  some (k0, hh)
def f_X6_walked (h : PH) (a0 : Nat) (a1 : Int32) (a2 : Int32) (a3 : Int32) (a4 : Int32) : Option (Int32 × PH) :=
  if okO h a0 5 = true then ((f_X6_canMeet h (a0) (a1) (a2) (a3) (a4)).bind fun q3 => (if q3.1 = 0 then (f_X6_walked_J25 q3.2 ((0 : Int32))) else ((f_X6_meet q3.2 (a0) (a1) (a2) (a3) (a4)).bind fun v4 => (f_X6_walked_J25 q3.2 (v4))))) else none
def f_X6_wouldTake (h : PH) (a0 : Nat) (a1 : Int32) (a2 : Int32) (a3 : Int32) : Option Int32 :=
  if okO h a0 5 = true then ((rdR h a0 5 1).bind fun v1 => ((f_X6_of h (a1) ((0 : Int32))).bind fun v2 => ((ldI h v1 v2).bind fun v3 => ((rdR h a0 5 1).bind fun v4 => ((ldI h v4 ((0 : Int32) + a2)).bind fun v5 => ((rdR h a0 5 1).bind fun v6 => ((ldI h v6 ((0 : Int32) + a2)).bind fun v7 => (if ¬ v7 = 0 then some (((((v3 - a3) + v5) - (1 : Int32)) / v7)) else none)))))))) else none
def f_X6_toldOfPhases_J139 (h : PH)  (k0 : Int32) : Option Int32 :=
  some (k0)
def f_X6_toldOfPhases_J118 (h : PH) (x3 : Int32) (x4 : Int32) (x5 : Int32) (x6 : Int32)  : Option Int32 :=
  (if ¬ x3 = 0 then (if ¬ x3 = (1 : Int32) then (f_X6_toldOfPhases_J139 h (x6)) else (f_X6_toldOfPhases_J139 h (x5))) else (f_X6_toldOfPhases_J139 h (x4)))
def f_X6_toldOfPhases_J110 (h : PH) (x0 : Nat) (x1 : Int32) (x2 : Int32) (x3 : Int32) (x4 : Int32) (x5 : Int32) (x7 : Int32) (k0 : Int32) : Option ((Int32 × Int32 × Int32 × Int32) ⊕ (Int32 × Int32 × Int32)) :=
  some (.inl (x4, x5, k0, (x7 + (-1))))
def f_X6_toldOfPhases_J103 (h : PH) (x0 : Nat) (x1 : Int32) (x2 : Int32) (x3 : Int32) (x4 : Int32) (x5 : Int32) (x7 : Int32)  : Option ((Int32 × Int32 × Int32 × Int32) ⊕ (Int32 × Int32 × Int32)) :=
  (f_X6_toldOfPhases_J110 h (x0) (x1) (x2) (x3) (x4) (x5) (x7) (x7))
def f_X6_toldOfPhases_J108 (h : PH) (x0 : Nat) (x1 : Int32) (x2 : Int32) (x3 : Int32) (x4 : Int32) (x5 : Int32) (x6 : Int32) (x7 : Int32)  : Option ((Int32 × Int32 × Int32 × Int32) ⊕ (Int32 × Int32 × Int32)) :=
  (f_X6_toldOfPhases_J110 h (x0) (x1) (x2) (x3) (x4) (x5) (x7) (x6))
def f_X6_toldOfPhases_J71 (h : PH) (x0 : Nat) (x1 : Int32) (x2 : Int32) (x3 : Int32) (x4 : Int32) (x6 : Int32) (x7 : Int32) (x8 : Int32) (k0 : Int32) : Option ((Int32 × Int32 × Int32 × Int32) ⊕ (Int32 × Int32 × Int32)) :=
  (if x8 = 0 then (f_X6_toldOfPhases_J108 h (x0) (x1) (x2) (x3) (x4) (k0) (x6) (x7)) else (if x6 = ((-1) : Int32) then (f_X6_toldOfPhases_J103 h (x0) (x1) (x2) (x3) (x4) (k0) (x7)) else ((f_X6_wouldTake h (x0) (x1) (x2) (x7)).bind fun v4 => ((f_X6_wouldTake h (x0) (x1) (x2) (x6)).bind fun v5 => (if v4 < v5 then (f_X6_toldOfPhases_J108 h (x0) (x1) (x2) (x3) (x4) (k0) (x6) (x7)) else (f_X6_toldOfPhases_J103 h (x0) (x1) (x2) (x3) (x4) (k0) (x7)))))))
def f_X6_toldOfPhases_J56 (h : PH) (x0 : Nat) (x1 : Int32) (x2 : Int32) (x3 : Int32) (x5 : Int32) (x6 : Int32) (x7 : Int32) (x8 : Int32) (k0 : Int32) (k1 : Int32) : Option ((Int32 × Int32 × Int32 × Int32) ⊕ (Int32 × Int32 × Int32)) :=
  (if x8 = 0 then (f_X6_toldOfPhases_J71 h (x0) (x1) (x2) (x3) ((k0 + k1)) (x6) (x7) (x8) (x5)) else (f_X6_toldOfPhases_J71 h (x0) (x1) (x2) (x3) ((k0 + k1)) (x6) (x7) (x8) (x7)))
def f_X6_toldOfPhases_J42 (h : PH) (x0 : Nat) (x1 : Int32) (x2 : Int32) (x3 : Int32) (x4 : Int32) (x5 : Int32) (x6 : Int32) (x7 : Int32) (k0 : Int32) : Option ((Int32 × Int32 × Int32 × Int32) ⊕ (Int32 × Int32 × Int32)) :=
  (if k0 = 0 then (f_X6_toldOfPhases_J56 h (x0) (x1) (x2) (x3) (x5) (x6) (x7) (k0) (x4) ((0 : Int32))) else (f_X6_toldOfPhases_J56 h (x0) (x1) (x2) (x3) (x5) (x6) (x7) (k0) (x4) ((1 : Int32))))
def f_X6_toldOfPhases_L21 (h : PH) (x0 : Nat) (x1 : Int32) (x2 : Int32) (x3 : Int32) : Int32 × Int32 × Int32 × Int32 → Option ((Int32 × Int32 × Int32 × Int32) ⊕ (Int32 × Int32 × Int32)) := fun z21 =>
  (if (z21.2.2.2) < 0 then some (.inr (((z21.1), (z21.2.1), (z21.2.2.1)))) else ((f_X6_why h (x0) (x1) (x2) ((z21.2.2.2))).bind fun v6 => (if ¬ v6 = 0 then (f_X6_toldOfPhases_J42 h (x0) (x1) (x2) (x3) ((z21.1)) ((z21.2.1)) ((z21.2.2.1)) ((z21.2.2.2)) ((0 : Int32))) else (f_X6_toldOfPhases_J42 h (x0) (x1) (x2) (x3) ((z21.1)) ((z21.2.1)) ((z21.2.2.1)) ((z21.2.2.2)) ((1 : Int32))))))
def f_X6_toldOfPhases (h : PH) (a0 : Nat) (a1 : Int32) (a2 : Int32) (a3 : Int32) : Option Int32 :=
  if okO h a0 5 = true then ((rdR h a0 5 1).bind fun v1 => ((ldI h v1 ((0 : Int32) + a2)).bind fun v2 => ((lpn (f_X6_toldOfPhases_L21 (h) (a0) (a1) (a2) (a3)) LF ((0 : Int32), ((-1) : Int32), ((-1) : Int32), (v2 - (1 : Int32)))).bind (fun w21 => (f_X6_toldOfPhases_J118 h (a3) (w21.1) (w21.2.1) (w21.2.2)))))) else none
def f_X6_phases_J45 (hh : PH)  (k0 : Int32) : Option (Int32 × PH) :=
  some (k0, hh)
def f_X6_phases_J28 (h : PH) (x0 : Nat) (x1 : Int32) (x2 : Int32) (x3 : Int32) (k0 : Nat) (k1 : Int32) : Option (Int32 × PH) :=
  ((f_X6_holds h (k0) (k1)).bind fun q3 => (if q3.1 = 0 then (f_X6_phases_J45 q3.2 ((0 : Int32))) else ((f_X6_toldOfPhases q3.2 (x0) (x1) (x2) (x3)).bind fun v4 => (f_X6_phases_J45 q3.2 (v4)))))
def f_X6_phases (h : PH) (a0 : Nat) (a1 : Int32) (a2 : Int32) (a3 : Int32) : Option (Int32 × PH) :=
  if okO h a0 5 = true then ((f_X6_areThere h (a0) (a1) (a2)).bind fun v5 => (if ¬ v5 = 0 then ((f_X6_in h (a3) ((0 : Int32)) ((2 : Int32))).bind fun v6 => (if ¬ v6 = 0 then (f_X6_phases_J28 h (a0) (a1) (a2) (a3) (a0) ((0 : Int32))) else (f_X6_phases_J28 h (a0) (a1) (a2) (a3) (a0) ((2 : Int32))))) else (f_X6_phases_J28 h (a0) (a1) (a2) (a3) (a0) ((1 : Int32))))) else none
def f_X6_best_J77 (h : PH) (x2 : Int32)  : Option Int32 :=
  some (x2)
def f_X6_best_J70 (h : PH) (x0 : Nat) (x1 : Int32) (x2 : Int32) (x4 : Int32) (k0 : Int32) : Option ((Int32 × Int32 × Int32) ⊕ (Int32)) :=
  some (.inl (x2, k0, (x4 + 1)))
def f_X6_best_J57 (h : PH) (x0 : Nat) (x1 : Int32) (x3 : Int32) (x4 : Int32) (x6 : Int32) (k0 : Int32) : Option ((Int32 × Int32 × Int32) ⊕ (Int32)) :=
  (if x6 ≤ x3 then (f_X6_best_J70 h (x0) (x1) (k0) (x4) (x3)) else (f_X6_best_J70 h (x0) (x1) (k0) (x4) (x6)))
def f_X6_best_J43 (h : PH) (x0 : Nat) (x1 : Int32) (x2 : Int32) (x3 : Int32) (x4 : Int32) (k0 : Int32) : Option ((Int32 × Int32 × Int32) ⊕ (Int32)) :=
  (if k0 ≤ x3 then (f_X6_best_J57 h (x0) (x1) (x3) (x4) (k0) (x2)) else (f_X6_best_J57 h (x0) (x1) (x3) (x4) (k0) (x4)))
def f_X6_best_L7 (h : PH) (x0 : Nat) (x1 : Int32) : Int32 × Int32 × Int32 → Option ((Int32 × Int32 × Int32) ⊕ (Int32)) := fun z7 =>
  (if (8 : Int32) ≤ (z7.2.2) then some (.inr (((z7.1)))) else ((f_X6_toldOfPhases h (x0) (x1) ((z7.2.2)) ((2 : Int32))).bind fun v2 => (if ¬ v2 = ((-1) : Int32) then ((f_X6_wouldTake h (x0) (x1) ((z7.2.2)) (v2)).bind fun v3 => (f_X6_best_J43 h (x0) (x1) ((z7.1)) ((z7.2.1)) ((z7.2.2)) (v3))) else (f_X6_best_J43 h (x0) (x1) ((z7.1)) ((z7.2.1)) ((z7.2.2)) ((0 : Int32))))))
def f_X6_best (h : PH) (a0 : Nat) (a1 : Int32) : Option Int32 :=
  if okO h a0 5 = true then ((lpn (f_X6_best_L7 (h) (a0) (a1)) LF (((-1) : Int32), (0 : Int32), (0 : Int32))).bind (fun w7 => (f_X6_best_J77 h (w7)))) else none
def f_X6_bestHue_J29 (hh : PH)  (k0 : Int32) : Option (Int32 × PH) :=
  some (k0, hh)
def f_X6_bestHue_J14 (h : PH) (x0 : Nat) (x1 : Int32) (k0 : Nat) (k1 : Int32) : Option (Int32 × PH) :=
  ((f_X6_holds h (k0) (k1)).bind fun q3 => (if q3.1 = 0 then (f_X6_bestHue_J29 q3.2 ((0 : Int32))) else ((f_X6_best q3.2 (x0) (x1)).bind fun v4 => (f_X6_bestHue_J29 q3.2 (v4)))))
def f_X6_bestHue (h : PH) (a0 : Nat) (a1 : Int32) : Option (Int32 × PH) :=
  if okO h a0 5 = true then ((f_X6_isRope h (a0) (a1)).bind fun v5 => (if v5 = 0 then (f_X6_bestHue_J14 h (a0) (a1) (a0) ((1 : Int32))) else (f_X6_bestHue_J14 h (a0) (a1) (a0) ((0 : Int32))))) else none
def f_X6_joining_J38 (hh : PH)  (k0 : Int32) : Option (Int32 × PH) :=
  some (k0, hh)
def f_X6_joining_J22 (h : PH) (x0 : Nat) (x1 : Int32) (x2 : Int32) (k0 : Nat) (k1 : Int32) : Option (Int32 × PH) :=
  ((f_X6_holds h (k0) (k1)).bind fun q3 => (if q3.1 = 0 then (f_X6_joining_J38 q3.2 ((0 : Int32))) else ((f_X6_whyNotJoined q3.2 (x0) (x1) (x2)).bind fun q6 => (f_X6_joining_J38 q6.2 (q6.1)))))
def f_X6_joining_J21 (h : PH) (x0 : Nat) (x1 : Int32) (x2 : Int32) (k0 : Nat) : Option (Int32 × PH) :=
  (f_X6_joining_J22 h (x0) (x1) (x2) (k0) ((1 : Int32)))
def f_X6_joining (h : PH) (a0 : Nat) (a1 : Int32) (a2 : Int32) : Option (Int32 × PH) :=
  if okO h a0 5 = true then ((f_X6_isRope h (a0) (a1)).bind fun v7 => (if v7 = 0 then (f_X6_joining_J21 h (a0) (a1) (a2) (a0)) else ((f_X6_isRope h (a0) (a2)).bind fun v8 => (if v8 = 0 then (f_X6_joining_J21 h (a0) (a1) (a2) (a0)) else (f_X6_joining_J22 h (a0) (a1) (a2) (a0) ((0 : Int32))))))) else none
def f_X6_greatest_J29 (hh : PH)  (k0 : Int32) : Option (Int32 × PH) :=
  some (k0, hh)
def f_X6_greatest_J14 (h : PH) (x0 : Nat) (x1 : Int32) (k0 : Nat) (k1 : Int32) : Option (Int32 × PH) :=
  ((f_X6_holds h (k0) (k1)).bind fun q3 => (if q3.1 = 0 then (f_X6_greatest_J29 q3.2 ((0 : Int32))) else ((f_X6_clash q3.2 (x0) (x1)).bind fun v4 => (f_X6_greatest_J29 q3.2 (v4)))))
def f_X6_greatest (h : PH) (a0 : Nat) (a1 : Int32) : Option (Int32 × PH) :=
  if okO h a0 5 = true then ((f_X6_isRope h (a0) (a1)).bind fun v5 => (if v5 = 0 then (f_X6_greatest_J14 h (a0) (a1) (a0) ((1 : Int32))) else (f_X6_greatest_J14 h (a0) (a1) (a0) ((0 : Int32))))) else none
def f_X6_share_J33 (h : PH)  (k0 : UInt64) : Option UInt64 :=
  some (k0)
def f_X6_share (h : PH) (a0 : Nat) : Option UInt64 :=
  if okO h a0 5 = true then ((rdR h a0 5 1).bind fun v1 => ((ldI h v1 (8 : Int32)).bind fun v2 => (if ¬ v2 = 0 then ((f_X6_sum h (a0) ((0 : Int32))).bind fun v3 => ((f_X6_sum h (a0) ((1 : Int32))).bind fun v4 => ((f_X6_sum h (a0) ((0 : Int32))).bind fun v5 => (if nn64 (FP.ddiv (FP.i2d (v3 - v4)) (FP.i2d v5)) = true then (f_X6_share_J33 h ((FP.ddiv (FP.i2d (v3 - v4)) (FP.i2d v5)))) else none)))) else (f_X6_share_J33 h (FP.dconst1))))) else none
def f_X6_fullness (h : PH) (a0 : Nat) : Option (UInt64 × PH) :=
  if okO h a0 5 = true then ((wrF h a0 5 0 (.int ((0 : Int32)))).bind fun h1 => ((f_X6_share h1 (a0)).bind fun v2 => some (v2, h1))) else none
def f_X6_bitsOf_J37 (h : PH) (x2 : Int64) (x4 : UInt64)  : Option Int64 :=
  (if nn64 (FP.dsub x4 FP.dconst1) = true then (if nn64 (FP.dmul (FP.dsub x4 FP.dconst1) (4841369599423283200 : UInt64)) = true then some (((x2 * (4503599627370496 : Int64)) + (FP.d2l (FP.dmul (FP.dsub x4 FP.dconst1) (4841369599423283200 : UInt64))))) else none) else none)
def f_X6_bitsOf_L15 (h : PH)  : Int64 × UInt64 → Option ((Int64 × UInt64) ⊕ (Int64 × UInt64)) := fun z15 =>
  (if 0 ≤ (Op.cmpValue (FP.dcmp (z15.2) FP.dconst1) .g) then some (.inr (((z15.1), (z15.2)))) else (if nn64 (FP.dmul (z15.2) (4611686018427387904 : UInt64)) = true then some (.inl (((z15.1) - (1 : Int64)), (FP.dmul (z15.2) (4611686018427387904 : UInt64)))) else none))
def f_X6_bitsOf (h : PH) (a0 : UInt64) : Option Int64 :=
  (if ¬ (Op.cmpValue (FP.dcmp a0 FP.dconst0) .l) = 0 then ((lpn (f_X6_bitsOf_L15 (h)) LF ((1023 : Int64), a0)).bind (fun w15 => (f_X6_bitsOf_J37 h (w15.1) (w15.2)))) else some ((0 : Int64)))
def f_X6_digestOne (h : PH) (a0 : Nat) (a1 : Int64) : Option PH :=
  if okO h a0 5 = true then ((rdJ h a0 5 15).bind fun v1 => ((wrF h a0 5 15 (.long ((((31 : Int64) * v1) + a1)))).bind fun h2 => some h2)) else none
def f_X6_digestRope_J122 (hh : PH) (x0 : Nat) (x1 : Int32)  : Option PH :=
  ((f_X6_best hh (x0) (x1)).bind fun v1 => ((f_X6_digestOne hh (x0) ((v1).toInt64)).bind fun h2 => ((f_X6_clash h2 (x0) (x1)).bind fun v3 => ((f_X6_digestOne h2 (x0) ((v3).toInt64)).bind fun h4 => ((f_X6_whyNotJoined h4 (x0) (x1) ((0 : Int32))).bind fun q7 => ((f_X6_digestOne q7.2 (x0) ((q7.1).toInt64)).bind fun h8 => some h8))))))
def f_X6_digestRope_J116 (hh : PH) (x0 : Nat) (x1 : Int32) (x2 : Int32)  : Option ((Int32 × PH) ⊕ (PH)) :=
  some (.inl ((x2 + 1), hh))
def f_X6_digestRope_L93 (x0 : Nat) (x1 : Int32) (x2 : Int32) : Int32 × PH → Option ((Int32 × PH) ⊕ (PH)) := fun z93 =>
  (if (3 : Int32) ≤ (z93.1) then some (.inr (((z93.2)))) else ((f_X6_toldOfPhases (z93.2) (x0) (x1) (x2) ((z93.1))).bind fun v11 => ((f_X6_digestOne (z93.2) (x0) ((v11).toInt64)).bind fun h12 => some (.inl (((z93.1) + 1), h12)))))
def f_X6_digestRope_J91 (hh : PH) (x0 : Nat) (x1 : Int32) (x2 : Int32)  : Option ((Int32 × PH) ⊕ (PH)) :=
  ((lpn (f_X6_digestRope_L93 (x0) (x1) (x2)) LF ((0 : Int32), hh)).bind (fun w93 => (f_X6_digestRope_J116 w93 (x0) (x1) (x2))))
def f_X6_digestRope_L68 (x0 : Nat) (x1 : Int32) (x2 : Int32) : Int32 × PH → Option ((Int32 × PH) ⊕ (PH)) := fun z68 =>
  (if (4 : Int32) ≤ (z68.1) then some (.inr (((z68.2)))) else ((f_X6_toldOfHue (z68.2) (x0) (x1) (x2) ((z68.1))).bind fun v14 => ((f_X6_digestOne (z68.2) (x0) ((v14).toInt64)).bind fun h15 => some (.inl (((z68.1) + 1), h15)))))
def f_X6_digestRope_L60 (x0 : Nat) (x1 : Int32) : Int32 × PH → Option ((Int32 × PH) ⊕ (PH)) := fun z60 =>
  (if (8 : Int32) ≤ (z60.1) then some (.inr (((z60.2)))) else ((lpn (f_X6_digestRope_L68 (x0) (x1) ((z60.1))) LF ((0 : Int32), (z60.2))).bind (fun w68 => (f_X6_digestRope_J91 w68 (x0) (x1) ((z60.1))))))
def f_X6_digestRope_J58 (hh : PH) (x0 : Nat) (x1 : Int32)  : Option PH :=
  ((lpn (f_X6_digestRope_L60 (x0) (x1)) LF ((0 : Int32), hh)).bind (fun w60 => (f_X6_digestRope_J122 w60 (x0) (x1))))
def f_X6_digestRope_L27 (x0 : Nat) (x1 : Int32) : Int32 × PH → Option ((Int32 × PH) ⊕ (PH)) := fun z27 =>
  ((rdR (z27.2) x0 5 1).bind fun v17 => ((f_X6_of (z27.2) (x1) ((0 : Int32))).bind fun v18 => ((ldI (z27.2) v17 v18).bind fun v19 => (if v19 ≤ (z27.1) then some (.inr (((z27.2)))) else ((f_X6_hueAt (z27.2) (x0) (x1) ((z27.1))).bind fun v20 => ((f_X6_digestOne (z27.2) (x0) ((v20).toInt64)).bind fun h21 => some (.inl (((z27.1) + 1), h21))))))))
def f_X6_digestRope_J25 (hh : PH) (x0 : Nat) (x1 : Int32)  : Option PH :=
  ((lpn (f_X6_digestRope_L27 (x0) (x1)) LF ((0 : Int32), hh)).bind (fun w27 => (f_X6_digestRope_J58 w27 (x0) (x1))))
def f_X6_digestRope_L2 (x0 : Nat) (x1 : Int32) : Int32 × PH → Option ((Int32 × PH) ⊕ (PH)) := fun z2 =>
  (if (6 : Int32) ≤ (z2.1) then some (.inr (((z2.2)))) else ((f_X6_toldOfRope (z2.2) (x0) (x1) ((z2.1))).bind fun v23 => ((f_X6_digestOne (z2.2) (x0) ((v23).toInt64)).bind fun h24 => some (.inl (((z2.1) + 1), h24)))))
def f_X6_digestRope (h : PH) (a0 : Nat) (a1 : Int32) : Option PH :=
  if okO h a0 5 = true then ((lpn (f_X6_digestRope_L2 (a0) (a1)) LF ((0 : Int32), h)).bind (fun w2 => (f_X6_digestRope_J25 w2 (a0) (a1)))) else none
def f_X6_digest_J161 (hh : PH) (x0 : Nat)  : Option (Int64 × PH) :=
  ((rdJ hh x0 5 15).bind fun v1 => some (v1, hh))
def f_X6_digest_L136 (x0 : Nat) : Int32 × PH → Option ((Int32 × PH) ⊕ (PH)) := fun z136 =>
  ((rdI (z136.2) x0 5 8).bind fun v8 => (if v8 ≤ (z136.1) then some (.inr (((z136.2)))) else ((rdR (z136.2) x0 5 7).bind fun v9 => ((ldI (z136.2) v9 (z136.1)).bind fun v10 => ((f_X6_digestOne (z136.2) (x0) ((v10).toInt64)).bind fun h11 => some (.inl (((z136.1) + 1), h11)))))))
def f_X6_digest_J114 (hh : PH) (x0 : Nat)  : Option (Int64 × PH) :=
  ((f_X6_share hh (x0)).bind fun v2 => ((f_X6_bitsOf hh (v2)).bind fun v3 => ((f_X6_digestOne hh (x0) (v3)).bind fun h4 => ((rdI h4 x0 5 8).bind fun v5 => ((f_X6_digestOne h4 (x0) ((v5).toInt64)).bind fun h6 => ((lpn (f_X6_digest_L136 (x0)) LF ((0 : Int32), h6)).bind (fun w136 => (f_X6_digest_J161 w136 (x0)))))))))
def f_X6_digest_L89 (x0 : Nat) : Int32 × PH → Option ((Int32 × PH) ⊕ (PH)) := fun z89 =>
  (if (8 : Int32) ≤ (z89.1) then some (.inr (((z89.2)))) else ((f_X6_meet (z89.2) (x0) ((0 : Int32)) ((1 : Int32)) ((z89.1)) ((0 : Int32))).bind fun v13 => ((f_X6_digestOne (z89.2) (x0) ((v13).toInt64)).bind fun h14 => some (.inl (((z89.1) + 1), h14)))))
def f_X6_digest_J87 (hh : PH) (x0 : Nat)  : Option (Int64 × PH) :=
  ((lpn (f_X6_digest_L89 (x0)) LF ((0 : Int32), hh)).bind (fun w89 => (f_X6_digest_J114 w89 (x0))))
def f_X6_digest_L65 (x0 : Nat) : Int32 × PH → Option ((Int32 × PH) ⊕ (PH)) := fun z65 =>
  ((rdR (z65.2) x0 5 1).bind fun v16 => ((ldI (z65.2) v16 (8 : Int32)).bind fun v17 => (if v17 ≤ (z65.1) then some (.inr (((z65.2)))) else ((f_X6_digestRope (z65.2) (x0) ((z65.1))).bind fun h18 => some (.inl (((z65.1) + 1), h18))))))
def f_X6_digest_J63 (hh : PH) (x0 : Nat)  : Option (Int64 × PH) :=
  ((lpn (f_X6_digest_L65 (x0)) LF ((0 : Int32), hh)).bind (fun w65 => (f_X6_digest_J87 w65 (x0))))
def f_X6_digest_L38 (x0 : Nat) : Int32 × PH → Option ((Int32 × PH) ⊕ (PH)) := fun z38 =>
  (if (8 : Int32) ≤ (z38.1) then some (.inr (((z38.2)))) else ((rdR (z38.2) x0 5 1).bind fun v20 => ((ldI (z38.2) v20 ((0 : Int32) + (z38.1))).bind fun v21 => ((f_X6_digestOne (z38.2) (x0) ((v21).toInt64)).bind fun h22 => some (.inl (((z38.1) + 1), h22))))))
def f_X6_digest_J36 (hh : PH) (x0 : Nat)  : Option (Int64 × PH) :=
  ((lpn (f_X6_digest_L38 (x0)) LF ((0 : Int32), hh)).bind (fun w38 => (f_X6_digest_J63 w38 (x0))))
def f_X6_digest_L14 (x0 : Nat) : Int32 × PH → Option ((Int32 × PH) ⊕ (PH)) := fun z14 =>
  (if (8 : Int32) ≤ (z14.1) then some (.inr (((z14.2)))) else ((f_X6_counted (z14.2) (x0) ((z14.1))).bind fun v26 => ((f_X6_digestOne (z14.2) (x0) ((v26).toInt64)).bind fun h27 => some (.inl (((z14.1) + 1), h27)))))
def f_X6_digest (h : PH) (a0 : Nat) : Option (Int64 × PH) :=
  if okO h a0 5 = true then ((wrF h a0 5 0 (.int ((0 : Int32)))).bind fun h23 => ((wrF h23 a0 5 15 (.long ((3643 : Int64)))).bind fun h24 => ((lpn (f_X6_digest_L14 (a0)) LF ((0 : Int32), h24)).bind (fun w14 => (f_X6_digest_J36 w14 (a0)))))) else none
