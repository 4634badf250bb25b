/-! what each method of the law does, written by program out of javap's listing; a call that throws: none -/
def okW (r : Option (Except (String × PH) (Int32 × PH))) : Option (Int32 × PH) := match r with
  | some (.ok q) => some q
  | _ => none
def okL9 (r : Option (Except String Int32)) : Option Int32 := match r with
  | some (.ok q) => some q
  | _ => none
theorem okW_at {r : Option (Except (String × PH) (Int32 × PH))} {q : Int32 × PH} (h : okW r = some q) : r = some (.ok q) := by
  unfold okW at h
  split at h
  · cases h; rfl
  · cases h
theorem okL9_at {r : Option (Except String Int32)} {q : Int32} (h : okL9 r = some q) : r = some (.ok q) := by
  unfold okL9 at h
  split at h
  · cases h; rfl
  · cases h
def f_L_cell_J20 (h : PH)  (k0 : Int32) : Option Int32 :=
  some (k0)
def f_L_cell (xs : Nat → Int32) (lL : Nat) (a1 : Int32) : Option Int32 :=
  (if (Int32.ofNat lL) ≤ a1 then (f_L_cell_J20 (fun _ => none) ((((40503 : Int32) * a1) + (977 : Int32)))) else (if ¬ (a1 < 0 ∨ lL ≤ (a1).toNatClampNeg) then (f_L_cell_J20 (fun _ => none) ((xs (a1).toNatClampNeg))) else none))
def f_L_low (h : PH) (a0 : Int32) (a1 : Int32) : Option Int32 :=
  (if ¬ a1 = 0 then some (((a0 &&& (2147483647 : Int32)) - (a0 &&& (2147483647 : Int32)) / a1 * a1)) else none)
def f_L_lays_J106 (h : PH)  (k0 : Int32) : Option (Int32 × PH) :=
  (if z01 k0 = true then some (k0, h) else none)
def f_L_lays_J105 (h : PH)   : Option (Int32 × PH) :=
  (f_L_lays_J106 h ((0 : Int32)))
def f_L_lays_J199 (hh : PH)  (k0 : Int32) : Option (Int32 × PH) :=
  (if z01 k0 = true then some (k0, hh) else none)
def f_L_lays_J198 (hh : PH)   : Option (Int32 × PH) :=
  (f_L_lays_J199 hh ((0 : Int32)))
def f_L_lays (h : PH) (a0 : Nat) (a1 : Int32) (a2 : Int32) (a3 : Int32) : Option (Int32 × PH) :=
  ((okL9 (f_X5_refusal h (a0) (a1) (a2) (a3))).bind fun q3 => ((okL9 (f_X5_count h (a0) ((4 : Int32)))).bind fun q4 => ((okL9 (f_X5_ropeOf h (a0) (a1) ((2 : Int32)))).bind fun q5 => ((okL9 (f_X5_gapOf h (a0) (a2))).bind fun q6 => (if q3 ≤ 0 then ((okL9 (f_X5_ropeOf h (a0) (a1) ((0 : Int32)))).bind fun q7 => (if ¬ q6 = 0 then ((okL9 (f_X5_ropeOf h (a0) (a1) ((1 : Int32)))).bind fun q9 => ((okW (f_X5_lay h (a0) (a1) (a2) (a3))).bind fun q10 => (if ¬ q10.1 = ((((q7 - a3) + q6) - (1 : Int32)) / q6) then (f_L_lays_J198 q10.2 ) else ((okL9 (f_X5_count q10.2 (a0) ((4 : Int32)))).bind fun q11 => (if ¬ q11 = (q4 + (1 : Int32)) then (f_L_lays_J198 q10.2 ) else ((okL9 (f_X5_ropeOf q10.2 (a0) (a1) ((2 : Int32)))).bind fun q12 => (if ¬ q12 = (q5 - ((((q7 - a3) + q6) - (1 : Int32)) / q6)) then (f_L_lays_J198 q10.2 ) else ((okL9 (f_X5_hueOf q10.2 (a0) (a1) (a2) ((0 : Int32)))).bind fun q13 => (if ¬ q13 = a3 then (f_L_lays_J198 q10.2 ) else ((okL9 (f_X5_hueOf q10.2 (a0) (a1) (a2) ((3 : Int32)))).bind fun q14 => (if ¬ q14 = q9 then (f_L_lays_J198 q10.2 ) else (f_L_lays_J199 q10.2 ((1 : Int32)))))))))))))) else none)) else (if ¬ q3 = (1 : Int32) then (if ¬ q3 = (2 : Int32) then (if ¬ q3 = (3 : Int32) then (f_L_lays_J105 h ) else ((okL9 (f_X5_hueOf h (a0) (a1) (a2) ((0 : Int32)))).bind fun q15 => (if ¬ q15 = ((-1) : Int32) then (f_L_lays_J105 h ) else (f_L_lays_J106 h ((1 : Int32)))))) else ((okL9 (f_X5_ropeOf h (a0) (a1) ((0 : Int32)))).bind fun q16 => (if a3 < q16 then (f_L_lays_J106 h ((0 : Int32))) else (f_L_lays_J106 h ((1 : Int32)))))) else ((okL9 (f_X5_hueOf h (a0) (a1) (a2) ((0 : Int32)))).bind fun q17 => (if q17 < 0 then (f_L_lays_J106 h ((0 : Int32))) else (f_L_lays_J106 h ((1 : Int32)))))))))))
def f_L_stretches_J43 (hh : PH)  (k0 : Int32) : Option (Int32 × PH) :=
  (if z01 k0 = true then some (k0, hh) else none)
def f_L_stretches_J42 (hh : PH)   : Option (Int32 × PH) :=
  (f_L_stretches_J43 hh ((0 : Int32)))
def f_L_stretches (h : PH) (a0 : Nat) (a1 : Int32) (a2 : Int32) : Option (Int32 × PH) :=
  ((okL9 (f_X5_ropeOf h (a0) (a1) ((1 : Int32)))).bind fun q2 => ((okW (f_X5_stretch h (a0) (a1) (a2))).bind fun q3 => ((okL9 (f_X5_ropeOf q3.2 (a0) (a1) ((0 : Int32)))).bind fun q4 => (if ¬ q4 = a2 then (f_L_stretches_J42 q3.2 ) else ((okL9 (f_X5_ropeOf q3.2 (a0) (a1) ((1 : Int32)))).bind fun q5 => (if ¬ q5 = (q2 - q3.1) then (f_L_stretches_J42 q3.2 ) else (f_L_stretches_J43 q3.2 ((1 : Int32)))))))))
def f_L_cuts_J164 (hh : PH)  (k0 : Int32) : Option (Int32 × PH) :=
  (if z01 k0 = true then some (k0, hh) else none)
def f_L_cuts_J163 (hh : PH)   : Option (Int32 × PH) :=
  (f_L_cuts_J164 hh ((0 : Int32)))
def f_L_cuts_J101 (hh : PH) (x0 : Nat) (x1 : Int32) (x3 : Int32) (x4 : Int32) (x5 : Int32) (k0 : Int32) : Option (Int32 × PH) :=
  (if k0 = 0 then (f_L_cuts_J163 hh ) else ((okW (f_X5_joining hh (x0) (x1) (x5))).bind fun q2 => (if ¬ q2.1 = 0 then (f_L_cuts_J163 q2.2 ) else ((okW (f_X5_join q2.2 (x0) (x1) (x5))).bind fun q3 => (if ¬ q3.1 = x3 then (f_L_cuts_J163 q3.2 ) else ((okL9 (f_X5_ropeOf q3.2 (x0) (x1) ((2 : Int32)))).bind fun q4 => (if ¬ q4 = x4 then (f_L_cuts_J163 q3.2 ) else ((okW (f_X5_undo q3.2 (x0))).bind fun q5 => (if q5.1 < 0 then (f_L_cuts_J163 q5.2 ) else ((okL9 (f_X5_count q5.2 (x0) ((0 : Int32)))).bind fun q6 => (if ¬ q6 = (x5 + (1 : Int32)) then (f_L_cuts_J163 q5.2 ) else (f_L_cuts_J164 q5.2 ((1 : Int32))))))))))))))
def f_L_cuts_J100 (hh : PH) (x0 : Nat) (x1 : Int32) (x3 : Int32) (x4 : Int32) (x5 : Int32)  : Option (Int32 × PH) :=
  (f_L_cuts_J101 hh (x0) (x1) (x3) (x4) (x5) ((0 : Int32)))
def f_L_cuts (h : PH) (a0 : Nat) (a1 : Int32) (a2 : Int32) : Option (Int32 × PH) :=
  ((okL9 (f_X5_ropeOf h (a0) (a1) ((0 : Int32)))).bind fun q7 => ((okL9 (f_X5_ropeOf h (a0) (a1) ((2 : Int32)))).bind fun q8 => ((okL9 (f_X5_count h (a0) ((0 : Int32)))).bind fun q9 => ((okL9 (f_X5_count h (a0) ((6 : Int32)))).bind fun q10 => ((okW (f_X5_cut h (a0) (a1) (a2))).bind fun q11 => (if ¬ q11.1 = q9 then (f_L_cuts_J100 q11.2 (a0) (a1) (q7) (q8) (q9)) else ((okL9 (f_X5_ropeOf q11.2 (a0) (a1) ((0 : Int32)))).bind fun q12 => (if ¬ q12 = a2 then (f_L_cuts_J100 q11.2 (a0) (a1) (q7) (q8) (q9)) else ((okL9 (f_X5_ropeOf q11.2 (a0) (q9) ((0 : Int32)))).bind fun q13 => (if ¬ q13 = (q7 - a2) then (f_L_cuts_J100 q11.2 (a0) (a1) (q7) (q8) (q9)) else ((okL9 (f_X5_ropeOf q11.2 (a0) (a1) ((2 : Int32)))).bind fun q14 => ((okL9 (f_X5_ropeOf q11.2 (a0) (q9) ((2 : Int32)))).bind fun q15 => (if ¬ (q14 + q15) = q8 then (f_L_cuts_J100 q11.2 (a0) (a1) (q7) (q8) (q9)) else ((okL9 (f_X5_count q11.2 (a0) ((6 : Int32)))).bind fun q16 => (if ¬ q16 = (q10 + (1 : Int32)) then (f_L_cuts_J100 q11.2 (a0) (a1) (q7) (q8) (q9)) else (f_L_cuts_J101 q11.2 (a0) (a1) (q7) (q8) (q9) ((1 : Int32))))))))))))))))))
def f_L_turns_J143 (hh : (PH × (Nat → Int32))) (x5 : Int32)  : Option (Int32 × PH) :=
  (if z01 x5 = true then some (x5, (hh).1) else none)
def f_L_turns_J135 (hh : (PH × (Nat → Int32))) (x0 : Nat) (x1 : Int32) (x2 : Int32) (x6 : Int32) (k0 : Int32) : Option ((Int32 × Int32 × (PH × (Nat → Int32))) ⊕ (Int32 × (PH × (Nat → Int32)))) :=
  some (.inl (k0, (x6 + 1), hh))
def f_L_turns_L101 (x0 : Nat) (x1 : Int32) (x2 : Int32) : Int32 × Int32 × (PH × (Nat → Int32)) → Option ((Int32 × Int32 × (PH × (Nat → Int32))) ⊕ (Int32 × (PH × (Nat → Int32)))) := fun z101 =>
  (if x2 ≤ (z101.2.1) then some (.inr (((z101.1), (z101.2.2)))) else (if (z101.1) = 0 then some (.inr (((z101.1), (z101.2.2)))) else ((okL9 (f_X5_place ((z101.2.2)).1 (x0) (x1) ((z101.2.1)))).bind fun q3 => (if ¬ (((x2 - (1 : Int32)) - (z101.2.1)) < 0 ∨ 60 ≤ (((x2 - (1 : Int32)) - (z101.2.1))).toNatClampNeg) then (if ¬ q3 = (((z101.2.2)).2 (((x2 - (1 : Int32)) - (z101.2.1))).toNatClampNeg) then (f_L_turns_J135 (z101.2.2) (x0) (x1) (x2) ((z101.2.1)) ((0 : Int32))) else (f_L_turns_J135 (z101.2.2) (x0) (x1) (x2) ((z101.2.1)) ((1 : Int32)))) else none))))
def f_L_turns_J96 (hh : (PH × (Nat → Int32))) (x0 : Nat) (x1 : Int32) (x2 : Int32) (k0 : Int32) : Option (Int32 × PH) :=
  ((lpn (f_L_turns_L101 (x0) (x1) (x2)) LF (k0, (0 : Int32), hh)).bind (fun w101 => (f_L_turns_J143 (w101.2) (w101.1))))
def f_L_turns_J81 (hh : (PH × (Nat → Int32))) (x0 : Nat) (x1 : Int32) (x2 : Int32) (x4 : Int32)  : Option (Int32 × PH) :=
  ((okW (f_X5_turn (hh).1 (x0) (x1))).bind fun q5 => (if ¬ q5.1 = x4 then (f_L_turns_J96 (q5.2, (hh).2) (x0) (x1) (x2) ((0 : Int32))) else (f_L_turns_J96 (q5.2, (hh).2) (x0) (x1) (x2) ((1 : Int32)))))
def f_L_turns_J72 (hh : (PH × (Nat → Int32))) (x0 : Nat) (x1 : Int32) (x2 : Int32) (x5 : Int32) (k0 : Int32) (k1 : Int32) : Option ((Int32 × Int32 × (PH × (Nat → Int32))) ⊕ (Int32 × (PH × (Nat → Int32)))) :=
  some (.inl ((k0 + k1), (x5 + 1), hh))
def f_L_turns_L44 (x0 : Nat) (x1 : Int32) (x2 : Int32) : Int32 × Int32 × (PH × (Nat → Int32)) → Option ((Int32 × Int32 × (PH × (Nat → Int32))) ⊕ (Int32 × (PH × (Nat → Int32)))) := fun z44 =>
  (if x2 ≤ (z44.2.1) then some (.inr (((z44.1), (z44.2.2)))) else (if ¬ ((z44.2.1) < 0 ∨ 60 ≤ ((z44.2.1)).toNatClampNeg) then (if ¬ (((x2 - (1 : Int32)) - (z44.2.1)) < 0 ∨ 60 ≤ (((x2 - (1 : Int32)) - (z44.2.1))).toNatClampNeg) then (if ¬ (((z44.2.2)).2 ((z44.2.1)).toNatClampNeg) = (((z44.2.2)).2 (((x2 - (1 : Int32)) - (z44.2.1))).toNatClampNeg) then (f_L_turns_J72 (z44.2.2) (x0) (x1) (x2) ((z44.2.1)) ((z44.1)) ((1 : Int32))) else (f_L_turns_J72 (z44.2.2) (x0) (x1) (x2) ((z44.2.1)) ((z44.1)) ((0 : Int32)))) else none) else none))
def f_L_turns_J41 (hh : (PH × (Nat → Int32))) (x0 : Nat) (x1 : Int32) (x2 : Int32) (x4 : Int32)  : Option (Int32 × PH) :=
  ((lpn (f_L_turns_L44 (x0) (x1) (x2)) LF (x4, (0 : Int32), hh)).bind (fun w44 => (f_L_turns_J81 (w44.2) (x0) (x1) (x2) (w44.1))))
def f_L_turns_L18 (x0 : Nat) (x1 : Int32) (x2 : Int32) (x4 : Int32) : Int32 × (PH × (Nat → Int32)) → Option ((Int32 × (PH × (Nat → Int32))) ⊕ ((PH × (Nat → Int32)))) := fun z18 =>
  (if x2 ≤ (z18.1) then some (.inr (((z18.2)))) else ((okL9 (f_X5_place ((z18.2)).1 (x0) (x1) ((z18.1)))).bind fun q11 => (if ¬ ((z18.1) < 0 ∨ 60 ≤ ((z18.1)).toNatClampNeg) then some (.inl (((z18.1) + 1), (((z18.2)).1, upd ((z18.2)).2 ((z18.1)).toNatClampNeg q11))) else none)))
def f_L_turns (h : PH) (a0 : Nat) (a1 : Int32) : Option (Int32 × PH) :=
  ((okL9 (f_X5_ropeOf (((h, fun _ => (0 : Int32)) : PH × (Nat → Int32))).1 (a0) (a1) ((0 : Int32)))).bind fun q9 => ((lpn (f_L_turns_L18 (a0) (a1) (q9) ((0 : Int32))) LF ((0 : Int32), ((h, fun _ => (0 : Int32)) : PH × (Nat → Int32)))).bind (fun w18 => (f_L_turns_J41 w18 (a0) (a1) (q9) ((0 : Int32))))))
def f_L_change_J176 (hh : PH)  (k0 : Int32) : Option (Int32 × PH) :=
  (if z01 k0 = true then some (k0, hh) else none)
def f_L_change_J171 (hh : PH)   : Option (Int32 × PH) :=
  (f_L_change_J176 hh ((1 : Int32)))
def f_L_change_J175 (hh : PH)   : Option (Int32 × PH) :=
  (f_L_change_J176 hh ((0 : Int32)))
def f_L_change_J209 (hh : PH)  (k0 : Int32) : Option (Int32 × PH) :=
  (if z01 k0 = true then some (k0, hh) else none)
def f_L_change_J204 (hh : PH)   : Option (Int32 × PH) :=
  (f_L_change_J209 hh ((1 : Int32)))
def f_L_change_J265 (hh : PH)  (k0 : Int32) : Option (Int32 × PH) :=
  (if z01 k0 = true then some (k0, hh) else none)
def f_L_change_J260 (hh : PH)   : Option (Int32 × PH) :=
  (f_L_change_J265 hh ((1 : Int32)))
def f_L_change_J264 (hh : PH)   : Option (Int32 × PH) :=
  (f_L_change_J265 hh ((0 : Int32)))
def f_L_change_J227 (h : PH) (x0 : Nat) (x4 : Int32) (x5 : Int32) (k0 : Int32) : Option (Int32 × PH) :=
  (if k0 < 0 then (f_L_change_J260 h ) else ((okW (f_X5_take h (x0) (x4) (x5))).bind fun q4 => (if ¬ q4.1 = k0 then (f_L_change_J264 q4.2 ) else ((okL9 (f_X5_hueOf q4.2 (x0) (x4) (x5) ((0 : Int32)))).bind fun q5 => (if ¬ q5 = ((-1) : Int32) then (f_L_change_J264 q4.2 ) else (f_L_change_J260 q4.2 ))))))
def f_L_change_J366 (hh : PH)  (k0 : Int32) : Option (Int32 × PH) :=
  (if z01 k0 = true then some (k0, hh) else none)
def f_L_change_J361 (hh : PH)   : Option (Int32 × PH) :=
  (f_L_change_J366 hh ((1 : Int32)))
def f_L_change_J365 (hh : PH)   : Option (Int32 × PH) :=
  (f_L_change_J366 hh ((0 : Int32)))
def f_L_change_J308 (h : PH) (x0 : Nat) (x2 : Int32) (x5 : Int32) (x7 : Int32)  : Option (Int32 × PH) :=
  ((okL9 (f_X5_gapOf h (x0) (x5))).bind fun q7 => (if ¬ x7 = 0 then (f_L_change_J361 h ) else ((f_L_low h ((x2 >>> ((5 : Int32) &&& 31))) ((19 : Int32))).bind fun v8 => ((okW (f_X5_gap h (x0) (x5) (((2 : Int32) + v8)))).bind fun q9 => (if ¬ q9.1 = q7 then (f_L_change_J365 q9.2 ) else ((okL9 (f_X5_gapOf q9.2 (x0) (x5))).bind fun q10 => ((f_L_low q9.2 ((x2 >>> ((5 : Int32) &&& 31))) ((19 : Int32))).bind fun v11 => (if ¬ q10 = ((2 : Int32) + v11) then (f_L_change_J365 q9.2 ) else (f_L_change_J361 q9.2 )))))))))
def f_L_change_J399 (hh : PH)  (k0 : Int32) : Option (Int32 × PH) :=
  (if z01 k0 = true then some (k0, hh) else none)
def f_L_change_J394 (hh : PH)   : Option (Int32 × PH) :=
  (f_L_change_J399 hh ((1 : Int32)))
def f_L_change_J451 (hh : PH)  (k0 : Int32) : Option (Int32 × PH) :=
  (if z01 k0 = true then some (k0, hh) else none)
def f_L_change_J446 (hh : PH)   : Option (Int32 × PH) :=
  (f_L_change_J451 hh ((1 : Int32)))
def f_L_change_J470 (hh : PH)  (k0 : Int32) : Option (Int32 × PH) :=
  (if z01 k0 = true then some (k0, hh) else none)
def f_L_change_J465 (hh : PH)   : Option (Int32 × PH) :=
  (f_L_change_J470 hh ((1 : Int32)))
def f_L_change_J557 (hh : PH)  (k0 : Int32) : Option (Int32 × PH) :=
  (if z01 k0 = true then some (k0, hh) else none)
def f_L_change_J552 (hh : PH)   : Option (Int32 × PH) :=
  (f_L_change_J557 hh ((1 : Int32)))
def f_L_change_J556 (hh : PH)   : Option (Int32 × PH) :=
  (f_L_change_J557 hh ((0 : Int32)))
def f_L_change_J511 (h : PH) (x0 : Nat) (x3 : Int32) (x4 : Int32) (x8 : Int32) (k0 : Int32) : Option (Int32 × PH) :=
  (if x3 = 0 then (f_L_change_J552 h ) else ((okW (f_X5_joining h (x0) (x4) (x8))).bind fun q16 => (if 0 < q16.1 then (f_L_change_J552 q16.2 ) else ((okW (f_X5_join q16.2 (x0) (x4) (x8))).bind fun q17 => (if ¬ q17.1 = k0 then (f_L_change_J556 q17.2 ) else ((okL9 (f_X5_count q17.2 (x0) ((0 : Int32)))).bind fun q18 => (if ¬ q18 = (x3 - (1 : Int32)) then (f_L_change_J556 q17.2 ) else (f_L_change_J552 q17.2 ))))))))
def f_L_change_J486 (h : PH) (x0 : Nat) (x3 : Int32) (x4 : Int32) (k0 : Int32) : Option (Int32 × PH) :=
  (if ¬ x3 = 0 then ((okL9 (f_X5_ropeOf h (x0) (x4) ((0 : Int32)))).bind fun q19 => ((okL9 (f_X5_ropeOf h (x0) (k0) ((0 : Int32)))).bind fun q20 => (f_L_change_J511 h (x0) (x3) (x4) (k0) ((q19 + q20))))) else (f_L_change_J511 h (x0) (x3) (x4) (k0) ((0 : Int32))))
def f_L_change_J585 (hh : PH)  (k0 : Int32) : Option (Int32 × PH) :=
  (if z01 k0 = true then some (k0, hh) else none)
def f_L_change_J580 (hh : PH)   : Option (Int32 × PH) :=
  (f_L_change_J585 hh ((1 : Int32)))
def f_L_change_J300 (h : PH) (x0 : Nat) (x2 : Int32) (x3 : Int32) (x5 : Int32) (x8 : Int32) (k0 : Int32) : Option ((Int32 × Int32) ⊕ (Int32)) :=
  some (.inl (k0, (x8 + 1)))
def f_L_change_J295 (h : PH) (x0 : Nat) (x2 : Int32) (x3 : Int32) (x5 : Int32) (x8 : Int32)  : Option ((Int32 × Int32) ⊕ (Int32)) :=
  (f_L_change_J300 h (x0) (x2) (x3) (x5) (x8) ((1 : Int32)))
def f_L_change_L272 (hh : PH) (x0 : Nat) (x2 : Int32) (x3 : Int32) (x5 : Int32) : Int32 × Int32 → Option ((Int32 × Int32) ⊕ (Int32)) := fun z272 =>
  (if x3 ≤ (z272.2) then some (.inr (((z272.1)))) else (if ¬ (z272.1) = 0 then (f_L_change_J295 hh (x0) (x2) (x3) (x5) ((z272.2))) else ((okL9 (f_X5_hueOf hh (x0) ((z272.2)) (x5) ((0 : Int32)))).bind fun q57 => (if q57 < 0 then (f_L_change_J300 hh (x0) (x2) (x3) (x5) ((z272.2)) ((0 : Int32))) else (f_L_change_J295 hh (x0) (x2) (x3) (x5) ((z272.2)))))))
def f_L_change_J16 (h : PH) (x0 : Nat) (x1 : Int32) (x2 : Int32) (x3 : Int32) (k0 : Int32) (k1 : Int32) : Option (Int32 × PH) :=
  ((f_L_low h (k0) (k1)).bind fun v22 => ((f_L_low h ((x2 >>> ((2 : Int32) &&& 31))) ((8 : Int32))).bind fun v23 => ((f_L_low h (x1) ((16 : Int32))).bind fun v24 => (if v24 = 0 then (if x3 = (4 : Int32) then (f_L_change_J171 h ) else ((f_L_low h (x2) ((60 : Int32))).bind fun v25 => ((okW (f_X5_rope h (x0) (((1 : Int32) + v25)))).bind fun q26 => (if ¬ q26.1 = x3 then (f_L_change_J175 q26.2 ) else ((okL9 (f_X5_ropeOf q26.2 (x0) (x3) ((0 : Int32)))).bind fun q27 => ((f_L_low q26.2 (x2) ((60 : Int32))).bind fun v28 => (if ¬ q27 = ((1 : Int32) + v28) then (f_L_change_J175 q26.2 ) else ((okL9 (f_X5_ropeOf q26.2 (x0) (x3) ((2 : Int32)))).bind fun q29 => ((f_L_low q26.2 (x2) ((60 : Int32))).bind fun v30 => (if ¬ q29 = ((1 : Int32) + v30) then (f_L_change_J175 q26.2 ) else (f_L_change_J171 q26.2 ))))))))))) else (if v24 = 1 then (if x3 = (4 : Int32) then (f_L_change_J171 h ) else ((f_L_low h (x2) ((60 : Int32))).bind fun v31 => ((okW (f_X5_rope h (x0) (((1 : Int32) + v31)))).bind fun q32 => (if ¬ q32.1 = x3 then (f_L_change_J175 q32.2 ) else ((okL9 (f_X5_ropeOf q32.2 (x0) (x3) ((0 : Int32)))).bind fun q33 => ((f_L_low q32.2 (x2) ((60 : Int32))).bind fun v34 => (if ¬ q33 = ((1 : Int32) + v34) then (f_L_change_J175 q32.2 ) else ((okL9 (f_X5_ropeOf q32.2 (x0) (x3) ((2 : Int32)))).bind fun q35 => ((f_L_low q32.2 (x2) ((60 : Int32))).bind fun v36 => (if ¬ q35 = ((1 : Int32) + v36) then (f_L_change_J175 q32.2 ) else (f_L_change_J171 q32.2 ))))))))))) else (if v24 = 2 then (if x3 = 0 then (f_L_change_J204 h ) else ((okL9 (f_X5_gapOf h (x0) (v23))).bind fun q37 => ((f_L_low h ((x2 >>> ((5 : Int32) &&& 31))) (q37)).bind fun v38 => ((f_L_lays h (x0) (v22) (v23) (v38)).bind fun q39 => (if q39.1 = 0 then (f_L_change_J209 q39.2 ((0 : Int32))) else (f_L_change_J204 q39.2 )))))) else (if v24 = 3 then (if x3 = 0 then (f_L_change_J204 h ) else ((okL9 (f_X5_gapOf h (x0) (v23))).bind fun q40 => ((f_L_low h ((x2 >>> ((5 : Int32) &&& 31))) (q40)).bind fun v41 => ((f_L_lays h (x0) (v22) (v23) (v41)).bind fun q42 => (if q42.1 = 0 then (f_L_change_J209 q42.2 ((0 : Int32))) else (f_L_change_J204 q42.2 )))))) else (if v24 = 4 then (if x3 = 0 then (f_L_change_J204 h ) else ((okL9 (f_X5_gapOf h (x0) (v23))).bind fun q43 => ((f_L_low h ((x2 >>> ((5 : Int32) &&& 31))) (q43)).bind fun v44 => ((f_L_lays h (x0) (v22) (v23) (v44)).bind fun q45 => (if q45.1 = 0 then (f_L_change_J209 q45.2 ((0 : Int32))) else (f_L_change_J204 q45.2 )))))) else (if v24 = 5 then (if x3 = 0 then (f_L_change_J204 h ) else ((okL9 (f_X5_gapOf h (x0) (v23))).bind fun q46 => ((f_L_low h ((x2 >>> ((5 : Int32) &&& 31))) (q46)).bind fun v47 => ((f_L_lays h (x0) (v22) (v23) (v47)).bind fun q48 => (if q48.1 = 0 then (f_L_change_J209 q48.2 ((0 : Int32))) else (f_L_change_J204 q48.2 )))))) else (if v24 = 6 then (if x3 = 0 then (f_L_change_J204 h ) else ((okL9 (f_X5_gapOf h (x0) (v23))).bind fun q49 => ((f_L_low h ((x2 >>> ((5 : Int32) &&& 31))) (q49)).bind fun v50 => ((f_L_lays h (x0) (v22) (v23) (v50)).bind fun q51 => (if q51.1 = 0 then (f_L_change_J209 q51.2 ((0 : Int32))) else (f_L_change_J204 q51.2 )))))) else (if v24 = 7 then (if x3 = 0 then (f_L_change_J204 h ) else ((okL9 (f_X5_gapOf h (x0) (v23))).bind fun q52 => ((f_L_low h ((x2 >>> ((5 : Int32) &&& 31))) (q52)).bind fun v53 => ((f_L_lays h (x0) (v22) (v23) (v53)).bind fun q54 => (if q54.1 = 0 then (f_L_change_J209 q54.2 ((0 : Int32))) else (f_L_change_J204 q54.2 )))))) else (if v24 = 8 then (if ¬ x3 = 0 then ((okL9 (f_X5_hueOf h (x0) (v22) (v23) ((1 : Int32)))).bind fun q55 => (f_L_change_J227 h (x0) (v22) (v23) (q55))) else (f_L_change_J227 h (x0) (v22) (v23) (((-1) : Int32)))) else (if v24 = 9 then ((lpn (f_L_change_L272 (h) (x0) (x2) (x3) (v23)) LF ((0 : Int32), (0 : Int32))).bind (fun w272 => (f_L_change_J308 h (x0) (x2) (v23) (w272)))) else (if v24 = 10 then (if x3 = 0 then (f_L_change_J394 h ) else ((okL9 (f_X5_greatest h (x0) (v22))).bind fun q58 => ((f_L_low h ((x2 >>> ((3 : Int32) &&& 31))) (q58)).bind fun v59 => ((f_L_stretches h (x0) (v22) (((1 : Int32) + v59))).bind fun q60 => (if q60.1 = 0 then (f_L_change_J399 q60.2 ((0 : Int32))) else (f_L_change_J394 q60.2 )))))) else (if v24 = 11 then (if x3 = 0 then (f_L_change_J446 h ) else (if x3 = (4 : Int32) then (f_L_change_J446 h ) else ((okL9 (f_X5_ropeOf h (x0) (v22) ((0 : Int32)))).bind fun q61 => (if q61 = (1 : Int32) then (f_L_change_J446 h ) else ((okL9 (f_X5_ropeOf h (x0) (v22) ((0 : Int32)))).bind fun q62 => ((f_L_low h ((x2 >>> ((3 : Int32) &&& 31))) ((q62 - (1 : Int32)))).bind fun v63 => ((f_L_cuts h (x0) (v22) (((1 : Int32) + v63))).bind fun q64 => (if q64.1 = 0 then (f_L_change_J451 q64.2 ((0 : Int32))) else (f_L_change_J446 q64.2 ))))))))) else (if v24 = 12 then (if x3 = 0 then (f_L_change_J465 h ) else ((f_L_turns h (x0) (v22)).bind fun q65 => (if q65.1 = 0 then (f_L_change_J470 q65.2 ((0 : Int32))) else (f_L_change_J465 q65.2 )))) else (if v24 = 13 then (if ¬ x3 = 0 then ((f_L_low h ((x2 >>> ((2 : Int32) &&& 31))) (x3)).bind fun v66 => (f_L_change_J486 h (x0) (x3) (v22) (v66))) else (f_L_change_J486 h (x0) (x3) (v22) ((0 : Int32)))) else (if v24 = 14 then (if ¬ x3 = 0 then ((f_L_low h ((x2 >>> ((2 : Int32) &&& 31))) (x3)).bind fun v67 => (f_L_change_J486 h (x0) (x3) (v22) (v67))) else (f_L_change_J486 h (x0) (x3) (v22) ((0 : Int32)))) else (if x3 = 0 then (f_L_change_J580 h ) else (if ¬ (x2 &&& (3 : Int32)) = 0 then (f_L_change_J580 h ) else ((okW (f_X5_drop h (x0) (v22))).bind fun q68 => (if ¬ q68.1 = (x3 - (1 : Int32)) then (f_L_change_J585 q68.2 ((0 : Int32))) else (f_L_change_J580 q68.2 )))))))))))))))))))))))
def f_L_change (h : PH) (a0 : Nat) (a1 : Int32) (a2 : Int32) : Option (Int32 × PH) :=
  ((okL9 (f_X5_count h (a0) ((0 : Int32)))).bind fun q69 => (if ¬ q69 = 0 then (f_L_change_J16 h (a0) (a1) (a2) (q69) (a2) (q69)) else (f_L_change_J16 h (a0) (a1) (a2) (q69) (a2) ((1 : Int32)))))
def f_L_arePhases_J110 (h : PH)  (k0 : Int32) : Option Int32 :=
  (if z01 k0 = true then some (k0) else none)
def f_L_arePhases_J109 (h : PH)   : Option Int32 :=
  (f_L_arePhases_J110 h ((0 : Int32)))
def f_L_arePhases_J70 (h : PH) (x0 : Nat) (x1 : Int32) (x2 : Int32) (x3 : Int32) (x4 : Int32)  : Option Int32 :=
  ((okL9 (f_X5_phases h (x0) (x1) (x2) ((0 : Int32)))).bind fun q2 => (if ¬ q2 = x3 then (f_L_arePhases_J109 h ) else ((okL9 (f_X5_phases h (x0) (x1) (x2) ((1 : Int32)))).bind fun q3 => (if ¬ q3 = x4 then (f_L_arePhases_J109 h ) else ((okL9 (f_X5_phases h (x0) (x1) (x2) ((2 : Int32)))).bind fun q4 => (if ¬ q4 = x4 then (f_L_arePhases_J109 h ) else (f_L_arePhases_J110 h ((1 : Int32)))))))))
def f_L_arePhases_J62 (h : PH) (x0 : Nat) (x1 : Int32) (x2 : Int32) (x3 : Int32) (x5 : Int32) (k0 : Int32) : Option ((Int32 × Int32 × Int32) ⊕ (Int32 × Int32)) :=
  some (.inl (x3, k0, (x5 + (-1))))
def f_L_arePhases_J48 (h : PH) (x0 : Nat) (x1 : Int32) (x2 : Int32) (x4 : Int32) (x5 : Int32) (x6 : Int32) (k0 : Int32) (k1 : Int32) : Option ((Int32 × Int32 × Int32) ⊕ (Int32 × Int32)) :=
  (if x6 = 0 then (f_L_arePhases_J62 h (x0) (x1) (x2) ((k0 + k1)) (x5) (x4)) else (f_L_arePhases_J62 h (x0) (x1) (x2) ((k0 + k1)) (x5) (x5)))
def f_L_arePhases_J35 (h : PH) (x0 : Nat) (x1 : Int32) (x2 : Int32) (x3 : Int32) (x4 : Int32) (x5 : Int32) (k0 : Int32) : Option ((Int32 × Int32 × Int32) ⊕ (Int32 × Int32)) :=
  (if k0 = 0 then (f_L_arePhases_J48 h (x0) (x1) (x2) (x4) (x5) (k0) (x3) ((0 : Int32))) else (f_L_arePhases_J48 h (x0) (x1) (x2) (x4) (x5) (k0) (x3) ((1 : Int32))))
def f_L_arePhases_L14 (h : PH) (x0 : Nat) (x1 : Int32) (x2 : Int32) : Int32 × Int32 × Int32 → Option ((Int32 × Int32 × Int32) ⊕ (Int32 × Int32)) := fun z14 =>
  (if (z14.2.2) < 0 then some (.inr (((z14.1), (z14.2.1)))) else ((okL9 (f_X5_refusal h (x0) (x1) (x2) ((z14.2.2)))).bind fun q7 => (if ¬ q7 = 0 then (f_L_arePhases_J35 h (x0) (x1) (x2) ((z14.1)) ((z14.2.1)) ((z14.2.2)) ((0 : Int32))) else (f_L_arePhases_J35 h (x0) (x1) (x2) ((z14.1)) ((z14.2.1)) ((z14.2.2)) ((1 : Int32))))))
def f_L_arePhases (h : PH) (a0 : Nat) (a1 : Int32) (a2 : Int32) : Option Int32 :=
  ((okL9 (f_X5_gapOf h (a0) (a2))).bind fun q5 => ((lpn (f_L_arePhases_L14 (h) (a0) (a1) (a2)) LF ((0 : Int32), ((-1) : Int32), (q5 - (1 : Int32)))).bind (fun w14 => (f_L_arePhases_J70 h (a0) (a1) (a2) (w14.1) (w14.2)))))
def f_L_isRope_J406 (hh : PH)  (k0 : Int32) : Option (Int32 × PH) :=
  (if z01 k0 = true then some (k0, hh) else none)
def f_L_isRope_J405 (hh : PH)   : Option (Int32 × PH) :=
  (f_L_isRope_J406 hh ((0 : Int32)))
def f_L_isRope_J391 (h : PH) (x0 : Nat) (x1 : Int32)  : Option (Int32 × PH) :=
  ((okW (f_X5_joining h (x0) (x1) (x1))).bind fun q2 => (if ¬ q2.1 = (1 : Int32) then (f_L_isRope_J405 q2.2 ) else (f_L_isRope_J406 q2.2 ((1 : Int32)))))
def f_L_isRope_J349 (h : PH) (x0 : Nat) (x1 : Int32) (x2 : Int32) (x4 : Int32) (x6 : Int32) (k0 : Int32) : Option (Int32 × PH) :=
  (if k0 = 0 then (f_L_isRope_J405 h ) else ((okL9 (f_X5_greatest h (x0) (x1))).bind fun q3 => (if q3 < x2 then (f_L_isRope_J405 h ) else ((okL9 (f_X5_ropeOf h (x0) (x1) ((4 : Int32)))).bind fun q4 => ((okL9 (f_X5_ropeOf h (x0) (x1) ((2 : Int32)))).bind fun q5 => (if q5 < q4 then (f_L_isRope_J405 h ) else (if 0 < x4 then (f_L_isRope_J391 h (x0) (x1)) else (if ¬ x6 = (1 : Int32) then (f_L_isRope_J405 h ) else (f_L_isRope_J391 h (x0) (x1))))))))))
def f_L_isRope_J344 (h : PH) (x0 : Nat) (x1 : Int32) (x2 : Int32) (x4 : Int32) (x6 : Int32)  : Option (Int32 × PH) :=
  (f_L_isRope_J349 h (x0) (x1) (x2) (x4) (x6) ((1 : Int32)))
def f_L_isRope_J348 (h : PH) (x0 : Nat) (x1 : Int32) (x2 : Int32) (x4 : Int32) (x6 : Int32)  : Option (Int32 × PH) :=
  (f_L_isRope_J349 h (x0) (x1) (x2) (x4) (x6) ((0 : Int32)))
def f_L_isRope_J324 (h : PH) (x0 : Nat) (x1 : Int32) (x2 : Int32) (x4 : Int32) (x6 : Int32) (x8 : Int32) (k0 : Int32) (k1 : Int32) : Option (Int32 × PH) :=
  (if ¬ k0 = k1 then (f_L_isRope_J348 h (x0) (x1) (x2) (x4) (x6)) else (if x8 = ((-1) : Int32) then (f_L_isRope_J344 h (x0) (x1) (x2) (x4) (x6)) else ((okL9 (f_X5_place h (x0) (x1) (x8))).bind fun q6 => (if ¬ q6 = ((-1) : Int32) then (f_L_isRope_J348 h (x0) (x1) (x2) (x4) (x6)) else (f_L_isRope_J344 h (x0) (x1) (x2) (x4) (x6))))))
def f_L_isRope_J314 (h : PH) (x0 : Nat) (x1 : Int32) (x2 : Int32) (x3 : Int32) (x4 : Int32) (x6 : Int32) (x8 : Int32) (k0 : Int32) : Option (Int32 × PH) :=
  (if ¬ x3 = x2 then (f_L_isRope_J324 h (x0) (x1) (x2) (x4) (x6) (x8) (k0) ((0 : Int32))) else (f_L_isRope_J324 h (x0) (x1) (x2) (x4) (x6) (x8) (k0) ((1 : Int32))))
def f_L_isRope_J256 (h : PH) (x0 : Nat) (x1 : Int32) (x2 : Int32) (x3 : Int32) (x4 : Int32) (x5 : Int32) (x6 : Int32) (x7 : Int32)  : Option (Int32 × PH) :=
  ((okL9 (f_X5_ropeOf h (x0) (x1) ((3 : Int32)))).bind fun q7 => (if x7 = 0 then (f_L_isRope_J348 h (x0) (x1) (x2) (x4) (x6)) else ((okL9 (f_X5_ropeOf h (x0) (x1) ((1 : Int32)))).bind fun q8 => (if ¬ x4 = q8 then (f_L_isRope_J348 h (x0) (x1) (x2) (x4) (x6)) else (if ¬ x5 = (((1 : Int32) <<< (x4 &&& 31)) - (1 : Int32)) then (f_L_isRope_J348 h (x0) (x1) (x2) (x4) (x6)) else ((okL9 (f_X5_ropeOf h (x0) (x1) ((2 : Int32)))).bind fun q9 => (if ¬ q9 = (x2 - x3) then (f_L_isRope_J348 h (x0) (x1) (x2) (x4) (x6)) else (if ¬ q7 = ((-1) : Int32) then (f_L_isRope_J314 h (x0) (x1) (x2) (x3) (x4) (x6) (q7) ((0 : Int32))) else (f_L_isRope_J314 h (x0) (x1) (x2) (x3) (x4) (x6) (q7) ((1 : Int32)))))))))))
def f_L_isRope_J248 (h : PH) (x0 : Nat) (x1 : Int32) (x2 : Int32) (x3 : Int32) (x4 : Int32) (x5 : Int32) (x6 : Int32) (x8 : Int32) (k0 : Int32) : Option ((Int32 × Int32 × Int32 × Int32 × Int32) ⊕ (Int32 × Int32 × Int32 × Int32)) :=
  some (.inl (x3, x4, x5, k0, (x8 + 1)))
def f_L_isRope_J243 (h : PH) (x0 : Nat) (x1 : Int32) (x2 : Int32) (x3 : Int32) (x4 : Int32) (x5 : Int32) (x6 : Int32) (x8 : Int32)  : Option ((Int32 × Int32 × Int32 × Int32 × Int32) ⊕ (Int32 × Int32 × Int32 × Int32)) :=
  (f_L_isRope_J248 h (x0) (x1) (x2) (x3) (x4) (x5) (x6) (x8) ((1 : Int32)))
def f_L_isRope_J247 (h : PH) (x0 : Nat) (x1 : Int32) (x2 : Int32) (x3 : Int32) (x4 : Int32) (x5 : Int32) (x6 : Int32) (x8 : Int32)  : Option ((Int32 × Int32 × Int32 × Int32 × Int32) ⊕ (Int32 × Int32 × Int32 × Int32)) :=
  (f_L_isRope_J248 h (x0) (x1) (x2) (x3) (x4) (x5) (x6) (x8) ((0 : Int32)))
def f_L_isRope_J209 (h : PH) (x0 : Nat) (x1 : Int32) (x2 : Int32) (x3 : Int32) (x4 : Int32) (x5 : Int32) (x6 : Int32) (x7 : Int32) (x8 : Int32) (x9 : Int32)  : Option ((Int32 × Int32 × Int32 × Int32 × Int32) ⊕ (Int32 × Int32 × Int32 × Int32)) :=
  (if x7 = 0 then (f_L_isRope_J247 h (x0) (x1) (x2) (x3) (x4) (x5) (x6) (x8)) else (if x9 < 0 then ((f_L_arePhases h (x0) (x1) (x8)).bind fun q13 => (if q13 = 0 then (f_L_isRope_J247 h (x0) (x1) (x2) (x3) (x4) (x5) (x6) (x8)) else (f_L_isRope_J243 h (x0) (x1) (x2) (x3) (x4) (x5) (x6) (x8)))) else ((okL9 (f_X5_phases h (x0) (x1) (x8) ((0 : Int32)))).bind fun q14 => (if ¬ q14 = 0 then (f_L_isRope_J247 h (x0) (x1) (x2) (x3) (x4) (x5) (x6) (x8)) else (f_L_isRope_J243 h (x0) (x1) (x2) (x3) (x4) (x5) (x6) (x8))))))
def f_L_isRope_J186 (h : PH) (x0 : Nat) (x1 : Int32) (x2 : Int32) (x3 : Int32) (x4 : Int32) (x5 : Int32) (x6 : Int32) (x7 : Int32) (x8 : Int32) (x9 : Int32) (x11 : Int32)  : Option ((Int32 × Int32 × Int32 × Int32 × Int32) ⊕ (Int32 × Int32 × Int32 × Int32)) :=
  ((okL9 (f_X5_hueOf h (x0) (x1) (x8) ((3 : Int32)))).bind fun q15 => (f_L_isRope_J209 h (x0) (x1) (x2) ((x3 + x11)) ((x4 + 1)) ((x5 ||| ((1 : Int32) <<< (q15 &&& 31)))) (x6) (x7) (x8) (x9)))
def f_L_isRope_J178 (h : PH) (x0 : Nat) (x1 : Int32) (x2 : Int32) (x3 : Int32) (x4 : Int32) (x5 : Int32) (x6 : Int32) (x8 : Int32) (x9 : Int32) (x10 : Int32) (x11 : Int32) (x12 : Int32) (k0 : Int32) : Option ((Int32 × Int32) ⊕ (Int32)) :=
  some (.inl (k0, (x12 + 1)))
def f_L_isRope_L143 (hh : PH) (x0 : Nat) (x1 : Int32) (x2 : Int32) (x3 : Int32) (x4 : Int32) (x5 : Int32) (x6 : Int32) (x8 : Int32) (x9 : Int32) (x10 : Int32) (x11 : Int32) : Int32 × Int32 → Option ((Int32 × Int32) ⊕ (Int32)) := fun z143 =>
  (if x11 ≤ (z143.2) then some (.inr (((z143.1)))) else (if (z143.1) = 0 then some (.inr (((z143.1)))) else ((okL9 (f_X5_place hh (x0) (x1) ((x9 + ((z143.2) * x10))))).bind fun q17 => (if ¬ q17 = x8 then (f_L_isRope_J178 hh (x0) (x1) (x2) (x3) (x4) (x5) (x6) (x8) (x9) (x10) (x11) ((z143.2)) ((0 : Int32))) else (f_L_isRope_J178 hh (x0) (x1) (x2) (x3) (x4) (x5) (x6) (x8) (x9) (x10) (x11) ((z143.2)) ((1 : Int32)))))))
def f_L_isRope_J138 (h : PH) (x0 : Nat) (x1 : Int32) (x2 : Int32) (x3 : Int32) (x4 : Int32) (x5 : Int32) (x6 : Int32) (x8 : Int32) (x9 : Int32) (x10 : Int32) (x11 : Int32) (k0 : Int32) : Option ((Int32 × Int32 × Int32 × Int32 × Int32) ⊕ (Int32 × Int32 × Int32 × Int32)) :=
  ((lpn (f_L_isRope_L143 (h) (x0) (x1) (x2) (x3) (x4) (x5) (x6) (x8) (x9) (x10) (x11)) LF (k0, (0 : Int32))).bind (fun w143 => (f_L_isRope_J186 h (x0) (x1) (x2) (x3) (x4) (x5) (x6) (w143) (x8) (x9) (x11))))
def f_L_isRope_J137 (h : PH) (x0 : Nat) (x1 : Int32) (x2 : Int32) (x3 : Int32) (x4 : Int32) (x5 : Int32) (x6 : Int32) (x8 : Int32) (x9 : Int32) (x10 : Int32) (x11 : Int32)  : Option ((Int32 × Int32 × Int32 × Int32 × Int32) ⊕ (Int32 × Int32 × Int32 × Int32)) :=
  (f_L_isRope_J138 h (x0) (x1) (x2) (x3) (x4) (x5) (x6) (x8) (x9) (x10) (x11) ((0 : Int32)))
def f_L_isRope_L29 (hh : PH) (x0 : Nat) (x1 : Int32) (x2 : Int32) (x6 : Int32) : Int32 × Int32 × Int32 × Int32 × Int32 → Option ((Int32 × Int32 × Int32 × Int32 × Int32) ⊕ (Int32 × Int32 × Int32 × Int32)) := fun z29 =>
  (if (8 : Int32) ≤ (z29.2.2.2.2) then some (.inr (((z29.1), (z29.2.1), (z29.2.2.1), (z29.2.2.2.1)))) else (if (z29.2.2.2.1) = 0 then some (.inr (((z29.1), (z29.2.1), (z29.2.2.1), (z29.2.2.2.1)))) else ((okL9 (f_X5_hueOf hh (x0) (x1) ((z29.2.2.2.2)) ((0 : Int32)))).bind fun q18 => ((okL9 (f_X5_gapOf hh (x0) ((z29.2.2.2.2)))).bind fun q19 => ((okL9 (f_X5_hueOf hh (x0) (x1) ((z29.2.2.2.2)) ((1 : Int32)))).bind fun q20 => (if q18 < 0 then (f_L_isRope_J209 hh (x0) (x1) (x2) ((z29.1)) ((z29.2.1)) ((z29.2.2.1)) (x6) ((z29.2.2.2.1)) ((z29.2.2.2.2)) (q18)) else (if q19 ≤ q18 then (f_L_isRope_J137 hh (x0) (x1) (x2) ((z29.1)) ((z29.2.1)) ((z29.2.2.1)) (x6) ((z29.2.2.2.2)) (q18) (q19) (q20)) else (if x2 ≤ q18 then (f_L_isRope_J137 hh (x0) (x1) (x2) ((z29.1)) ((z29.2.1)) ((z29.2.2.1)) (x6) ((z29.2.2.2.2)) (q18) (q19) (q20)) else (if ¬ q19 = 0 then (if ¬ q20 = ((((x2 - q18) + q19) - (1 : Int32)) / q19) then (f_L_isRope_J137 hh (x0) (x1) (x2) ((z29.1)) ((z29.2.1)) ((z29.2.2.1)) (x6) ((z29.2.2.2.2)) (q18) (q19) (q20)) else ((okL9 (f_X5_hueOf hh (x0) (x1) ((z29.2.2.2.2)) ((2 : Int32)))).bind fun q22 => (if ¬ q22 = (q18 + ((q20 - (1 : Int32)) * q19)) then (f_L_isRope_J137 hh (x0) (x1) (x2) ((z29.1)) ((z29.2.1)) ((z29.2.2.1)) (x6) ((z29.2.2.2.2)) (q18) (q19) (q20)) else (if ¬ q19 = 0 then (if ¬ (x6 - x6 / q19 * q19) = 0 then (f_L_isRope_J137 hh (x0) (x1) (x2) ((z29.1)) ((z29.2.1)) ((z29.2.2.1)) (x6) ((z29.2.2.2.2)) (q18) (q19) (q20)) else (f_L_isRope_J138 hh (x0) (x1) (x2) ((z29.1)) ((z29.2.1)) ((z29.2.2.1)) (x6) ((z29.2.2.2.2)) (q18) (q19) (q20) ((1 : Int32)))) else none)))) else none)))))))))
def f_L_isRope (h : PH) (a0 : Nat) (a1 : Int32) : Option (Int32 × PH) :=
  ((okL9 (f_X5_ropeOf h (a0) (a1) ((0 : Int32)))).bind fun q10 => ((okL9 (f_X5_ropeOf h (a0) (a1) ((5 : Int32)))).bind fun q11 => ((lpn (f_L_isRope_L29 (h) (a0) (a1) (q10) (q11)) LF ((0 : Int32), (0 : Int32), (0 : Int32), (1 : Int32), (0 : Int32))).bind (fun w29 => (f_L_isRope_J256 h (a0) (a1) (q10) (w29.1) (w29.2.1) (w29.2.2.1) (q11) (w29.2.2.2))))))
def f_L_meets_J168 (h : PH)  (k0 : Int32) : Option Int32 :=
  (if z01 k0 = true then some (k0) else none)
def f_L_meets_J167 (h : PH)   : Option Int32 :=
  (f_L_meets_J168 h ((0 : Int32)))
def f_L_meets_J126 (h : PH) (x0 : Nat) (x2 : Int32) (x3 : Int32) (x4 : Int32) (x5 : Int32) (x6 : Int32) (x7 : Int32)  : Option Int32 :=
  (if ¬ x6 = x7 then (f_L_meets_J167 h ) else ((okL9 (f_X5_walked h (x0) (x2) (x4) (x3) (x5))).bind fun q2 => (if ¬ q2 = x7 then (f_L_meets_J167 h ) else ((okL9 (f_X5_meeting h (x0) (x3) (x5) (x2) (x4))).bind fun q3 => (if ¬ q3 = x7 then (f_L_meets_J167 h ) else (f_L_meets_J168 h ((1 : Int32))))))))
def f_L_meets_J118 (h : PH) (x0 : Nat) (x2 : Int32) (x3 : Int32) (x4 : Int32) (x5 : Int32) (x6 : Int32) (x8 : Int32) (k0 : Int32) : Option ((Int32 × Int32) ⊕ (Int32)) :=
  some (.inl (k0, (x8 + (-1))))
def f_L_meets_J116 (h : PH) (x0 : Nat) (x2 : Int32) (x3 : Int32) (x4 : Int32) (x5 : Int32) (x6 : Int32) (x7 : Int32) (x8 : Int32)  : Option ((Int32 × Int32) ⊕ (Int32)) :=
  (f_L_meets_J118 h (x0) (x2) (x3) (x4) (x5) (x6) (x8) (x7))
def f_L_meets_L64 (h : PH) (x0 : Nat) (x2 : Int32) (x3 : Int32) (x4 : Int32) (x5 : Int32) (x6 : Int32) : Int32 × Int32 → Option ((Int32 × Int32) ⊕ (Int32)) := fun z64 =>
  (if (z64.2) < 0 then some (.inr (((z64.1)))) else (if (z64.2) < x4 then (f_L_meets_J116 h (x0) (x2) (x3) (x4) (x5) (x6) ((z64.1)) ((z64.2))) else (if (z64.2) < x5 then (f_L_meets_J116 h (x0) (x2) (x3) (x4) (x5) (x6) ((z64.1)) ((z64.2))) else ((okL9 (f_X5_gapOf h (x0) (x2))).bind fun q12 => (if ¬ q12 = 0 then (if ¬ (((z64.2) - x4) - ((z64.2) - x4) / q12 * q12) = 0 then (f_L_meets_J116 h (x0) (x2) (x3) (x4) (x5) (x6) ((z64.1)) ((z64.2))) else ((okL9 (f_X5_gapOf h (x0) (x3))).bind fun q14 => (if ¬ q14 = 0 then (if ¬ (((z64.2) - x5) - ((z64.2) - x5) / q14 * q14) = 0 then (f_L_meets_J116 h (x0) (x2) (x3) (x4) (x5) (x6) ((z64.1)) ((z64.2))) else (f_L_meets_J118 h (x0) (x2) (x3) (x4) (x5) (x6) ((z64.2)) ((z64.2)))) else none))) else none)))))
def f_L_meets (h : PH) (a0 : Nat) (a1 : Int32) : Option Int32 :=
  ((f_L_low h (a1) ((8 : Int32))).bind fun v4 => ((f_L_low h ((a1 >>> ((3 : Int32) &&& 31))) ((8 : Int32))).bind fun v5 => ((okL9 (f_X5_gapOf h (a0) (v4))).bind fun q6 => ((f_L_low h ((a1 >>> ((6 : Int32) &&& 31))) (q6)).bind fun v7 => ((okL9 (f_X5_gapOf h (a0) (v5))).bind fun q8 => ((f_L_low h ((a1 >>> ((11 : Int32) &&& 31))) (q8)).bind fun v9 => ((okL9 (f_X5_meeting h (a0) (v4) (v7) (v5) (v9))).bind fun q10 => ((lpn (f_L_meets_L64 (h) (a0) (v4) (v5) (v7) (v9) (q10)) LF (((-1) : Int32), (799 : Int32))).bind (fun w64 => (f_L_meets_J126 h (a0) (v4) (v5) (v7) (v9) (q10) (w64)))))))))))
def f_L_holds_J106 (hh : PH)  (k0 : Int32) : Option (Int32 × PH) :=
  (if z01 k0 = true then some (k0, hh) else none)
def f_L_holds_J105 (hh : PH)   : Option (Int32 × PH) :=
  (f_L_holds_J106 hh ((0 : Int32)))
def f_L_holds_J97 (hh : PH)  (k0 : UInt64) (k1 : UInt64) : Option (Int32 × PH) :=
  (if ¬ (Op.cmpValue (FP.dcmp k0 k1) .l) = 0 then (f_L_holds_J105 hh ) else (f_L_holds_J106 hh ((1 : Int32))))
def f_L_holds_J56 (hh : PH) (x0 : Nat) (x1 : Int32) (x2 : Int32) (x3 : Int32)  : Option (Int32 × PH) :=
  (if x3 = 0 then (f_L_holds_J105 hh ) else ((okL9 (f_X5_count hh (x0) ((1 : Int32)))).bind fun q2 => (if ¬ x1 = q2 then (f_L_holds_J105 hh ) else ((okL9 (f_X5_count hh (x0) ((2 : Int32)))).bind fun q3 => (if ¬ x2 = q3 then (f_L_holds_J105 hh ) else ((f_X5_fullness hh (x0)).bind fun q4 => (if ¬ x1 = 0 then (if nn64 (FP.ddiv (FP.i2d (x1 - x2)) (FP.i2d x1)) = true then (f_L_holds_J97 hh (q4) ((FP.ddiv (FP.i2d (x1 - x2)) (FP.i2d x1)))) else none) else (f_L_holds_J97 hh (q4) (FP.dconst1)))))))))
def f_L_holds_L9 (x0 : Nat) : Int32 × Int32 × Int32 × Int32 × PH → Option ((Int32 × Int32 × Int32 × Int32 × PH) ⊕ (Int32 × Int32 × Int32 × PH)) := fun z9 =>
  ((okL9 (f_X5_count (z9.2.2.2.2) (x0) ((0 : Int32)))).bind fun q7 => (if q7 ≤ (z9.2.2.2.1) then some (.inr (((z9.1), (z9.2.1), (z9.2.2.1), (z9.2.2.2.2)))) else (if (z9.2.2.1) = 0 then some (.inr (((z9.1), (z9.2.1), (z9.2.2.1), (z9.2.2.2.2)))) else ((f_L_isRope (z9.2.2.2.2) (x0) ((z9.2.2.2.1))).bind fun q8 => ((okL9 (f_X5_ropeOf q8.2 (x0) ((z9.2.2.2.1)) ((0 : Int32)))).bind fun q9 => ((okL9 (f_X5_ropeOf q8.2 (x0) ((z9.2.2.2.1)) ((2 : Int32)))).bind fun q10 => some (.inl (((z9.1) + q9), ((z9.2.1) + q10), q8.1, ((z9.2.2.2.1) + 1), q8.2))))))))
def f_L_holds (h : PH) (a0 : Nat) : Option (Int32 × PH) :=
  ((lpn (f_L_holds_L9 (a0)) LF ((0 : Int32), (0 : Int32), (1 : Int32), (0 : Int32), h)).bind (fun w9 => (f_L_holds_J56 (w9.2.2.2) (a0) (w9.1) (w9.2.1) (w9.2.2.1))))
def f_L_law_J208 (xs : Nat → Int32) (lL : Nat) (hh : PH) (x2 : Int32)  : Option Int32 :=
  some (x2)
def f_L_law_J202 (xs : Nat → Int32) (lL : Nat) (hh : PH) (x1 : Nat) (x2 : Int32) (x3 : Int32) (x4 : Int32)  : Option ((Int32 × Int32 × PH) ⊕ (Int32 × PH)) :=
  some (.inl (x2, (x4 + 1), hh))
def f_L_law_J201 (xs : Nat → Int32) (lL : Nat) (hh : PH) (x1 : Nat) (x3 : Int32) (x4 : Int32) (k201_0 : Int32) : Option ((Int32 × Int32 × PH) ⊕ (Int32 × PH)) :=
  (f_L_law_J202 xs lL hh (x1) (k201_0) (x3) (x4))
def f_L_law_J200 (xs : Nat → Int32) (lL : Nat) (hh : PH) (x1 : Nat) (x3 : Int32) (x4 : Int32)  : Option ((Int32 × Int32 × PH) ⊕ (Int32 × PH)) :=
  (f_L_law_J201 xs lL hh (x1) (x3) (x4) ((0 : Int32)))
def f_L_law_J139 (xs : Nat → Int32) (lL : Nat) (hh : PH) (x1 : Nat) (x3 : Int32) (x4 : Int32) (x5 : Int32) (x6 : Int32) (k139_0 : Int32) : Option ((Int32 × Int32 × PH) ⊕ (Int32 × PH)) :=
  (if k139_0 = 0 then (f_L_law_J202 xs lL hh (x1) (k139_0) (x3) (x4)) else (if ¬ (6 : Int32) = 0 then (if ¬ (x4 - x4 / (6 : Int32) * (6 : Int32)) = (5 : Int32) then (f_L_law_J202 xs lL hh (x1) (k139_0) (x3) (x4)) else ((okL9 (f_X5_count hh (x1) ((2 : Int32)))).bind fun q3 => ((okW (f_X5_restore hh (x1))).bind fun q4 => (if ¬ q4.1 = x5 then (f_L_law_J200 xs lL q4.2 (x1) (x3) (x4)) else ((okL9 (f_X5_count q4.2 (x1) ((2 : Int32)))).bind fun q5 => (if ¬ q5 = x6 then (f_L_law_J200 xs lL q4.2 (x1) (x3) (x4)) else ((okW (f_X5_undo q4.2 (x1))).bind fun q6 => (if q6.1 < 0 then (f_L_law_J200 xs lL q6.2 (x1) (x3) (x4)) else ((okL9 (f_X5_count q6.2 (x1) ((2 : Int32)))).bind fun q7 => (if ¬ q7 = q3 then (f_L_law_J200 xs lL q6.2 (x1) (x3) (x4)) else (f_L_law_J201 xs lL q6.2 (x1) (x3) (x4) ((1 : Int32))))))))))))) else none))
def f_L_law_J138 (xs : Nat → Int32) (lL : Nat) (hh : PH) (x1 : Nat) (x3 : Int32) (x4 : Int32) (x5 : Int32) (x6 : Int32)  : Option ((Int32 × Int32 × PH) ⊕ (Int32 × PH)) :=
  (f_L_law_J139 xs lL hh (x1) (x3) (x4) (x5) (x6) ((0 : Int32)))
def f_L_law_L52 (xs : Nat → Int32) (lL : Nat) (x1 : Nat) (x3 : Int32) : Int32 × Int32 × PH → Option ((Int32 × Int32 × PH) ⊕ (Int32 × PH)) := fun z52 =>
  (if x3 ≤ (z52.2.1) then some (.inr (((z52.1), (z52.2.2)))) else (if (z52.1) = 0 then some (.inr (((z52.1), (z52.2.2)))) else ((okL9 (f_X5_count (z52.2.2) (x1) ((0 : Int32)))).bind fun q8 => ((okL9 (f_X5_count (z52.2.2) (x1) ((2 : Int32)))).bind fun q9 => ((f_X5_keep (z52.2.2) (x1)).bind fun q10 => (if ¬ q10.1 = q8 then (f_L_law_J138 xs lL q10.2 (x1) (x3) ((z52.2.1)) (q8) (q9)) else ((f_L_cell xs lL (((2 : Int32) * (z52.2.1)))).bind fun v11 => ((f_L_cell xs lL ((((2 : Int32) * (z52.2.1)) + (1 : Int32)))).bind fun v12 => ((f_L_change q10.2 (x1) (v11) (v12)).bind fun q13 => (if q13.1 = 0 then (f_L_law_J138 xs lL q13.2 (x1) (x3) ((z52.2.1)) (q8) (q9)) else ((f_L_holds q13.2 (x1)).bind fun q14 => (if q14.1 = 0 then (f_L_law_J138 xs lL q14.2 (x1) (x3) ((z52.2.1)) (q8) (q9)) else ((f_L_cell xs lL ((((2 : Int32) * (z52.2.1)) + (1 : Int32)))).bind fun v15 => ((f_L_meets q14.2 (x1) (v15)).bind fun q16 => (if q16 = 0 then (f_L_law_J138 xs lL q14.2 (x1) (x3) ((z52.2.1)) (q8) (q9)) else (f_L_law_J139 xs lL q14.2 (x1) (x3) ((z52.2.1)) (q8) (q9) ((1 : Int32))))))))))))))))))
def f_L_law_J48 (xs : Nat → Int32) (lL : Nat) (hh : PH) (x1 : Nat) (x2 : Int32) (k48_0 : Int32) : Option Int32 :=
  ((lpn (f_L_law_L52 xs lL (x1) (k48_0)) 40 (x2, (0 : Int32), hh)).bind (fun w52 => (f_L_law_J208 xs lL (w52.2) (w52.1))))
def f_L_law_J29 (xs : Nat → Int32) (lL : Nat) (hh : PH) (x1 : Nat) (k29_0 : Int32) : Option Int32 :=
  (if ¬ (2 : Int32) = 0 then (if ((Int32.ofNat lL) / (2 : Int32)) ≤ (36 : Int32) then (if ¬ (2 : Int32) = 0 then (f_L_law_J48 xs lL hh (x1) (k29_0) (((Int32.ofNat lL) / (2 : Int32)))) else none) else (f_L_law_J48 xs lL hh (x1) (k29_0) ((36 : Int32)))) else none)
def f_L_law_J28 (xs : Nat → Int32) (lL : Nat) (hh : PH) (x1 : Nat)  : Option Int32 :=
  (f_L_law_J29 xs lL hh (x1) ((0 : Int32)))
def f_L_law (xs : Nat → Int32) (lL : Nat) (h1 : PH) (a1 : Nat) : Option Int32 :=
  ((f_L_holds h1 (a1)).bind fun q19 => (if q19.1 = 0 then (f_L_law_J28 xs lL q19.2 (a1)) else ((okL9 (f_X5_count q19.2 (a1) ((7 : Int32)))).bind fun q20 => (if ¬ q20 = 0 then (f_L_law_J28 xs lL q19.2 (a1)) else (f_L_law_J29 xs lL q19.2 (a1) ((1 : Int32)))))))
