/-! METHODS THAT THROW -/
def strs : List (String × Nat × String) := [("PennantRopes", 50, "the gap is out of range"), ("PennantRopes", 61, "the hue is laid on some rope"), ("PennantRopes", 103, "the hue cannot be laid"), ("PennantRopes", 112, "the hue is not laid there"), ("PennantRopes", 121, "two hues would take one place"), ("PennantRopes", 133, "the place is out of range"), ("PennantRopes", 149, "the ropes cannot be joined"), ("PennantRopes", 195, "there is no saved state"), ("PennantRopes", 202, "there is no snapshot"), ("PennantRopes", 206, "there is no such place"), ("PennantRopes", 271, "there is no such rope"), ("PennantRopes", 273, "there is no such hue"), ("PennantRopes", 275, "the phase is out of range"), ("PennantRopes", 277, "the length is out of range"), ("PennantRopes", 279, "there is no such number"), ("PennantRopes", 281, "there are 4 ropes")]
abbrev eIA : String := "java/lang/IllegalArgumentException"
abbrev eIS : String := "java/lang/IllegalStateException"
abbrev eIO : String := "java/lang/IndexOutOfBoundsException"
def exns : List String := [eIA, eIS, eIO]
abbrev sup9 : List String := ["java/lang/RuntimeException", "java/lang/Exception"]
abbrev sup10 : List String := ["java/lang/RuntimeException", "java/lang/Exception", Bundle.tN]
/-- what a throw needs of the launch, of the tables and of the heap -/
def TX (l : Launch) (A : Nat → Prop) (U : State) (H : Heap) : Prop := l.stackTraces = false ∧ vx_Zq Bundle.tN "UNASSIGNED_STACK" Bundle.steD A U H ∧ vx_Zq Bundle.tN "SUPPRESSED_SENTINEL" Bundle.listD A U H ∧ (∀ q ∈ strs, ∃ sa, vk_R q.1 q.2.1 q.2.2 sa U) ∧ (∀ E ∈ exns, va_Nw (.castable E E) U) ∧ ∀ Y ∈ sup10, va_Nw (.declares (Bundle.initS Y)) U
theorem TX.warm {l : Launch} {A : Nat → Prop} {u U : State} {H : Heap} (hW : u.WarmedH U.vm) (h : TX l A u H) : TX l A U H :=
  ⟨h.1, vx_Zq.moved hW.alike h.2.1, vx_Zq.moved hW.alike h.2.2.1, fun q hq => by obtain ⟨sa, z⟩ := h.2.2.2.1 q hq; exact ⟨sa, vk_R.warm hW z⟩, fun E hE => va_Nw.warmC hW (h.2.2.2.2.1 E hE), fun Y hY => va_Nw.warmD hW (h.2.2.2.2.2 Y hY)⟩
theorem TX.kept {l : Launch} {A : Nat → Prop} {U : State} {H H1 : Heap} (h : TX l A U H) (hq : ∀ a : Nat, a < H.size → ¬ A a → H1[a]? = H[a]?) : TX l A U H1 :=
  ⟨h.1, h.2.1.kept hq, h.2.2.1.kept hq, h.2.2.2⟩
theorem TX.narrow {l : Launch} {A B : Nat → Prop} {U : State} {H : Heap} (h : TX l A U H) (hAB : ∀ q, B q → A q) : TX l B U H :=
  ⟨h.1, h.2.1.narrow hAB, h.2.2.1.narrow hAB, h.2.2.2⟩
def WPreX (l : Launch) (g : GC) (X : va_W) (h : PH) (sz : Nat) (U : State) : Prop := WPre g X h sz U ∧ TX l (AF X h sz) U U.heap
theorem WPreX.blind {l : Launch} {g : GC} {X : va_W} {h : PH} {sz : Nat} {av : List Value} : FrameBlind (va_Pc av (WPreX l g X h sz)) :=
  fun a U k mk q => ⟨q.1, (WPre.blind a U k mk ⟨q.1, q.2.1⟩).2, TX.warm (u := U) (U := U.calling k mk a) (State.WarmedH.refl U) q.2.2⟩
abbrev RX : Type := Except (String × PH) (Option Value × PH)
def cN (r : RX) : Nat := match r with
  | .ok _ => 0
  | .error _ => 1
def cS (r : RX) : Nat := match r with
  | .ok _ => 0
  | .error _ => 6
def QX (g : GC) (X : va_W) (h : PH) (sz : Nat) (r : RX) : Array Value → State → Outcome → State → Prop := fun a st oc t => ∃ (o : Option Value) (h' : PH), r = .ok (o, h') ∧ QW g X h sz o h' a st oc t
def XX (g : GC) (X : va_W) (h : PH) (sz : Nat) (r : RX) : String → State → State → Prop := fun E st t => ∃ hx, r = .error (E, hx) ∧ (WW g (AF X h sz) X hx t.heap ∧ va_K g.1 vwCl (wty g) t) ∧ va_F (AF X h sz) st t
def CX (l : Launch) (y : MethodName) (b : ByteArray) (n : Nat) (ret : Option FieldType) (fr lo : Nat) (av : List Value) (h : PH) (r : RX) : Prop :=
  ∀ (g : GC) (X : va_W) (sz : Nat), vx_Met l y (Cond.code y b n ret :: wsL_law) ({ frames := fr, cells := cN r, slots := cS r, locals := lo } : Room) (va_Pc av (WPreX l g X h sz)) (QX g X h sz r) (XX g X h sz r) (cN r) (cS r) (AF X h sz)
def xV (h : PH) (r : Except String Unit) : RX := match r with
  | .ok _ => .ok (none, h)
  | .error E => .error (E, h)
def xI (h : PH) (r : Except String Int32) : RX := match r with
  | .ok v => .ok (some (.int v), h)
  | .error E => .error (E, h)
def xA (h : PH) (r : Except String Nat) : RX := match r with
  | .ok v => .ok (some (va_rf (some v)), h)
  | .error E => .error (E, h)
def xIW (r : Except (String × PH) (Int32 × PH)) : RX := match r with
  | .ok v => .ok (some (.int v.1), v.2)
  | .error E => .error E
theorem CX.of {l : Launch} {y : MethodName} {b : ByteArray} {n : Nat} {ret : Option FieldType} {fr lo : Nat} {av : List Value} {h : PH} {r : RX} {own : String} (hown : own = y.cls) (hy : plainName y.cls = true) (hlen : (lg_sl av).length ≤ n)
    (body : ∀ (p : Program) (e : Env) (R : Room) (s : State) (m : MethodId) (args : Array Value) (below : List Frame) (meth : Method) (c : Code) (g : GC) (X : va_W), R = ({ frames := fr, cells := cN r, slots := cS r, locals := lo } : Room) → Cx p s m args meth c b n own ret g → TX l (AF X h s.heap.size) s s.heap → (∀ x ∈ c.exceptionTable.toList, False) →
      G p l e R s m args below meth c n g X h 0 0 (vx_MQ below (QX g X h s.heap.size r) (XX g X h s.heap.size r) args s (cN r) (cS r) (AF X h s.heap.size)) 0 (lv_args 0 av) [] h) : CX l y b n ret fr lo av h r := by
  intro g X sz
  refine vx_ofW (cc := b) (maxL := n) (ret := ret) hy rfl ?_
  intro p e s m args below meth c s₁ B hml htab hv
  obtain ⟨rfl, ⟨hsz, hW, hK⟩, hT⟩ := hv
  have hts := atoms_spec (ws := Cond.code y b n ret :: wsL_law) B.pre
  subst hsz
  have hl := lv_entry av (n := n) hlen
  rw [lg_entry_eq]
  exact body p e _ s m av.toArray below meth c g X rfl ⟨B.exec, B.bytes, hml, B.returns, by rw [hown]; exact findClass_of_methodNamed B.named, fun w hw => hts w (List.mem_cons_of_mem _ hw), B.notSynchronized, hK⟩ hT htab s.heap [] _ (hW.self _) va_S.rf hl
theorem WW.kept {g : GC} {A : Nat → Prop} {X : va_W} {h : PH} {H H1 : Heap} (hW : WW g A X h H) (hq : ∀ q : Nat, q < H.size → H1[q]? = H[q]?) : WW g A X h H1 := by
  obtain ⟨L, f, h1, hP, hD⟩ := hW
  exact ⟨L, f, h1, hP.kept (fun k q hk => hq q.1 (hP k q hk).lt), hD⟩

theorem at_IA_in : ∀ w ∈ (vx_atS RX5 52 eIA sup9).filter goodWord, w ∈ wsL_law := fun w h => List.mem_append_left _ (List.mem_append_left _ (List.mem_append_right _ h))
theorem at_IA_bad : ∀ w ∈ (vx_atS RX5 52 eIA sup9).filter (fun w => !goodWord w), w ∈ [Cond.castable eIA eIA, Cond.declares (Bundle.initS "java/lang/RuntimeException"), Cond.declares (Bundle.initS "java/lang/Exception"), Cond.declares (Bundle.initS Bundle.tN)] := by decide +kernel
theorem at_IA_good : ∀ w ∈ vx_atS RX5 52 eIA sup9, vx_ot w = true := List.all_eq_true.mp (by decide +kernel)
theorem at_IA {args : Array Value} {s : State} (h1 : ∀ w ∈ wsL_law, w.before args s = true) (h2 : va_Nw (.castable eIA eIA) s) (h3 : ∀ Y ∈ sup10, va_Nw (.declares (Bundle.initS Y)) s) : ∀ w ∈ vx_atS RX5 52 eIA sup9, w.before args s = true :=
  vx_hat (fun w hw => h1 w (at_IA_in w hw)) at_IA_bad (vx_c (va_Nw.use rfl h2) (vx_c (va_Nw.use rfl (h3 _ (by decide +kernel))) (vx_c (va_Nw.use rfl (h3 _ (by decide +kernel))) (vx_c (va_Nw.use rfl (h3 _ (by decide +kernel))) vx_n))))
theorem at_IS_in : ∀ w ∈ (vx_atS RX5 63 eIS sup9).filter goodWord, w ∈ wsL_law := fun w h => List.mem_append_right _ h
theorem at_IS_bad : ∀ w ∈ (vx_atS RX5 63 eIS sup9).filter (fun w => !goodWord w), w ∈ [Cond.castable eIS eIS, Cond.declares (Bundle.initS "java/lang/RuntimeException"), Cond.declares (Bundle.initS "java/lang/Exception"), Cond.declares (Bundle.initS Bundle.tN)] := by decide +kernel
theorem at_IS_good : ∀ w ∈ vx_atS RX5 63 eIS sup9, vx_ot w = true := List.all_eq_true.mp (by decide +kernel)
theorem at_IS {args : Array Value} {s : State} (h1 : ∀ w ∈ wsL_law, w.before args s = true) (h2 : va_Nw (.castable eIS eIS) s) (h3 : ∀ Y ∈ sup10, va_Nw (.declares (Bundle.initS Y)) s) : ∀ w ∈ vx_atS RX5 63 eIS sup9, w.before args s = true :=
  vx_hat (fun w hw => h1 w (at_IS_in w hw)) at_IS_bad (vx_c (va_Nw.use rfl h2) (vx_c (va_Nw.use rfl (h3 _ (by decide +kernel))) (vx_c (va_Nw.use rfl (h3 _ (by decide +kernel))) (vx_c (va_Nw.use rfl (h3 _ (by decide +kernel))) vx_n))))
theorem at_IO_in : ∀ w ∈ (vx_atS RX5 208 eIO sup9).filter goodWord, w ∈ wsL_law := fun w h => List.mem_append_left _ (List.mem_append_right _ h)
theorem at_IO_bad : ∀ w ∈ (vx_atS RX5 208 eIO sup9).filter (fun w => !goodWord w), w ∈ [Cond.castable eIO eIO, Cond.declares (Bundle.initS "java/lang/RuntimeException"), Cond.declares (Bundle.initS "java/lang/Exception"), Cond.declares (Bundle.initS Bundle.tN)] := by decide +kernel
theorem at_IO_good : ∀ w ∈ vx_atS RX5 208 eIO sup9, vx_ot w = true := List.all_eq_true.mp (by decide +kernel)
theorem at_IO {args : Array Value} {s : State} (h1 : ∀ w ∈ wsL_law, w.before args s = true) (h2 : va_Nw (.castable eIO eIO) s) (h3 : ∀ Y ∈ sup10, va_Nw (.declares (Bundle.initS Y)) s) : ∀ w ∈ vx_atS RX5 208 eIO sup9, w.before args s = true :=
  vx_hat (fun w hw => h1 w (at_IO_in w hw)) at_IO_bad (vx_c (va_Nw.use rfl h2) (vx_c (va_Nw.use rfl (h3 _ (by decide +kernel))) (vx_c (va_Nw.use rfl (h3 _ (by decide +kernel))) (vx_c (va_Nw.use rfl (h3 _ (by decide +kernel))) vx_n))))
section GX9
variable {p : Program} {l : Launch} {e : Env} {R : Room} {s : State} {m : MethodId} {args : Array Value} {below : List Frame} {meth : Method} {c : Code} {n : Nat} {g : GC} {X : va_W} {h0 h : PH} {pc : Nat} {lv : List (Nat × Value)} {st : List Value} {b : ByteArray} {own : String} {ret : Option FieldType} {r : RX}
theorem G.retX {o : Option Value} {h1 : PH} (hr : r = .ok (o, h1)) (k : G p l e R s m args below meth c n g X h0 0 0 (MQ below (QW g X h0 s.heap.size o h1) args s 0 0 (AF X h0 s.heap.size)) (pc) lv (st) h) : G p l e R s m args below meth c n g X h0 0 0 (vx_MQ below (QX g X h0 s.heap.size r) (XX g X h0 s.heap.size r) args s (cN r) (cS r) (AF X h0 s.heap.size)) (pc) lv (st) h := by
  subst hr
  intro H locs ls hW hS hl T hT X9
  obtain ⟨t, a1, o9, b1, b2, b3, b4⟩ := k H locs ls hW hS hl T hT X9
  exact ⟨t, a1, o9, b1, b2, Or.inl ⟨⟨o, h1, rfl, b3⟩, b4⟩⟩
theorem G.throwIA (C : Cx p s m args meth c b n RX5 ret g) (TT : TX l (AF X h0 s.heap.size) s s.heap) (tab : ∀ x ∈ c.exceptionTable.toList, False) {ik is : Nat} {text : String} (hr : r = .error (eIA, h)) (w1 : Cond.classLink RX5 ik eIA ∈ wsL_law) (w2 : Cond.initialized eIA ∈ wsL_law) (hs : (RX5, is, text) ∈ strs)
    (d0 : decode b pc = .ok (.new ik, 3)) (d3 : decode b (pc + 3) = .ok (.dup, 1)) (d4 : decode b (pc + 4) = .ok (.ldc is, 2)) (d6 : decode b (pc + 6) = .ok (.invokespecial 52, 3)) (d9 : decode b (pc + 9) = .ok (.athrow, 1))
    (hfr : 5 < R.frames) (hlo : (st.map fun v => v.category).sum + 82 ≤ R.locals) (hRc : R.cells = cN r ∧ R.slots = cS r) : G p l e R s m args below meth c n g X h0 0 0 (vx_MQ below (QX g X h0 s.heap.size r) (XX g X h0 s.heap.size r) args s (cN r) (cS r) (AF X h0 s.heap.size)) (pc) lv (st) h := by
  subst hr
  intro H locs ls hW hS hl
  obtain ⟨hl9, hU, hN, hstr, hcast, hdecl⟩ := TT
  obtain ⟨sa, hsa⟩ := hstr _ hs
  refine vx_throwS (names := sup9) (A := AF X h0 s.heap.size) C.1 C.2.1 hl9 C.2.2.2.2.1 (by decide +kernel) (by decide +kernel) (C.2.2.2.2.2.1 _ w1) (C.2.2.2.2.2.1 _ w2) hsa (at_IA C.2.2.2.2.2.1 (hcast _ (by decide +kernel)) hdecl) (fun w hw => ?_) hU hN hS (hl.1.trans C.2.2.1.symm) d0 d3 d4 d6 d9 (fun x hx => (tab x hx).elim) hfr hlo (by rw [hRc.1]; exact Nat.le_refl 1) (by rw [hRc.2]; exact Nat.le_refl 6) C.2.2.2.2.2.2.1 (fun t hvm hz hk => ?_) hS.2.2 (Nat.le_refl 1) (Nat.le_refl 6)
  · rcases List.mem_cons.mp hw with rfl | hw
    · rfl
    · rcases List.mem_cons.mp hw with rfl | hw
      · rfl
      · exact at_IA_good w hw
  · exact ⟨h, rfl, ⟨hW.kept hk, va_K.moved hvm C.2.2.2.2.2.2.2⟩, Nat.le_trans hS.1 hz, fun q h1 h2 => (hk q (Nat.lt_of_lt_of_le h1 hS.1)).trans (hS.2.1 q h1 h2)⟩
theorem G.throwIAw (C : Cx p s m args meth c b n RX5 ret g) (TT : TX l (AF X h0 s.heap.size) s s.heap) (tab : ∀ x ∈ c.exceptionTable.toList, False) {ik is : Nat} {text : String} (hr : r = .error (eIA, h)) (w1 : Cond.classLink RX5 ik eIA ∈ wsL_law) (w2 : Cond.initialized eIA ∈ wsL_law) (hs : (RX5, is, text) ∈ strs)
    (d0 : decode b pc = .ok (.new ik, 3)) (d3 : decode b (pc + 3) = .ok (.dup, 1)) (d4 : decode b (pc + 4) = .ok (.ldc_w is, 3)) (d6 : decode b (pc + 7) = .ok (.invokespecial 52, 3)) (d9 : decode b (pc + 10) = .ok (.athrow, 1))
    (hfr : 5 < R.frames) (hlo : (st.map fun v => v.category).sum + 82 ≤ R.locals) (hRc : R.cells = cN r ∧ R.slots = cS r) : G p l e R s m args below meth c n g X h0 0 0 (vx_MQ below (QX g X h0 s.heap.size r) (XX g X h0 s.heap.size r) args s (cN r) (cS r) (AF X h0 s.heap.size)) (pc) lv (st) h := by
  subst hr
  intro H locs ls hW hS hl
  obtain ⟨hl9, hU, hN, hstr, hcast, hdecl⟩ := TT
  obtain ⟨sa, hsa⟩ := hstr _ hs
  refine vx_throwSW (names := sup9) (A := AF X h0 s.heap.size) C.1 C.2.1 hl9 C.2.2.2.2.1 (by decide +kernel) (by decide +kernel) (C.2.2.2.2.2.1 _ w1) (C.2.2.2.2.2.1 _ w2) hsa (at_IA C.2.2.2.2.2.1 (hcast _ (by decide +kernel)) hdecl) (fun w hw => ?_) hU hN hS (hl.1.trans C.2.2.1.symm) d0 d3 d4 d6 d9 (fun x hx => (tab x hx).elim) hfr hlo (by rw [hRc.1]; exact Nat.le_refl 1) (by rw [hRc.2]; exact Nat.le_refl 6) C.2.2.2.2.2.2.1 (fun t hvm hz hk => ?_) hS.2.2 (Nat.le_refl 1) (Nat.le_refl 6)
  · rcases List.mem_cons.mp hw with rfl | hw
    · rfl
    · rcases List.mem_cons.mp hw with rfl | hw
      · rfl
      · exact at_IA_good w hw
  · exact ⟨h, rfl, ⟨hW.kept hk, va_K.moved hvm C.2.2.2.2.2.2.2⟩, Nat.le_trans hS.1 hz, fun q h1 h2 => (hk q (Nat.lt_of_lt_of_le h1 hS.1)).trans (hS.2.1 q h1 h2)⟩
theorem G.throwIS (C : Cx p s m args meth c b n RX5 ret g) (TT : TX l (AF X h0 s.heap.size) s s.heap) (tab : ∀ x ∈ c.exceptionTable.toList, False) {ik is : Nat} {text : String} (hr : r = .error (eIS, h)) (w1 : Cond.classLink RX5 ik eIS ∈ wsL_law) (w2 : Cond.initialized eIS ∈ wsL_law) (hs : (RX5, is, text) ∈ strs)
    (d0 : decode b pc = .ok (.new ik, 3)) (d3 : decode b (pc + 3) = .ok (.dup, 1)) (d4 : decode b (pc + 4) = .ok (.ldc is, 2)) (d6 : decode b (pc + 6) = .ok (.invokespecial 63, 3)) (d9 : decode b (pc + 9) = .ok (.athrow, 1))
    (hfr : 5 < R.frames) (hlo : (st.map fun v => v.category).sum + 82 ≤ R.locals) (hRc : R.cells = cN r ∧ R.slots = cS r) : G p l e R s m args below meth c n g X h0 0 0 (vx_MQ below (QX g X h0 s.heap.size r) (XX g X h0 s.heap.size r) args s (cN r) (cS r) (AF X h0 s.heap.size)) (pc) lv (st) h := by
  subst hr
  intro H locs ls hW hS hl
  obtain ⟨hl9, hU, hN, hstr, hcast, hdecl⟩ := TT
  obtain ⟨sa, hsa⟩ := hstr _ hs
  refine vx_throwS (names := sup9) (A := AF X h0 s.heap.size) C.1 C.2.1 hl9 C.2.2.2.2.1 (by decide +kernel) (by decide +kernel) (C.2.2.2.2.2.1 _ w1) (C.2.2.2.2.2.1 _ w2) hsa (at_IS C.2.2.2.2.2.1 (hcast _ (by decide +kernel)) hdecl) (fun w hw => ?_) hU hN hS (hl.1.trans C.2.2.1.symm) d0 d3 d4 d6 d9 (fun x hx => (tab x hx).elim) hfr hlo (by rw [hRc.1]; exact Nat.le_refl 1) (by rw [hRc.2]; exact Nat.le_refl 6) C.2.2.2.2.2.2.1 (fun t hvm hz hk => ?_) hS.2.2 (Nat.le_refl 1) (Nat.le_refl 6)
  · rcases List.mem_cons.mp hw with rfl | hw
    · rfl
    · rcases List.mem_cons.mp hw with rfl | hw
      · rfl
      · exact at_IS_good w hw
  · exact ⟨h, rfl, ⟨hW.kept hk, va_K.moved hvm C.2.2.2.2.2.2.2⟩, Nat.le_trans hS.1 hz, fun q h1 h2 => (hk q (Nat.lt_of_lt_of_le h1 hS.1)).trans (hS.2.1 q h1 h2)⟩
theorem G.throwISw (C : Cx p s m args meth c b n RX5 ret g) (TT : TX l (AF X h0 s.heap.size) s s.heap) (tab : ∀ x ∈ c.exceptionTable.toList, False) {ik is : Nat} {text : String} (hr : r = .error (eIS, h)) (w1 : Cond.classLink RX5 ik eIS ∈ wsL_law) (w2 : Cond.initialized eIS ∈ wsL_law) (hs : (RX5, is, text) ∈ strs)
    (d0 : decode b pc = .ok (.new ik, 3)) (d3 : decode b (pc + 3) = .ok (.dup, 1)) (d4 : decode b (pc + 4) = .ok (.ldc_w is, 3)) (d6 : decode b (pc + 7) = .ok (.invokespecial 63, 3)) (d9 : decode b (pc + 10) = .ok (.athrow, 1))
    (hfr : 5 < R.frames) (hlo : (st.map fun v => v.category).sum + 82 ≤ R.locals) (hRc : R.cells = cN r ∧ R.slots = cS r) : G p l e R s m args below meth c n g X h0 0 0 (vx_MQ below (QX g X h0 s.heap.size r) (XX g X h0 s.heap.size r) args s (cN r) (cS r) (AF X h0 s.heap.size)) (pc) lv (st) h := by
  subst hr
  intro H locs ls hW hS hl
  obtain ⟨hl9, hU, hN, hstr, hcast, hdecl⟩ := TT
  obtain ⟨sa, hsa⟩ := hstr _ hs
  refine vx_throwSW (names := sup9) (A := AF X h0 s.heap.size) C.1 C.2.1 hl9 C.2.2.2.2.1 (by decide +kernel) (by decide +kernel) (C.2.2.2.2.2.1 _ w1) (C.2.2.2.2.2.1 _ w2) hsa (at_IS C.2.2.2.2.2.1 (hcast _ (by decide +kernel)) hdecl) (fun w hw => ?_) hU hN hS (hl.1.trans C.2.2.1.symm) d0 d3 d4 d6 d9 (fun x hx => (tab x hx).elim) hfr hlo (by rw [hRc.1]; exact Nat.le_refl 1) (by rw [hRc.2]; exact Nat.le_refl 6) C.2.2.2.2.2.2.1 (fun t hvm hz hk => ?_) hS.2.2 (Nat.le_refl 1) (Nat.le_refl 6)
  · rcases List.mem_cons.mp hw with rfl | hw
    · rfl
    · rcases List.mem_cons.mp hw with rfl | hw
      · rfl
      · exact at_IS_good w hw
  · exact ⟨h, rfl, ⟨hW.kept hk, va_K.moved hvm C.2.2.2.2.2.2.2⟩, Nat.le_trans hS.1 hz, fun q h1 h2 => (hk q (Nat.lt_of_lt_of_le h1 hS.1)).trans (hS.2.1 q h1 h2)⟩
theorem G.throwIO (C : Cx p s m args meth c b n RX5 ret g) (TT : TX l (AF X h0 s.heap.size) s s.heap) (tab : ∀ x ∈ c.exceptionTable.toList, False) {ik is : Nat} {text : String} (hr : r = .error (eIO, h)) (w1 : Cond.classLink RX5 ik eIO ∈ wsL_law) (w2 : Cond.initialized eIO ∈ wsL_law) (hs : (RX5, is, text) ∈ strs)
    (d0 : decode b pc = .ok (.new ik, 3)) (d3 : decode b (pc + 3) = .ok (.dup, 1)) (d4 : decode b (pc + 4) = .ok (.ldc is, 2)) (d6 : decode b (pc + 6) = .ok (.invokespecial 208, 3)) (d9 : decode b (pc + 9) = .ok (.athrow, 1))
    (hfr : 5 < R.frames) (hlo : (st.map fun v => v.category).sum + 82 ≤ R.locals) (hRc : R.cells = cN r ∧ R.slots = cS r) : G p l e R s m args below meth c n g X h0 0 0 (vx_MQ below (QX g X h0 s.heap.size r) (XX g X h0 s.heap.size r) args s (cN r) (cS r) (AF X h0 s.heap.size)) (pc) lv (st) h := by
  subst hr
  intro H locs ls hW hS hl
  obtain ⟨hl9, hU, hN, hstr, hcast, hdecl⟩ := TT
  obtain ⟨sa, hsa⟩ := hstr _ hs
  refine vx_throwS (names := sup9) (A := AF X h0 s.heap.size) C.1 C.2.1 hl9 C.2.2.2.2.1 (by decide +kernel) (by decide +kernel) (C.2.2.2.2.2.1 _ w1) (C.2.2.2.2.2.1 _ w2) hsa (at_IO C.2.2.2.2.2.1 (hcast _ (by decide +kernel)) hdecl) (fun w hw => ?_) hU hN hS (hl.1.trans C.2.2.1.symm) d0 d3 d4 d6 d9 (fun x hx => (tab x hx).elim) hfr hlo (by rw [hRc.1]; exact Nat.le_refl 1) (by rw [hRc.2]; exact Nat.le_refl 6) C.2.2.2.2.2.2.1 (fun t hvm hz hk => ?_) hS.2.2 (Nat.le_refl 1) (Nat.le_refl 6)
  · rcases List.mem_cons.mp hw with rfl | hw
    · rfl
    · rcases List.mem_cons.mp hw with rfl | hw
      · rfl
      · exact at_IO_good w hw
  · exact ⟨h, rfl, ⟨hW.kept hk, va_K.moved hvm C.2.2.2.2.2.2.2⟩, Nat.le_trans hS.1 hz, fun q h1 h2 => (hk q (Nat.lt_of_lt_of_le h1 hS.1)).trans (hS.2.1 q h1 h2)⟩
theorem G.throwIOw (C : Cx p s m args meth c b n RX5 ret g) (TT : TX l (AF X h0 s.heap.size) s s.heap) (tab : ∀ x ∈ c.exceptionTable.toList, False) {ik is : Nat} {text : String} (hr : r = .error (eIO, h)) (w1 : Cond.classLink RX5 ik eIO ∈ wsL_law) (w2 : Cond.initialized eIO ∈ wsL_law) (hs : (RX5, is, text) ∈ strs)
    (d0 : decode b pc = .ok (.new ik, 3)) (d3 : decode b (pc + 3) = .ok (.dup, 1)) (d4 : decode b (pc + 4) = .ok (.ldc_w is, 3)) (d6 : decode b (pc + 7) = .ok (.invokespecial 208, 3)) (d9 : decode b (pc + 10) = .ok (.athrow, 1))
    (hfr : 5 < R.frames) (hlo : (st.map fun v => v.category).sum + 82 ≤ R.locals) (hRc : R.cells = cN r ∧ R.slots = cS r) : G p l e R s m args below meth c n g X h0 0 0 (vx_MQ below (QX g X h0 s.heap.size r) (XX g X h0 s.heap.size r) args s (cN r) (cS r) (AF X h0 s.heap.size)) (pc) lv (st) h := by
  subst hr
  intro H locs ls hW hS hl
  obtain ⟨hl9, hU, hN, hstr, hcast, hdecl⟩ := TT
  obtain ⟨sa, hsa⟩ := hstr _ hs
  refine vx_throwSW (names := sup9) (A := AF X h0 s.heap.size) C.1 C.2.1 hl9 C.2.2.2.2.1 (by decide +kernel) (by decide +kernel) (C.2.2.2.2.2.1 _ w1) (C.2.2.2.2.2.1 _ w2) hsa (at_IO C.2.2.2.2.2.1 (hcast _ (by decide +kernel)) hdecl) (fun w hw => ?_) hU hN hS (hl.1.trans C.2.2.1.symm) d0 d3 d4 d6 d9 (fun x hx => (tab x hx).elim) hfr hlo (by rw [hRc.1]; exact Nat.le_refl 1) (by rw [hRc.2]; exact Nat.le_refl 6) C.2.2.2.2.2.2.1 (fun t hvm hz hk => ?_) hS.2.2 (Nat.le_refl 1) (Nat.le_refl 6)
  · rcases List.mem_cons.mp hw with rfl | hw
    · rfl
    · rcases List.mem_cons.mp hw with rfl | hw
      · rfl
      · exact at_IO_good w hw
  · exact ⟨h, rfl, ⟨hW.kept hk, va_K.moved hvm C.2.2.2.2.2.2.2⟩, Nat.le_trans hS.1 hz, fun q h1 h2 => (hk q (Nat.lt_of_lt_of_le h1 hS.1)).trans (hS.2.1 q h1 h2)⟩
theorem G.callXo {Q : State → Prop} (C : Cx p s m args meth c b n own ret g) (TT : TX l (AF X h0 s.heap.size) s s.heap) {y : MethodName} {b' : ByteArray} {n' : Nat} {ret' : Option FieldType} {fr lo : Nat} {a ci : Nat} {As st0 st2 : List Value} {CN : String} {T : u_T} {N idx : Nat} {r1 : RX} {o : Option Value} {h' : PH} (cx : CX l y b' n' ret' fr lo (.ref a :: As) h r1) (hr1 : r1 = .ok (o, h')) (hk : kO h a ci) (hc : vwCl[ci]? = some (CN, T, N))
    (w1 : Cond.methodLink own idx y ∈ wsL_law) (w2 : Cond.instanceMethod y ∈ wsL_law) (w3 : Cond.selects CN y y ∈ wsL_law) (w4 : Cond.initialized CN ∈ wsL_law) (w5 : Cond.code y b' n' ret' ∈ wsL_law)
    (hd : y.cls = CN ∧ y.cls ≠ "java/lang/invoke/MethodHandle" ∧ y.cls ≠ "java/lang/invoke/VarHandle" ∧ (parseMethodDescriptor y.desc).map (fun d => d.parameters.length) = some As.length) (hR : fr + 1 ≤ R.frames ∧ 8 + (n' + 11) + lo ≤ R.locals)
    (h8 : (st.map fun v => v.category).sum ≤ 8) (hst : st0 = As.reverse ++ .ref a :: st) (hst2 : o.toList ++ st = st2) (d : decode b pc = .ok (.invokevirtual idx, 3)) (kk : G p l e R s m args below meth c n g X h0 0 0 (Q) (pc + 3) lv (st2) h') : G p l e R s m args below meth c n g X h0 0 0 (Q) (pc) lv (st0) h := by
  subst hst2
  subst hr1
  have hcs : 0 + 0 ≤ R.cells ∧ 0 + 0 ≤ R.slots := ⟨Nat.zero_le _, Nat.zero_le _⟩
  intro H locs ls hW hS hl T9 hT X9
  obtain ⟨fs, hfs⟩ := hk
  obtain ⟨ws, q0, hP, hD, hq, -⟩ := hW.at hfs
  have hsub := AF.sub hW hS.1
  have hr9 := vx_runV (p := p) (l := l) (e := e) (R := R) (s := s) (m := m) (args := args) (below := below) (meth := meth) (c := c) (H := H) (locs := locs) (cells := 0) (slots := 0) (g := F0 m pc ls st0) (As := As) (rest := st) (b := a) (C := CN) (n := As.length) ⟨C.1, C.2.1, C.2.2.1, C.2.2.2.2.1, C.2.2.2.2.2.1⟩ (cx g X H.size) (cwV As.length C.2.2.2.2.2.1 (good_call (ws := []) w1 w2 w3 w4 w5) rfl rfl rfl hd hR)
    ⟨WPreX.blind, va_recv C.2.2.2.2.2.2.2 hP hc hq, fun U hU hWU => ⟨rfl, ⟨by rw [hU], by rw [hU]; exact hW.sub (fun _ _ => trivial), va_K.moved hWU.alike C.2.2.2.2.2.2.2⟩, by rw [hU]; exact TX.warm hWU ((TT.kept hS.2.1).narrow hsub)⟩⟩ rfl rfl hl.1 hst (lv_room h8) d hcs T9 hT X9
  rcases hr9 with ⟨v, st₀, t, T', L, e0, X', hL, e1, e2, ⟨o1, h1, hr1, ⟨hv, hW1, hK1⟩, hz, hkk⟩, go⟩ | ⟨q9, st₀, t, T', L, E9, ce, e0, X', hL, e1, e2, ⟨hx1, hr1, ⟨hW1, hK1⟩, hz, hkk⟩, hce, hcv, hcl, go⟩
  · cases hr1
    cases hv
    rw [e0] at hz hkk
    obtain ⟨t2, a1, b1⟩ := kk T'.heap (locs ++ L) ls (by rw [e1]; exact hW1.sub hsub) ⟨Nat.le_trans hS.1 (by rw [e1]; exact hz), fun q h1 h2 => by rw [e1, hkk q (Nat.lt_of_lt_of_le h1 hS.1) (fun z => h2 (hsub q z))]; exact hS.2.1 q h1 h2, fun q hq9 => by
        rcases List.mem_append.mp hq9 with h9 | h9
        · exact hS.2.2 q h9
        · exact hsub _ (hL q h9)⟩ hl T' rfl X'
    exact ⟨t2, go t2 a1, b1⟩
  · cases hr1
theorem G.callXe (C : Cx p s m args meth c b n own ret g) (TT : TX l (AF X h0 s.heap.size) s s.heap) (tab : ∀ x ∈ c.exceptionTable.toList, False) {y : MethodName} {b' : ByteArray} {n' : Nat} {ret' : Option FieldType} {fr lo : Nat} {a ci : Nat} {As st0 : List Value} {CN : String} {T : u_T} {N idx : Nat} {r1 : RX} {E : String} {hx : PH} (cx : CX l y b' n' ret' fr lo (.ref a :: As) h r1) (hr1 : r1 = .error (E, hx)) (hr : r = .error (E, hx)) (hRc : R.cells = cN r ∧ R.slots = cS r) (hk : kO h a ci) (hc : vwCl[ci]? = some (CN, T, N))
    (w1 : Cond.methodLink own idx y ∈ wsL_law) (w2 : Cond.instanceMethod y ∈ wsL_law) (w3 : Cond.selects CN y y ∈ wsL_law) (w4 : Cond.initialized CN ∈ wsL_law) (w5 : Cond.code y b' n' ret' ∈ wsL_law)
    (hd : y.cls = CN ∧ y.cls ≠ "java/lang/invoke/MethodHandle" ∧ y.cls ≠ "java/lang/invoke/VarHandle" ∧ (parseMethodDescriptor y.desc).map (fun d => d.parameters.length) = some As.length) (hR : fr + 1 ≤ R.frames ∧ 8 + (n' + 11) + lo ≤ R.locals)
    (h8 : (st.map fun v => v.category).sum ≤ 8) (hst : st0 = As.reverse ++ .ref a :: st) (d : decode b pc = .ok (.invokevirtual idx, 3)) : G p l e R s m args below meth c n g X h0 0 0 (vx_MQ below (QX g X h0 s.heap.size r) (XX g X h0 s.heap.size r) args s (cN r) (cS r) (AF X h0 s.heap.size)) (pc) lv (st0) h := by
  subst hr1
  subst hr
  have hcs : 0 + 1 ≤ R.cells ∧ 0 + 6 ≤ R.slots := ⟨by rw [hRc.1]; exact Nat.le_refl 1, by rw [hRc.2]; exact Nat.le_refl 6⟩
  intro H locs ls hW hS hl T9 hT X9
  obtain ⟨fs, hfs⟩ := hk
  obtain ⟨ws, q0, hP, hD, hq, -⟩ := hW.at hfs
  have hsub := AF.sub hW hS.1
  have hr9 := vx_runV (p := p) (l := l) (e := e) (R := R) (s := s) (m := m) (args := args) (below := below) (meth := meth) (c := c) (H := H) (locs := locs) (cells := 0) (slots := 0) (g := F0 m pc ls st0) (As := As) (rest := st) (b := a) (C := CN) (n := As.length) ⟨C.1, C.2.1, C.2.2.1, C.2.2.2.2.1, C.2.2.2.2.2.1⟩ (cx g X H.size) (cwV As.length C.2.2.2.2.2.1 (good_call (ws := []) w1 w2 w3 w4 w5) rfl rfl rfl hd hR)
    ⟨WPreX.blind, va_recv C.2.2.2.2.2.2.2 hP hc hq, fun U hU hWU => ⟨rfl, ⟨by rw [hU], by rw [hU]; exact hW.sub (fun _ _ => trivial), va_K.moved hWU.alike C.2.2.2.2.2.2.2⟩, by rw [hU]; exact TX.warm hWU ((TT.kept hS.2.1).narrow hsub)⟩⟩ rfl rfl hl.1 hst (lv_room h8) d hcs T9 hT X9
  rcases hr9 with ⟨v, st₀, t, T', L, e0, X', hL, e1, e2, ⟨o1, h1, hr1, ⟨hv, hW1, hK1⟩, hz, hkk⟩, go⟩ | ⟨q9, st₀, t, T', L, E9, ce, e0, X', hL, e1, e2, ⟨hx1, hr1, ⟨hW1, hK1⟩, hz, hkk⟩, hce, hcv, hcl, go⟩
  · cases hr1
  · cases hr1
    rw [e0] at hz hkk
    have s1 : va_S (AF X h0 s.heap.size) s.heap T'.heap (locs ++ L) := ⟨Nat.le_trans hS.1 (by rw [e1]; exact hz), fun q h1 h2 => by rw [e1, hkk q (Nat.lt_of_lt_of_le h1 hS.1) (fun z => h2 (hsub q z))]; exact hS.2.1 q h1 h2, fun q hq9 => by
        rcases List.mem_append.mp hq9 with h9 | h9
        · exact hS.2.2 q h9
        · exact hsub _ (hL q h9)⟩
    have hWn : WW g (AF X h0 s.heap.size) X hx T'.heap := by rw [e1]; exact hW1.sub hsub
    obtain ⟨t2, a1, b1⟩ := vx_out (p := p) (l := l) (e := e) (R := R) (s := s) (m := m) (args := args) (below := below) (meth := meth) (c := c) (H := T'.heap) (locs := locs ++ L) (cells := 0 + 1) (slots := 0 + 6) (free := AF X h0 s.heap.size) (ls := ls) (rest := st) (Qc := QX g X h0 s.heap.size (.error (E, hx))) (XC := XX g X h0 s.heap.size (.error (E, hx))) (pc := pc) (q := q9) (mc := 1) (ms := 6) (fun x hx => (tab x hx).elim) C.2.2.2.2.2.2.1 (by rw [e1]; exact hce) hcv hcl
      (fun t9 ht9 hv9 => ⟨hx, rfl, ⟨by rw [ht9]; exact hWn, va_K.moved hv9 C.2.2.2.2.2.2.2⟩, by have := s1.F (s := s) ht9; exact this⟩) s1.2.2 (Nat.le_refl _) (Nat.le_refl _) T' rfl X'
    exact ⟨t2, go.trans a1, b1⟩
end GX9
