/-! CONTRACTS: a method takes the pure heap h to the pure heap h', and answers o; or throws -/
def WPre (g : GC) (X : va_W) (h : PH) (sz : Nat) (U : State) : Prop := U.heap.size = sz ∧ WW g (fun _ => True) X h U.heap ∧ va_K g.1 vwCl (wty g) U
def QW (g : GC) (X : va_W) (h : PH) (sz : Nat) (o : Option Value) (h' : PH) : Array Value → State → Outcome → State → Prop := fun _ st oc t => (oc = .returned o ∧ WW g (AF X h sz) X h' t.heap ∧ va_K g.1 vwCl (wty g) t) ∧ va_F (AF X h sz) st t
def CT (l : Launch) (y : MethodName) (b : ByteArray) (n : Nat) (ret : Option FieldType) (fr lo : Nat) (av : List Value) (h : PH) (o : Option Value) (h' : PH) : Prop :=
  ∀ (g : GC) (X : va_W) (sz : Nat), Met l y (Cond.code y b n ret :: wsL_law) ({ frames := fr, cells := 0, slots := 0, locals := lo } : Room) (va_Pc av (WPre g X h sz)) (QW g X h sz o h') 0 0 (AF X h sz)
theorem all_good : wsL_law.all goodWord = true := by decide +kernel
theorem good_call {ws : List Cond} {w1 w2 w3 w4 : Cond} {y : MethodName} {b : ByteArray} {n : Nat} {ret : Option FieldType} (h1 : w1 ∈ wsL_law) (h2 : w2 ∈ wsL_law) (h3 : w3 ∈ wsL_law) (h4 : w4 ∈ wsL_law) (h5 : Cond.code y b n ret ∈ wsL_law) : GoodIn wsL_law ([w1, w2, w3, w4] ++ (Cond.code y b n ret :: wsL_law)) := by
  intro w hw
  have hm : w ∈ wsL_law := by
    rcases List.mem_append.mp hw with h | h
    · simp only [List.mem_cons, List.not_mem_nil, or_false] at h
      rcases h with rfl | rfl | rfl | rfl <;> assumption
    · rcases List.mem_cons.mp h with rfl | h
      · exact h5
      · exact h
  exact ⟨hm, good_of_word (List.all_eq_true.mp all_good w hm)⟩
theorem good_call3 {w1 w2 w3 : Cond} {y : MethodName} {b : ByteArray} {n : Nat} {ret : Option FieldType} (h1 : w1 ∈ wsL_law) (h2 : w2 ∈ wsL_law) (h3 : w3 ∈ wsL_law) (h5 : Cond.code y b n ret ∈ wsL_law) : GoodIn wsL_law ([w1, w2, w3] ++ (Cond.code y b n ret :: wsL_law)) := by
  intro w hw
  have hm : w ∈ wsL_law := by
    rcases List.mem_append.mp hw with h | h
    · simp only [List.mem_cons, List.not_mem_nil, or_false] at h
      rcases h with rfl | rfl | rfl <;> assumption
    · rcases List.mem_cons.mp h with rfl | h
      · exact h5
      · exact h
  exact ⟨hm, good_of_word (List.all_eq_true.mp all_good w hm)⟩
theorem WPre.blind {g : GC} {X : va_W} {h : PH} {sz : Nat} {av : List Value} : FrameBlind (va_Pc av (WPre g X h sz)) :=
  fun a U k mk q => ⟨q.1, q.2.1, q.2.2.1, va_K.moved (u := U) (U := U.calling k mk a) (Vm.Alike.refl U.vm) q.2.2.2⟩
theorem AF.sub {g : GC} {X : va_W} {h h0 : PH} {H : Heap} {sz0 : Nat} (hW : WW g (AF X h0 sz0) X h H) (hz : sz0 ≤ H.size) : ∀ q, AF X h H.size q → AF X h0 sz0 q := by
  intro q hq
  rcases hq with ⟨e, hq⟩ | ⟨e, hq⟩ | hq
  · exact hW.mem.1 q e hq
  · exact hW.mem.2 q e hq
  · exact Or.inr (Or.inr (Nat.le_trans hz hq))
/-- a method's walk: from its first instruction, over the pure heap -/
theorem CT.of {l : Launch} {y : MethodName} {b : ByteArray} {n : Nat} {ret : Option FieldType} {fr lo : Nat} {av : List Value} {h h' : PH} {o : Option Value} {own : String} (hown : own = y.cls) (hy : plainName y.cls = true) (hlen : (lg_sl av).length ≤ n)
    (body : ∀ (p : Program) (e : Env) (R : Room) (s : State) (m : MethodId) (args : Array Value) (below : List Frame) (meth : Method) (c : Code) (g : GC) (X : va_W), R = ({ frames := fr, cells := 0, slots := 0, locals := lo } : Room) → Cx p s m args meth c b n own ret g →
      G p l e R s m args below meth c n g X h 0 0 (MQ below (QW g X h s.heap.size o h') args s 0 0 (AF X h s.heap.size)) 0 (lv_args 0 av) [] h) : CT l y b n ret fr lo av h o h' := by
  intro g X sz
  refine Met.ofW (cc := b) (maxL := n) (ret := ret) hy rfl ?_
  intro p e s m args below meth c s₁ B hml hv
  obtain ⟨rfl, hsz, hW, hK⟩ := hv
  have hts := atoms_spec (ws := Cond.code y b n ret :: wsL_law) B.pre
  subst hsz
  have hl := lv_entry av (n := n) hlen
  rw [lg_entry_eq]
  refine body p e _ s m av.toArray below meth c g X rfl ⟨B.exec, B.bytes, hml, B.returns, by rw [hown]; exact findClass_of_methodNamed B.named, fun w hw => hts w (List.mem_cons_of_mem _ hw), B.notSynchronized, hK⟩ s.heap [] _ (hW.self _) va_S.rf hl

section GC9
variable {p : Program} {l : Launch} {e : Env} {R : Room} {s : State} {m : MethodId} {args : Array Value} {below : List Frame} {meth : Method} {c : Code} {n : Nat} {g : GC} {X : va_W} {h0 h : PH} {cells slots : Nat} {Q : State → Prop} {pc : Nat} {lv : List (Nat × Value)} {st : List Value} {b : ByteArray} {own : String} {ret : Option FieldType}
theorem G.callV (C : Cx p s m args meth c b n own ret g) {y : MethodName} {b' : ByteArray} {n' : Nat} {ret' : Option FieldType} {fr lo : Nat} {o : Option Value} {h' : PH} {st2 : List Value} {a ci : Nat} {As st0 : List Value} {CN : String} {T : u_T} {N idx : Nat} (ct : CT l y b' n' ret' fr lo (.ref a :: As) h o h') (hk : kO h a ci) (hc : vwCl[ci]? = some (CN, T, N))
    (w1 : Cond.methodLink own idx y ∈ wsL_law) (w2 : Cond.instanceMethod y ∈ wsL_law) (w3 : Cond.selects CN y y ∈ wsL_law) (w4 : Cond.initialized CN ∈ wsL_law) (w5 : Cond.code y b' n' ret' ∈ wsL_law)
    (hd : y.cls = CN ∧ y.cls ≠ "java/lang/invoke/MethodHandle" ∧ y.cls ≠ "java/lang/invoke/VarHandle" ∧ (parseMethodDescriptor y.desc).map (fun d => d.parameters.length) = some As.length) (hR : fr + 1 ≤ R.frames ∧ 8 + (n' + 11) + lo ≤ R.locals) (hcs : cells ≤ R.cells ∧ slots ≤ R.slots)
    (h8 : (st.map fun v => v.category).sum ≤ 8) (hst : st0 = As.reverse ++ .ref a :: st) (hst2 : o.toList ++ st = st2) (d : decode b pc = .ok (.invokevirtual idx, 3)) (kk : G p l e R s m args below meth c n g X h0 cells slots (Q) (pc + 3) lv (st2) h') : G p l e R s m args below meth c n g X h0 cells slots (Q) (pc) lv (st0) h := by
  subst hst2
  intro H locs ls hW hS hl T9 hT X9
  obtain ⟨fs, hfs⟩ := hk
  obtain ⟨ws, q0, hP, hD, hq, -⟩ := hW.at hfs
  have hr := va_runV (p := p) (l := l) (e := e) (R := R) (s := s) (m := m) (args := args) (below := below) (meth := meth) (c := c) (H := H) (locs := locs) (cells := cells) (slots := slots) (g := F0 m pc ls st0) (As := As) (rest := st) (b := a) (C := CN) (n := As.length) ⟨C.1, C.2.1, C.2.2.1, C.2.2.2.2.1, C.2.2.2.2.2.1⟩ (ct g X H.size) (cwV As.length C.2.2.2.2.2.1 (good_call (ws := []) w1 w2 w3 w4 w5) rfl rfl rfl hd hR)
    ⟨WPre.blind, va_recv C.2.2.2.2.2.2.2 hP hc hq, fun U hU hWU => ⟨rfl, by rw [hU], by rw [hU]; exact hW.sub (fun _ _ => trivial), va_K.moved hWU.alike C.2.2.2.2.2.2.2⟩⟩ rfl rfl hl.1 hst (lv_room h8) d ⟨hcs.1, hcs.2⟩ T9 hT X9
  obtain ⟨v, st₀, t, T', L, e0, X', hL, e1, e2, ⟨⟨hv, hW1, hK1⟩, hz, hkk⟩, go⟩ := hr
  cases hv
  rw [e0] at hz hkk
  have hsub := AF.sub hW hS.1
  obtain ⟨t2, a1, b1⟩ := kk T'.heap (locs ++ L) ls (by rw [e1]; exact hW1.sub hsub) ⟨Nat.le_trans hS.1 (by rw [e1]; exact hz), fun q h1 h2 => by rw [e1, hkk q (Nat.lt_of_lt_of_le h1 hS.1) (fun z => h2 (hsub q z))]; exact hS.2.1 q h1 h2, fun q hq9 => by
      rcases List.mem_append.mp hq9 with h9 | h9
      · exact hS.2.2 q h9
      · exact hsub _ (hL q h9)⟩ hl T' rfl X'
  exact ⟨t2, go t2 a1, b1⟩
theorem G.callS (C : Cx p s m args meth c b n own ret g) {y : MethodName} {b' : ByteArray} {n' : Nat} {ret' : Option FieldType} {fr lo : Nat} {o : Option Value} {h' : PH} {st2 : List Value} {As st0 : List Value} {idx : Nat} (ct : CT l y b' n' ret' fr lo As h o h')
    (w1 : Cond.methodLink own idx y ∈ wsL_law) (w2 : Cond.static y ∈ wsL_law) (w4 : Cond.initialized y.cls ∈ wsL_law) (w5 : Cond.code y b' n' ret' ∈ wsL_law)
    (hd : y.cls ≠ "java/lang/invoke/MethodHandle" ∧ y.cls ≠ "java/lang/invoke/VarHandle" ∧ (parseMethodDescriptor y.desc).map (fun d => d.parameters.length) = some As.length) (hR : fr + 1 ≤ R.frames ∧ 8 + (n' + 11) + lo ≤ R.locals) (hcs : cells ≤ R.cells ∧ slots ≤ R.slots)
    (h8 : (st.map fun v => v.category).sum ≤ 8) (hst : st0 = As.reverse ++ st) (hst2 : o.toList ++ st = st2) (d : decode b pc = .ok (.invokestatic idx, 3)) (kk : G p l e R s m args below meth c n g X h0 cells slots (Q) (pc + 3) lv (st2) h') : G p l e R s m args below meth c n g X h0 cells slots (Q) (pc) lv (st0) h := by
  subst hst2
  intro H locs ls hW hS hl T9 hT X9
  have hr := va_runS (p := p) (l := l) (e := e) (R := R) (s := s) (m := m) (args := args) (below := below) (meth := meth) (c := c) (H := H) (locs := locs) (cells := cells) (slots := slots) (g := F0 m pc ls st0) (As := As) (rest := st) (n := As.length) ⟨C.1, C.2.1, C.2.2.1, C.2.2.2.2.1, C.2.2.2.2.2.1⟩ (ct g X H.size) (va_cwS As.length C.2.2.2.2.2.1 (good_call3 w1 w2 w4 w5) rfl rfl rfl hd hR)
    ⟨WPre.blind, fun U hU hWU => ⟨rfl, by rw [hU], by rw [hU]; exact hW.sub (fun _ _ => trivial), va_K.moved hWU.alike C.2.2.2.2.2.2.2⟩⟩ rfl rfl hl.1 hst (lv_room h8) d ⟨hcs.1, hcs.2⟩ T9 hT X9
  obtain ⟨v, st₀, t, T', L, e0, X', hL, e1, e2, ⟨⟨hv, hW1, hK1⟩, hz, hkk⟩, go⟩ := hr
  cases hv
  rw [e0] at hz hkk
  have hsub := AF.sub hW hS.1
  obtain ⟨t2, a1, b1⟩ := kk T'.heap (locs ++ L) ls (by rw [e1]; exact hW1.sub hsub) ⟨Nat.le_trans hS.1 (by rw [e1]; exact hz), fun q h1 h2 => by rw [e1, hkk q (Nat.lt_of_lt_of_le h1 hS.1) (fun z => h2 (hsub q z))]; exact hS.2.1 q h1 h2, fun q hq9 => by
      rcases List.mem_append.mp hq9 with h9 | h9
      · exact hS.2.2 q h9
      · exact hsub _ (hL q h9)⟩ hl T' rfl X'
  exact ⟨t2, go t2 a1, b1⟩
theorem G.mmax (C : Cx p s m args meth c b n own ret g) {idx : Nat} {x y : Int32} (w1 : Cond.methodLink own idx Lib.Math.max.name ∈ wsL_law) (w2 : Cond.static Lib.Math.max.name ∈ wsL_law) (w4 : Cond.initialized "java/lang/Math" ∈ wsL_law) (w5 : Cond.code Lib.Math.max.name Lib.Math.max.code 2 (some .int) ∈ wsL_law) (hfr : 1 ≤ R.frames) (hlo : (st.map fun v => v.category).sum + 13 ≤ R.locals) (hcs : cells ≤ R.cells ∧ slots ≤ R.slots) (d : decode b pc = .ok (.invokestatic idx, 3)) (kk : G p l e R s m args below meth c n g X h0 cells slots (Q) (pc + 3) lv (.int (if x < y then y else x) :: st) h) : G p l e R s m args below meth c n g X h0 cells slots (Q) (pc) lv (.int y :: .int x :: st) h :=
  fun H locs ls hW hS hl => va_mmax C.1 C.2.1 (C.2.2.1.trans hl.1.symm) C.2.2.2.2.1 (C.2.2.2.2.2.1 _ w1) (C.2.2.2.2.2.1 _ w2) (C.2.2.2.2.2.1 _ w4) (C.2.2.2.2.2.1 _ w5) hfr hlo hcs.1 hcs.2 d (kk H locs ls hW hS hl)
theorem G.mmin (C : Cx p s m args meth c b n own ret g) {idx : Nat} {x y : Int32} (w1 : Cond.methodLink own idx Lib.Math.min.name ∈ wsL_law) (w2 : Cond.static Lib.Math.min.name ∈ wsL_law) (w4 : Cond.initialized "java/lang/Math" ∈ wsL_law) (w5 : Cond.code Lib.Math.min.name Lib.Math.min.code 2 (some .int) ∈ wsL_law) (hfr : 1 ≤ R.frames) (hlo : (st.map fun v => v.category).sum + 13 ≤ R.locals) (hcs : cells ≤ R.cells ∧ slots ≤ R.slots) (d : decode b pc = .ok (.invokestatic idx, 3)) (kk : G p l e R s m args below meth c n g X h0 cells slots (Q) (pc + 3) lv (.int (if y < x then y else x) :: st) h) : G p l e R s m args below meth c n g X h0 cells slots (Q) (pc) lv (.int y :: .int x :: st) h :=
  fun H locs ls hW hS hl => va_mmin C.1 C.2.1 (C.2.2.1.trans hl.1.symm) C.2.2.2.2.1 (C.2.2.2.2.2.1 _ w1) (C.2.2.2.2.2.1 _ w2) (C.2.2.2.2.2.1 _ w4) (C.2.2.2.2.2.1 _ w5) hfr hlo hcs.1 hcs.2 d (kk H locs ls hW hS hl)
theorem G.iret (C : Cx p s m args meth c b n own ret g) {v : Int32} (hret : ret = some .int) (d : decode b pc = .ok (.ireturn, 1)) : G p l e R s m args below meth c n g X h0 0 0 (MQ below (QW g X h0 s.heap.size (some (.int v)) h) args s 0 0 (AF X h0 s.heap.size)) (pc) lv ([.int v]) h := fun H locs ls hW hS hl => W.iret (v := v) C.1 C.2.1 (C.2.2.2.1.trans hret) (fun t ht hWm => ⟨⟨rfl, by rw [ht]; exact hW, va_K.moved hWm.alike C.2.2.2.2.2.2.2⟩, hS.F ht⟩) hS.2.2 d C.2.2.2.2.2.2.1
theorem G.zret (C : Cx p s m args meth c b n own ret g) {v : Int32} {ty : FieldType} (hret : ret = some ty) (hn : narrow ty (.int v) = .int v) (d : decode b pc = .ok (.ireturn, 1)) : G p l e R s m args below meth c n g X h0 0 0 (MQ below (QW g X h0 s.heap.size (some (.int v)) h) args s 0 0 (AF X h0 s.heap.size)) (pc) lv ([.int v]) h := fun H locs ls hW hS hl => W.zret (v := v) C.1 C.2.1 (C.2.2.2.1.trans hret) hn (fun t ht hWm => ⟨⟨rfl, by rw [ht]; exact hW, va_K.moved hWm.alike C.2.2.2.2.2.2.2⟩, hS.F ht⟩) hS.2.2 d C.2.2.2.2.2.2.1
theorem G.lret (C : Cx p s m args meth c b n own ret g) {v : Int64} (hret : ret = some .long) (d : decode b pc = .ok (.lreturn, 1)) : G p l e R s m args below meth c n g X h0 0 0 (MQ below (QW g X h0 s.heap.size (some (.long v)) h) args s 0 0 (AF X h0 s.heap.size)) (pc) lv ([.long v]) h := fun H locs ls hW hS hl => W.lret (v := v) C.1 C.2.1 (C.2.2.2.1.trans hret) (fun t ht hWm => ⟨⟨rfl, by rw [ht]; exact hW, va_K.moved hWm.alike C.2.2.2.2.2.2.2⟩, hS.F ht⟩) hS.2.2 d C.2.2.2.2.2.2.1
theorem G.dret (C : Cx p s m args meth c b n own ret g) {v : UInt64} (hret : ret = some .double) (d : decode b pc = .ok (.dreturn, 1)) : G p l e R s m args below meth c n g X h0 0 0 (MQ below (QW g X h0 s.heap.size (some (.double v)) h) args s 0 0 (AF X h0 s.heap.size)) (pc) lv ([.double v]) h := fun H locs ls hW hS hl => W.dret (v := v) C.1 C.2.1 (C.2.2.2.1.trans hret) (fun t ht hWm => ⟨⟨rfl, by rw [ht]; exact hW, va_K.moved hWm.alike C.2.2.2.2.2.2.2⟩, hS.F ht⟩) hS.2.2 d C.2.2.2.2.2.2.1
theorem G.vret (C : Cx p s m args meth c b n own ret g)  (hret : ret = none) (d : decode b pc = .ok (.return_, 1)) : G p l e R s m args below meth c n g X h0 0 0 (MQ below (QW g X h0 s.heap.size none h) args s 0 0 (AF X h0 s.heap.size)) (pc) lv ([]) h := fun H locs ls hW hS hl => W.vret C.1 C.2.1 (C.2.2.2.1.trans hret) (fun t ht hWm => ⟨⟨rfl, by rw [ht]; exact hW, va_K.moved hWm.alike C.2.2.2.2.2.2.2⟩, hS.F ht⟩) hS.2.2 d C.2.2.2.2.2.2.1
theorem G.aret (C : Cx p s m args meth c b n own ret g) {v : Option Nat} {rt : FieldType} (hret : ret = some rt) (hrt : (∃ n, rt = .object n) ∨ ∃ t, rt = .array t) (d : decode b pc = .ok (.areturn, 1)) : G p l e R s m args below meth c n g X h0 0 0 (MQ below (QW g X h0 s.heap.size (some (va_rf v)) h) args s 0 0 (AF X h0 s.heap.size)) (pc) lv ([va_rf v]) h := fun H locs ls hW hS hl => W.aret (v := va_rf v) C.1 C.2.1 (C.2.2.2.1.trans hret) hrt (va_rf_or9 v) (fun t ht hWm => ⟨⟨rfl, by rw [ht]; exact hW, va_K.moved hWm.alike C.2.2.2.2.2.2.2⟩, hS.F ht⟩) hS.2.2 d C.2.2.2.2.2.2.1
end GC9
