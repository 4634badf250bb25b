/-! THE LAW'S METHODS: contracts (CL: may make cells; calls of the class that do not throw), rows for them; the script; the row of 60 ints -/
def CL (l : Launch) (y : MethodName) (b : ByteArray) (n : Nat) (ret : Option FieldType) (fr lo mc ms : Nat) (av : List Value) (h : PH) (o : Option Value) (h' : PH) : Prop :=
  ∀ (g : GC) (X : va_W) (sz : Nat), Met l y (Cond.code y b n ret :: wsL_law) ({ frames := fr, cells := mc, slots := ms, locals := lo } : Room) (va_Pc av (WPreX l g X h sz)) (QW g X h sz o h') mc ms (AF X h sz)
theorem CL.of {l : Launch} {y : MethodName} {b : ByteArray} {n : Nat} {ret : Option FieldType} {fr lo mc ms : Nat} {av : List Value} {h h' : PH} {o : Option Value} {own : String} (hown : own = y.cls) (hy : plainName y.cls = true) (hlen : (lg_sl av).length ≤ n)
    (body : ∀ (p : Program) (e : Env) (R : Room) (s : State) (m : MethodId) (args : Array Value) (below : List Frame) (meth : Method) (c : Code) (g : GC) (X : va_W), R = ({ frames := fr, cells := mc, slots := ms, locals := lo } : Room) → Cx p s m args meth c b n own ret g → TX l (AF X h s.heap.size) s s.heap →
      G p l e R s m args below meth c n g X h 0 0 (MQ below (QW g X h s.heap.size o h') args s mc ms (AF X h s.heap.size)) 0 (lv_args 0 av) [] h) : CL l y b n ret fr lo mc ms av h o h' := by
  intro g X sz
  refine Met.ofW (cc := b) (maxL := n) (ret := ret) hy rfl ?_
  intro p e s m args below meth c s₁ B hml hv
  obtain ⟨rfl, ⟨hsz, hW, hK⟩, hT⟩ := hv
  have hts := atoms_spec (ws := Cond.code y b n ret :: wsL_law) B.pre
  subst hsz
  have hl := lv_entry av (n := n) hlen
  rw [lg_entry_eq]
  refine body p e _ s m av.toArray below meth c g X rfl ⟨B.exec, B.bytes, hml, B.returns, by rw [hown]; exact findClass_of_methodNamed B.named, fun w hw => hts w (List.mem_cons_of_mem _ hw), B.notSynchronized, hK⟩ hT s.heap [] _ (hW.self _) va_S.rf hl
/-- the script's reader -/
def WPreC (g : GC) (X : va_W) (h : PH) (sz b9 lL : Nat) (xs : Nat → Int32) (U : State) : Prop := WPre g X h sz U ∧ va_X b9 lL xs U U.heap
theorem WPreC.blind {g : GC} {X : va_W} {h : PH} {sz b9 lL : Nat} {xs : Nat → Int32} {av : List Value} : FrameBlind (va_Pc av (WPreC g X h sz b9 lL xs)) :=
  fun a U k mk q => ⟨q.1, (WPre.blind a U k mk ⟨q.1, q.2.1⟩).2, va_X.moved (u := U) (U := U.calling k mk a) (Vm.Alike.refl U.vm) q.2.2⟩
def CC (l : Launch) (y : MethodName) (b : ByteArray) (n : Nat) (fr lo : Nat) (b9 lL : Nat) (xs : Nat → Int32) (av : List Value) (h : PH) (o : Option Value) : Prop :=
  ∀ (g : GC) (X : va_W) (sz : Nat), b9 < sz → ¬ AF X h sz b9 → Met l y (Cond.code y b n (some .int) :: wsL_law) ({ frames := fr, cells := 0, slots := 0, locals := lo } : Room) (va_Pc av (WPreC g X h sz b9 lL xs)) (QW g X h sz o h) 0 0 (AF X h sz)
theorem CC.of {l : Launch} {y : MethodName} {b : ByteArray} {n : Nat} {fr lo : Nat} {b9 lL : Nat} {xs : Nat → Int32} {av : List Value} {h : PH} {o : Option Value} {own : String} (hown : own = y.cls) (hy : plainName y.cls = true) (hlen : (lg_sl av).length ≤ n)
    (body : ∀ (p : Program) (e : Env) (R : Room) (s : State) (m : MethodId) (args : Array Value) (below : List Frame) (meth : Method) (c : Code) (g : GC) (X : va_W), R = ({ frames := fr, cells := 0, slots := 0, locals := lo } : Room) → Cx p s m args meth c b n own (some .int) g → va_X b9 lL xs s s.heap → b9 < s.heap.size → ¬ AF X h s.heap.size b9 →
      G p l e R s m args below meth c n g X h 0 0 (MQ below (QW g X h s.heap.size o h) args s 0 0 (AF X h s.heap.size)) 0 (lv_args 0 av) [] h) : CC l y b n fr lo b9 lL xs av h o := by
  intro g X sz hb9 hbA
  refine Met.ofW (cc := b) (maxL := n) (ret := some .int) hy rfl ?_
  intro p e s m args below meth c s₁ B hml hv
  obtain ⟨rfl, ⟨hsz, hW, hK⟩, hX⟩ := hv
  have hts := atoms_spec (ws := Cond.code y b n (some .int) :: wsL_law) B.pre
  subst hsz
  have hl := lv_entry av (n := n) hlen
  rw [lg_entry_eq]
  refine body p e _ s m av.toArray below meth c g X rfl ⟨B.exec, B.bytes, hml, B.returns, by rw [hown]; exact findClass_of_methodNamed B.named, fun w hw => hts w (List.mem_cons_of_mem _ hw), B.notSynchronized, hK⟩ hX hb9 hbA s.heap [] _ (hW.self _) va_S.rf hl
/-- a row of 60 ints at o, beside the world X -/
def XA (g : GC) (o : Nat) (f : Nat → Int32) (X : va_W) : va_W := (o, .inl (g.2.1, 60, .inl f)) :: X
theorem AF_XA {g : GC} {o : Nat} {f : Nat → Int32} {X : va_W} {h : PH} {sz : Nat} (ho : sz ≤ o) : AF (XA g o f X) h sz = AF X h sz := by
  funext q
  apply propext
  unfold AF XA
  constructor
  · rintro (⟨e, hq⟩ | hq)
    · rcases List.mem_cons.mp hq with h9 | h9
      · cases h9
        exact Or.inr (Or.inr ho)
      · exact Or.inl ⟨e, h9⟩
    · exact Or.inr hq
  · rintro (⟨e, hq⟩ | hq)
    · exact Or.inl ⟨e, List.mem_cons_of_mem _ hq⟩
    · exact Or.inr hq
theorem WW.consA {g : GC} {A : Nat → Prop} {X : va_W} {h : PH} {H H1 : Heap} {z : Nat} {f : Nat → Int32} (hW : WW g A X h H) (hz : H.size = z) (hA : A z) (oq : ∀ q : Nat, q < z → H1[q]? = H[q]?) (he : va_at g.1 vwCl (z, .inl (g.2.1, 60, .inl f)) H1) : WW g A (XA g z f X) h H1 := by
  obtain ⟨L, F, h1, hP, hD⟩ := hW
  have hP1 := hP.kept (fun k q hk => oq q.1 (by have := (hP k q hk).lt; omega))
  refine ⟨L, F, h1, fun k q hk => ?_, fun i j p q hi hj he9 => ?_, fun k q hk => ?_⟩
  · cases k with
    | zero => cases hk; exact he
    | succ k => exact hP1 k q hk
  · cases i with
    | zero =>
      cases j with
      | zero => rfl
      | succ j =>
        cases hi
        have h9 := (hP j q hj).lt
        have he9 : z = q.1 := he9
        omega
    | succ i =>
      cases j with
      | zero =>
        cases hj
        have h9 := (hP i p hi).lt
        have he9 : p.1 = z := he9
        omega
      | succ j => exact congrArg (· + 1) (hD.1 i j p q hi hj he9)
  · cases k with
    | zero => cases hk; exact hA
    | succ k => exact hD.2 k q hk
theorem WW.dropA {g : GC} {A : Nat → Prop} {o : Nat} {f : Nat → Int32} {X : va_W} {h : PH} {H : Heap} (hW : WW g A (XA g o f X) h H) : WW g A X h H := by
  obtain ⟨L, F, h1, hP, hD⟩ := hW
  exact ⟨L, F, h1, fun k q hk => hP (k + 1) q hk, fun i j p q hi hj e => Nat.succ.inj (hD.1 (i + 1) (j + 1) p q hi hj e), fun k q hk => hD.2 (k + 1) q hk⟩

section GL9
variable {p : Program} {l : Launch} {e : Env} {R : Room} {s : State} {m : MethodId} {args : Array Value} {below : List Frame} {meth : Method} {c : Code} {n : Nat} {g : GC} {X : va_W} {h0 h : PH} {cells slots : Nat} {Q : State → Prop} {pc : Nat} {lv : List (Nat × Value)} {st : List Value} {b : ByteArray} {own : String} {ret : Option FieldType}
theorem G.ior (C : Cx p s m args meth c b n own ret g) {x y : Int32} (d : decode b pc = .ok (.ior, 1)) (kk : G p l e R s m args below meth c n g (X) h0 (cells) (slots) Q (pc + 1) lv (.int (x ||| y) :: st) h) : G p l e R s m args below meth c n g (X) h0 (cells) (slots) Q (pc) lv (.int y :: .int x :: st) h := fun H locs ls hW hS hl => lv_ior C.1 C.2.1 d (kk H locs ls hW hS hl)
theorem G.ishl (C : Cx p s m args meth c b n own ret g) {x y : Int32} (d : decode b pc = .ok (.ishl, 1)) (kk : G p l e R s m args below meth c n g (X) h0 (cells) (slots) Q (pc + 1) lv (.int (x <<< (y &&& 31)) :: st) h) : G p l e R s m args below meth c n g (X) h0 (cells) (slots) Q (pc) lv (.int y :: .int x :: st) h := fun H locs ls hW hS hl => lv_ishl C.1 C.2.1 d (kk H locs ls hW hS hl)
theorem G.ishr (C : Cx p s m args meth c b n own ret g) {x y : Int32} (d : decode b pc = .ok (.ishr, 1)) (kk : G p l e R s m args below meth c n g (X) h0 (cells) (slots) Q (pc + 1) lv (.int (x >>> (y &&& 31)) :: st) h) : G p l e R s m args below meth c n g (X) h0 (cells) (slots) Q (pc) lv (.int y :: .int x :: st) h := fun H locs ls hW hS hl => lv_ishr C.1 C.2.1 d (kk H locs ls hW hS hl)
theorem G.ldcI (C : Cx p s m args meth c b n own ret g) {idx : Nat} {v : Int32} (hc : Cond.constant own idx v ∈ wsL_law) (d : decode b pc = .ok (.ldc idx, 2)) (kk : G p l e R s m args below meth c n g (X) h0 (cells) (slots) Q (pc + 2) lv (.int v :: st) h) : G p l e R s m args below meth c n g (X) h0 (cells) (slots) Q (pc) lv (st) h := fun H locs ls hW hS hl => lv_ldc C.1 C.2.1 C.2.2.2.2.1 (C.2.2.2.2.2.1 _ hc) d (kk H locs ls hW hS hl)
theorem G.slen (C : Cx p s m args meth c b n own ret g) {b9 L : Nat} {xs : Nat → Int32} (hX : va_X b9 L xs s s.heap) (hbl : b9 < s.heap.size) (hbo : ¬ AF X h0 s.heap.size b9) (d : decode b pc = .ok (.arraylength, 1)) (kk : G p l e R s m args below meth c n g (X) h0 (cells) (slots) Q (pc + 1) lv (.int (Int32.ofNat L) :: st) h) : G p l e R s m args below meth c n g (X) h0 (cells) (slots) Q (pc) lv (.ref b9 :: st) h := fun H locs ls hW hS hl => va_slen C.1 C.2.1 hX hbl hbo hS d (kk H locs ls hW hS hl)
theorem G.sld (C : Cx p s m args meth c b n own ret g) {b9 L : Nat} {xs : Nat → Int32} (hX : va_X b9 L xs s s.heap) (hbl : b9 < s.heap.size) (hbo : ¬ AF X h0 s.heap.size b9) {i : Int32} (hin : ¬ (i < 0 ∨ L ≤ i.toNatClampNeg)) (d : decode b pc = .ok (.iaload, 1)) (kk : G p l e R s m args below meth c n g (X) h0 (cells) (slots) Q (pc + 1) lv (.int (xs i.toNatClampNeg) :: st) h) : G p l e R s m args below meth c n g (X) h0 (cells) (slots) Q (pc) lv (.int i :: .ref b9 :: st) h := fun H locs ls hW hS hl => va_sld C.1 C.2.1 hX hbl hbo hS hin d (kk H locs ls hW hS hl)
theorem G.callX9 (C : Cx p s m args meth c b n own ret g) (TT : TX l (AF X h0 s.heap.size) s s.heap) {y : MethodName} {b' : ByteArray} {n' : Nat} {ret' : Option FieldType} {fr lo : Nat} {a ci : Nat} {As st0 st2 : List Value} {CN : String} {T : u_T} {N idx : Nat} {r1 : RX} {o : Option Value} {h' : PH} (cx : CX l y b' n' ret' fr lo (.ref a :: As) h r1) (hr1 : r1 = .ok (o, h')) (hk : kO h a ci) (hc : vwCl[ci]? = some (CN, T, N))
    (w1 : Cond.methodLink own idx y ∈ wsL_law) (w2 : Cond.instanceMethod y ∈ wsL_law) (w3 : Cond.selects CN y y ∈ wsL_law) (w4 : Cond.initialized CN ∈ wsL_law) (w5 : Cond.code y b' n' ret' ∈ wsL_law)
    (hd : y.cls = CN ∧ y.cls ≠ "java/lang/invoke/MethodHandle" ∧ y.cls ≠ "java/lang/invoke/VarHandle" ∧ (parseMethodDescriptor y.desc).map (fun d => d.parameters.length) = some As.length) (hR : fr + 1 ≤ R.frames ∧ 8 + (n' + 11) + lo ≤ R.locals) (hcs : cells ≤ R.cells ∧ slots ≤ R.slots)
    (h8 : (st.map fun v => v.category).sum ≤ 8) (hst : st0 = As.reverse ++ .ref a :: st) (hst2 : o.toList ++ st = st2) (d : decode b pc = .ok (.invokevirtual idx, 3)) (kk : G p l e R s m args below meth c n g (X) h0 (cells) (slots) Q (pc + 3) lv (st2) h') : G p l e R s m args below meth c n g (X) h0 (cells) (slots) Q (pc) lv (st0) h := by
  subst hst2
  subst hr1
  have hcs : cells + 0 ≤ R.cells ∧ slots + 0 ≤ R.slots := hcs
  intro H locs ls hW hS hl T9 hT X9
  obtain ⟨fs, hfs⟩ := hk
  obtain ⟨ws, q0, hP, hD, hq, -⟩ := hW.at hfs
  have hsub := AF.sub hW hS.1
  have hr9 := vx_runV (p := p) (l := l) (e := e) (R := R) (s := s) (m := m) (args := args) (below := below) (meth := meth) (c := c) (H := H) (locs := locs) (cells := cells) (slots := slots) (g := F0 m pc ls st0) (As := As) (rest := st) (b := a) (C := CN) (n := As.length) ⟨C.1, C.2.1, C.2.2.1, C.2.2.2.2.1, C.2.2.2.2.2.1⟩ (cx g X H.size) (cwV As.length C.2.2.2.2.2.1 (good_call (ws := []) w1 w2 w3 w4 w5) rfl rfl rfl hd hR)
    ⟨WPreX.blind, va_recv C.2.2.2.2.2.2.2 hP hc hq, fun U hU hWU => ⟨rfl, ⟨by rw [hU], by rw [hU]; exact hW.sub (fun _ _ => trivial), va_K.moved hWU.alike C.2.2.2.2.2.2.2⟩, by rw [hU]; exact TX.warm hWU ((TT.kept hS.2.1).narrow hsub)⟩⟩ rfl rfl hl.1 hst (lv_room h8) d hcs T9 hT X9
  rcases hr9 with ⟨v, st₀, t, T', L, e0, X', hL, e1, e2, ⟨o1, h1, hr1, ⟨hv, hW1, hK1⟩, hz, hkk⟩, go⟩ | ⟨q9, st₀, t, T', L, E9, ce, e0, X', hL, e1, e2, ⟨hx1, hr1, ⟨hW1, hK1⟩, hz, hkk⟩, hce, hcv, hcl, go⟩
  · cases hr1
    cases hv
    rw [e0] at hz hkk
    obtain ⟨t2, a1, b1⟩ := kk T'.heap (locs ++ L) ls (by rw [e1]; exact hW1.sub hsub) ⟨Nat.le_trans hS.1 (by rw [e1]; exact hz), fun q h1 h2 => by rw [e1, hkk q (Nat.lt_of_lt_of_le h1 hS.1) (fun z => h2 (hsub q z))]; exact hS.2.1 q h1 h2, fun q hq9 => by
      rcases List.mem_append.mp hq9 with h9 | h9
      · exact hS.2.2 q h9
      · exact hsub _ (hL q h9)⟩ hl T' rfl X'
    exact ⟨t2, go t2 a1, b1⟩
  · cases hr1
theorem G.callL (C : Cx p s m args meth c b n own ret g) (TT : TX l (AF X h0 s.heap.size) s s.heap) {y : MethodName} {b' : ByteArray} {n' : Nat} {ret' : Option FieldType} {fr lo mc ms : Nat} {As st0 st2 : List Value} {idx : Nat} {o : Option Value} {h' : PH} (cl : CL l y b' n' ret' fr lo mc ms As h o h')
    (w1 : Cond.methodLink own idx y ∈ wsL_law) (w2 : Cond.static y ∈ wsL_law) (w4 : Cond.initialized y.cls ∈ wsL_law) (w5 : Cond.code y b' n' ret' ∈ wsL_law)
    (hd : y.cls ≠ "java/lang/invoke/MethodHandle" ∧ y.cls ≠ "java/lang/invoke/VarHandle" ∧ (parseMethodDescriptor y.desc).map (fun d => d.parameters.length) = some As.length) (hR : fr + 1 ≤ R.frames ∧ 8 + (n' + 11) + lo ≤ R.locals) (hcs : cells + mc ≤ R.cells ∧ slots + ms ≤ R.slots)
    (h8 : (st.map fun v => v.category).sum ≤ 8) (hst : st0 = As.reverse ++ st) (hst2 : o.toList ++ st = st2) (d : decode b pc = .ok (.invokestatic idx, 3)) (kk : G p l e R s m args below meth c n g (X) h0 (cells + mc) (slots + ms) Q (pc + 3) lv (st2) h') : G p l e R s m args below meth c n g (X) h0 (cells) (slots) Q (pc) lv (st0) h := by
  subst hst2
  intro H locs ls hW hS hl T9 hT X9
  have hsub := AF.sub hW hS.1
  have hr := va_runS (p := p) (l := l) (e := e) (R := R) (s := s) (m := m) (args := args) (below := below) (meth := meth) (c := c) (H := H) (locs := locs) (cells := cells) (slots := slots) (g := F0 m pc ls st0) (As := As) (rest := st) (n := As.length) ⟨C.1, C.2.1, C.2.2.1, C.2.2.2.2.1, C.2.2.2.2.2.1⟩ (cl g X H.size) (va_cwS As.length C.2.2.2.2.2.1 (good_call3 w1 w2 w4 w5) rfl rfl rfl hd hR)
    ⟨WPreX.blind, fun U hU hWU => ⟨rfl, ⟨by rw [hU], by rw [hU]; exact hW.sub (fun _ _ => trivial), va_K.moved hWU.alike C.2.2.2.2.2.2.2⟩, by rw [hU]; exact TX.warm hWU ((TT.kept hS.2.1).narrow hsub)⟩⟩ rfl rfl hl.1 hst (lv_room h8) d hcs T9 hT X9
  obtain ⟨v, st₀, t, T', L, e0, X', hL, e1, e2, ⟨⟨hv, hW1, hK1⟩, hz, hkk⟩, go⟩ := hr
  cases hv
  rw [e0] at hz hkk
  obtain ⟨t2, a1, b1⟩ := kk T'.heap (locs ++ L) ls (by rw [e1]; exact hW1.sub hsub) ⟨Nat.le_trans hS.1 (by rw [e1]; exact hz), fun q h1 h2 => by rw [e1, hkk q (Nat.lt_of_lt_of_le h1 hS.1) (fun z => h2 (hsub q z))]; exact hS.2.1 q h1 h2, fun q hq9 => by
      rcases List.mem_append.mp hq9 with h9 | h9
      · exact hS.2.2 q h9
      · exact hsub _ (hL q h9)⟩ hl T' rfl X'
  exact ⟨t2, go t2 a1, b1⟩
theorem G.callL0 (C : Cx p s m args meth c b n own ret g) (TT : TX l (AF X h0 s.heap.size) s s.heap) {y : MethodName} {b' : ByteArray} {n' : Nat} {ret' : Option FieldType} {fr lo : Nat} {As st0 st2 : List Value} {idx : Nat} {o : Option Value} {h' : PH} (cl : CL l y b' n' ret' fr lo 0 0 As h o h')
    (w1 : Cond.methodLink own idx y ∈ wsL_law) (w2 : Cond.static y ∈ wsL_law) (w4 : Cond.initialized y.cls ∈ wsL_law) (w5 : Cond.code y b' n' ret' ∈ wsL_law)
    (hd : y.cls ≠ "java/lang/invoke/MethodHandle" ∧ y.cls ≠ "java/lang/invoke/VarHandle" ∧ (parseMethodDescriptor y.desc).map (fun d => d.parameters.length) = some As.length) (hR : fr + 1 ≤ R.frames ∧ 8 + (n' + 11) + lo ≤ R.locals) (hcs : cells ≤ R.cells ∧ slots ≤ R.slots)
    (h8 : (st.map fun v => v.category).sum ≤ 8) (hst : st0 = As.reverse ++ st) (hst2 : o.toList ++ st = st2) (d : decode b pc = .ok (.invokestatic idx, 3)) (kk : G p l e R s m args below meth c n g (X) h0 (cells) (slots) Q (pc + 3) lv (st2) h') : G p l e R s m args below meth c n g (X) h0 (cells) (slots) Q (pc) lv (st0) h := by
  subst hst2
  intro H locs ls hW hS hl T9 hT X9
  have hsub := AF.sub hW hS.1
  have hr := va_runS (p := p) (l := l) (e := e) (R := R) (s := s) (m := m) (args := args) (below := below) (meth := meth) (c := c) (H := H) (locs := locs) (cells := cells) (slots := slots) (g := F0 m pc ls st0) (As := As) (rest := st) (n := As.length) ⟨C.1, C.2.1, C.2.2.1, C.2.2.2.2.1, C.2.2.2.2.2.1⟩ (cl g X H.size) (va_cwS As.length C.2.2.2.2.2.1 (good_call3 w1 w2 w4 w5) rfl rfl rfl hd hR)
    ⟨WPreX.blind, fun U hU hWU => ⟨rfl, ⟨by rw [hU], by rw [hU]; exact hW.sub (fun _ _ => trivial), va_K.moved hWU.alike C.2.2.2.2.2.2.2⟩, by rw [hU]; exact TX.warm hWU ((TT.kept hS.2.1).narrow hsub)⟩⟩ rfl rfl hl.1 hst (lv_room h8) d hcs T9 hT X9
  obtain ⟨v, st₀, t, T', L, e0, X', hL, e1, e2, ⟨⟨hv, hW1, hK1⟩, hz, hkk⟩, go⟩ := hr
  cases hv
  rw [e0] at hz hkk
  obtain ⟨t2, a1, b1⟩ := kk T'.heap (locs ++ L) ls (by rw [e1]; exact hW1.sub hsub) ⟨Nat.le_trans hS.1 (by rw [e1]; exact hz), fun q h1 h2 => by rw [e1, hkk q (Nat.lt_of_lt_of_le h1 hS.1) (fun z => h2 (hsub q z))]; exact hS.2.1 q h1 h2, fun q hq9 => by
      rcases List.mem_append.mp hq9 with h9 | h9
      · exact hS.2.2 q h9
      · exact hsub _ (hL q h9)⟩ hl T' rfl X'
  exact ⟨t2, go t2 a1, b1⟩
theorem G.callC (C : Cx p s m args meth c b n own ret g) {b9 lL : Nat} {xs : Nat → Int32} (hX : va_X b9 lL xs s s.heap) (hbl : b9 < s.heap.size) (hbo : ¬ AF X h0 s.heap.size b9) {y : MethodName} {b' : ByteArray} {n' : Nat} {fr lo : Nat} {As st0 st2 : List Value} {idx : Nat} {o : Option Value} (cc : CC l y b' n' fr lo b9 lL xs As h o)
    (w1 : Cond.methodLink own idx y ∈ wsL_law) (w2 : Cond.static y ∈ wsL_law) (w4 : Cond.initialized y.cls ∈ wsL_law) (w5 : Cond.code y b' n' (some .int) ∈ wsL_law)
    (hd : y.cls ≠ "java/lang/invoke/MethodHandle" ∧ y.cls ≠ "java/lang/invoke/VarHandle" ∧ (parseMethodDescriptor y.desc).map (fun d => d.parameters.length) = some As.length) (hR : fr + 1 ≤ R.frames ∧ 8 + (n' + 11) + lo ≤ R.locals) (hcs : cells ≤ R.cells ∧ slots ≤ R.slots)
    (h8 : (st.map fun v => v.category).sum ≤ 8) (hst : st0 = As.reverse ++ st) (hst2 : o.toList ++ st = st2) (d : decode b pc = .ok (.invokestatic idx, 3)) (kk : G p l e R s m args below meth c n g (X) h0 (cells) (slots) Q (pc + 3) lv (st2) h) : G p l e R s m args below meth c n g (X) h0 (cells) (slots) Q (pc) lv (st0) h := by
  subst hst2
  intro H locs ls hW hS hl T9 hT X9
  have hsub := AF.sub hW hS.1
  have hr := va_runS (p := p) (l := l) (e := e) (R := R) (s := s) (m := m) (args := args) (below := below) (meth := meth) (c := c) (H := H) (locs := locs) (cells := cells) (slots := slots) (g := F0 m pc ls st0) (As := As) (rest := st) (n := As.length) ⟨C.1, C.2.1, C.2.2.1, C.2.2.2.2.1, C.2.2.2.2.2.1⟩ (cc g X H.size (Nat.lt_of_lt_of_le hbl hS.1) (fun z => hbo (hsub _ z))) (va_cwS As.length C.2.2.2.2.2.1 (good_call3 w1 w2 w4 w5) rfl rfl rfl hd hR)
    ⟨WPreC.blind, fun U hU hWU => ⟨rfl, ⟨by rw [hU], by rw [hU]; exact hW.sub (fun _ _ => trivial), va_K.moved hWU.alike C.2.2.2.2.2.2.2⟩, by rw [hU]; exact va_X.moved hWU.alike (hX.kept (hS.2.1 _ hbl hbo))⟩⟩ rfl rfl hl.1 hst (lv_room h8) d hcs T9 hT X9
  obtain ⟨v, st₀, t, T', L, e0, X', hL, e1, e2, ⟨⟨hv, hW1, hK1⟩, hz, hkk⟩, go⟩ := hr
  cases hv
  rw [e0] at hz hkk
  obtain ⟨t2, a1, b1⟩ := kk T'.heap (locs ++ L) ls (by rw [e1]; exact hW1.sub hsub) ⟨Nat.le_trans hS.1 (by rw [e1]; exact hz), fun q h1 h2 => by rw [e1, hkk q (Nat.lt_of_lt_of_le h1 hS.1) (fun z => h2 (hsub q z))]; exact hS.2.1 q h1 h2, fun q hq9 => by
      rcases List.mem_append.mp hq9 with h9 | h9
      · exact hS.2.2 q h9
      · exact hsub _ (hL q h9)⟩ hl T' rfl X'
  exact ⟨t2, go t2 a1, b1⟩
theorem G.zretC (C : Cx p s m args meth c b n own ret g) {v : Int32} {ty : FieldType} {mc ms : Nat} (hcs : cells ≤ mc ∧ slots ≤ ms) (hret : ret = some ty) (hn : narrow ty (.int v) = .int v) (d : decode b pc = .ok (.ireturn, 1)) : G p l e R s m args below meth c n g X h0 cells slots (MQ below (QW g X h0 s.heap.size (some (.int v)) h) args s mc ms (AF X h0 s.heap.size)) pc lv [.int v] h := by
  intro H locs ls hW hS hl
  refine W.widen (k := mc) (n := ms) hcs.1 hcs.2 ?_
  exact W.zret (v := v) C.1 C.2.1 (C.2.2.2.1.trans hret) hn (fun t ht hWm => ⟨⟨rfl, by rw [ht]; exact hW, va_K.moved hWm.alike C.2.2.2.2.2.2.2⟩, hS.F ht⟩) hS.2.2 d C.2.2.2.2.2.2.1
theorem G.zretA (C : Cx p s m args meth c b n own ret g) {o : Nat} (ho : s.heap.size ≤ o) {f : Nat → Int32} {v : Int32} {ty : FieldType} {mc ms : Nat} (hcs : cells ≤ mc ∧ slots ≤ ms) (hret : ret = some ty) (hn : narrow ty (.int v) = .int v) (d : decode b pc = .ok (.ireturn, 1)) : G p l e R s m args below meth c n g (XA g o f X) h0 cells slots (MQ below (QW g X h0 s.heap.size (some (.int v)) h) args s mc ms (AF X h0 s.heap.size)) pc lv [.int v] h := by
  intro H locs ls hW hS hl
  rw [AF_XA ho] at hW hS
  exact G.zretC C hcs hret hn d H locs ls hW.dropA hS hl
theorem G.newA (C : Cx p s m args meth c b n own ret g) (w : Cond.arrayClass .int ∈ wsL_law) (hcs : cells + 1 ≤ R.cells ∧ slots + 60 ≤ R.slots) (d : decode b pc = .ok (.newarray .int, 2)) (kk : ∀ o : Nat, s.heap.size ≤ o → G p l e R s m args below meth c n g (XA g o (fun _ => 0) X) h0 (cells + 1) (slots + 60) Q (pc + 2) lv (.ref o :: st) h) : G p l e R s m args below meth c n g (X) h0 (cells) (slots) Q (pc) lv (.int 60 :: st) h := by
  intro H locs ls hW hS hl
  refine va_newaK (atype := .int) (N := 60) C.1 C.2.1 (C.2.2.2.2.2.1 _ w) rfl d rfl (by decide) (by decide) (by decide) hcs.1 hcs.2 rfl fun H1 cA e1 z1 o1 hAr hNm => ?_
  have hcA : cA = g.2.1 := by
    have h2 := ((C.2.2.2.2.2.2.2).2 0 _ rfl).2
    exact Option.some.inj (hNm.symm.trans h2)
  subst hcA
  have hsz := hS.1
  refine kk H.size hsz H1 locs ls ?_ ?_ hl
  · rw [AF_XA hsz]
    exact hW.consA rfl (Or.inr (Or.inr hsz)) o1 (by show H1[H.size]? = some (vp_cell _ _); rw [vp_cell_i]; exact e1)
  · rw [AF_XA hsz]
    exact ⟨by omega, fun q h1 h2 => (o1 q (Nat.lt_of_lt_of_le h1 hsz)).trans (hS.2.1 q h1 h2), hS.2.2⟩
theorem G.iastA (C : Cx p s m args meth c b n own ret g) {o : Nat} (ho : s.heap.size ≤ o) {f : Nat → Int32} {i x : Int32} (hin : ¬ (i < 0 ∨ 60 ≤ i.toNatClampNeg)) (d : decode b pc = .ok (.iastore, 1)) (kk : G p l e R s m args below meth c n g (XA g o (upd f i.toNatClampNeg x) X) h0 (cells) (slots) Q (pc + 1) lv (st) h) : G p l e R s m args below meth c n g (XA g o f X) h0 (cells) (slots) Q (pc) lv (.int x :: .int i :: .ref o :: st) h := by
  intro H locs ls hW hS hl
  obtain ⟨L, F, h1, hP, hD⟩ := hW
  refine va_iast C.1 C.2.1 C.2.2.2.2.2.2.2 hP hD hS 0 0 (cA := g.2.1) (n := 60) (f := f) rfl rfl hin d (fun H1 locs1 p1 d1 s1 => ?_)
  refine kk H1 locs1 ls ⟨L, F, h1, p1, ?_⟩ ?_ hl
  · rw [AF_XA ho] at d1 ⊢; exact d1
  · rw [AF_XA ho] at s1 ⊢; exact s1
theorem G.ialdA (C : Cx p s m args meth c b n own ret g) {o : Nat} {f : Nat → Int32} {i : Int32} (hin : ¬ (i < 0 ∨ 60 ≤ i.toNatClampNeg)) (d : decode b pc = .ok (.iaload, 1)) (kk : G p l e R s m args below meth c n g (XA g o f X) h0 (cells) (slots) Q (pc + 1) lv (.int (f i.toNatClampNeg) :: st) h) : G p l e R s m args below meth c n g (XA g o f X) h0 (cells) (slots) Q (pc) lv (.int i :: .ref o :: st) h := by
  intro H locs ls hW hS hl
  have hW9 := hW
  obtain ⟨L, F, h1, hP, hD⟩ := hW
  exact va_iald C.1 C.2.1 C.2.2.2.2.2.2.2 hP 0 0 (cA := g.2.1) (n := 60) (f := f) rfl rfl hin d (kk H locs ls hW9 hS hl)
end GL9
