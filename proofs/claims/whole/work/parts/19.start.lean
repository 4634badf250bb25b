theorem m9_0 : Cond.classLink RL 8 RX5 ∈ wsL_law := wc_1 _ (List.mem_of_getElem? (i := 0) rfl)
theorem m9_1 : Cond.instantiable RX5 6 ∈ wsL_law := wc_1 _ (List.mem_of_getElem? (i := 1) rfl)
theorem m9_3 : Cond.classLink RL 96 RX6 ∈ wsL_law := wc_1 _ (List.mem_of_getElem? (i := 3) rfl)
theorem m9_4 : Cond.instantiable RX6 16 ∈ wsL_law := wc_1 _ (List.mem_of_getElem? (i := 4) rfl)
theorem m9_7 : Cond.methodLink RL 95 yX5_init ∈ wsL_law := wc_1 _ (List.mem_of_getElem? (i := 7) rfl)
theorem m9_8 : Cond.instanceMethod yX5_init ∈ wsL_law := wc_1 _ (List.mem_of_getElem? (i := 8) rfl)
theorem m9_9 : Cond.code yX5_init cX5_init 1 none ∈ wsL_law := wc_1 _ (List.mem_of_getElem? (i := 9) rfl)
theorem m9_66 : Cond.methodLink RL 98 yX6_init ∈ wsL_law := wc_3 _ (List.mem_of_getElem? (i := 18) rfl)
theorem m9_67 : Cond.instanceMethod yX6_init ∈ wsL_law := wc_3 _ (List.mem_of_getElem? (i := 19) rfl)
theorem m9_68 : Cond.code yX6_init cX6_init 2 none ∈ wsL_law := wc_3 _ (List.mem_of_getElem? (i := 20) rfl)
theorem m9_6 : Cond.arrayClass .long ∈ wsL_law := wc_1 _ (List.mem_of_getElem? (i := 6) rfl)
/-! THE LAW'S SMALL METHODS: the row of one long (out) lies beside the pure heap -/
def XO (g : GC) (o : Nat) (f : Nat → Int64) : va_W := [(o, .inl (g.2.2.2.2, 1, .inr (.inl f)))]
theorem AF_XO (g : GC) (o : Nat) (f f' : Nat → Int64) (h : PH) (sz : Nat) : AF (XO g o f) h sz = AF (XO g o f') h sz := by
  funext q
  apply propext
  unfold AF XO
  constructor
  · rintro (⟨e, hq⟩ | hq)
    · rw [List.mem_singleton] at hq
      cases hq
      exact Or.inl ⟨_, List.mem_singleton.mpr rfl⟩
    · exact Or.inr hq
  · rintro (⟨e, hq⟩ | hq)
    · rw [List.mem_singleton] at hq
      cases hq
      exact Or.inl ⟨_, List.mem_singleton.mpr rfl⟩
    · exact Or.inr hq
def NC (U : State) : Prop := ∀ E ∈ exns, ∀ F ∈ exns, E ≠ F → va_Nc E F U
theorem NC.moved {u U : State} (hvm : u.vm.Alike U.vm) (h : NC u) : NC U := fun E hE F hF hne => va_Nc.moved hvm (h E hE F hF hne)
def WPreW (l : Launch) (g : GC) (o : Nat) (f : Nat → Int64) (h : PH) (sz : Nat) (U : State) : Prop := WPreX l g (XO g o f) h sz U ∧ NC U
theorem WPreW.blind {l : Launch} {g : GC} {o : Nat} {f : Nat → Int64} {h : PH} {sz : Nat} {av : List Value} : FrameBlind (va_Pc av (WPreW l g o f h sz)) :=
  fun a U k mk q => ⟨q.1, (WPreX.blind a U k mk ⟨q.1, q.2.1⟩).2, NC.moved (u := U) (U := U.calling k mk a) (Vm.Alike.refl U.vm) q.2.2⟩
def QL (g : GC) (o : Nat) (f : Nat → Int64) (h : PH) (sz : Nat) (k : Int32) (h' : PH) (f' : Nat → Int64) : Array Value → State → Outcome → State → Prop := fun _ st oc t => (oc = .returned (some (.int k)) ∧ WW g (AF (XO g o f) h sz) (XO g o f') h' t.heap ∧ va_K g.1 vwCl (wty g) t) ∧ va_F (AF (XO g o f) h sz) st t
def CW (l : Launch) (y : MethodName) (b : ByteArray) (n : Nat) (hh : List (Nat × Nat × Nat × Nat)) (fr lo : Nat) (av : List Value) (o : Nat) (h : PH) (f : Nat → Int64) (k : Int32) (h' : PH) (f' : Nat → Int64) : Prop :=
  ∀ (g : GC) (sz : Nat), Met l y (Cond.codeWith y b n (some .int) hh :: wsL_law) ({ frames := fr, cells := 1, slots := 6, locals := lo } : Room) (va_Pc av (WPreW l g o f h sz)) (QL g o f h sz k h' f') 1 6 (AF (XO g o f) h sz)
theorem CW.of {l : Launch} {y : MethodName} {b : ByteArray} {n : Nat} {hh : List (Nat × Nat × Nat × Nat)} {fr lo : Nat} {av : List Value} {o : Nat} {h h' : PH} {f f' : Nat → Int64} {k : Int32} {own : String} (hown : own = y.cls) (hy : plainName y.cls = true) (hlen : (lg_sl av).length ≤ n)
    (body : ∀ (p : Program) (e : Env) (R : Room) (s : State) (m : MethodId) (args : Array Value) (below : List Frame) (meth : Method) (c : Code) (g : GC), R = ({ frames := fr, cells := 1, slots := 6, locals := lo } : Room) → Cx p s m args meth c b n own (some .int) g → TX l (AF (XO g o f) h s.heap.size) s s.heap → NC s → c.exceptionTable.toList = tableOf hh →
      G p l e R s m args below meth c n g (XO g o f) h 0 0 (MQ below (QL g o f h s.heap.size k h' f') args s 1 6 (AF (XO g o f) h s.heap.size)) 0 (lv_args 0 av) [] h) : CW l y b n hh fr lo av o h f k h' f' := by
  intro g sz
  refine va_MetW (cc := b) (maxL := n) (ret := some .int) (hh := hh) hy rfl ?_
  intro p e s m args below meth c s₁ B hml hv
  obtain ⟨rfl, ⟨⟨hsz, hW, hK⟩, hT⟩, hN⟩ := hv
  have hts := atoms_spec (ws := Cond.codeWith y b n (some .int) hh :: wsL_law) B.pre
  subst hsz
  have hl := lv_entry av (n := n) hlen
  rw [lg_entry_eq]
  exact body p e _ s m av.toArray below meth c g rfl ⟨B.exec, B.bytes, hml, B.returns, by rw [hown]; exact findClass_of_methodNamed B.named, fun w hw => hts w (List.mem_cons_of_mem _ hw), B.notSynchronized, hK⟩ hT hN (vx_table (x := y) B (hts _ List.mem_cons_self)) s.heap [] _ (hW.self _) va_S.rf hl

section GW9
variable {p : Program} {l : Launch} {e : Env} {R : Room} {s : State} {m : MethodId} {args : Array Value} {below : List Frame} {meth : Method} {c : Code} {n : Nat} {g : GC} {X : va_W} {h0 h : PH} {cells slots : Nat} {Q : State → Prop} {pc : Nat} {lv : List (Nat × Value)} {st : List Value} {b : ByteArray} {own : String} {ret : Option FieldType}
theorem G.lastX (C : Cx p s m args meth c b n own ret g) {o : Nat} {f : Nat → Int64} {x : Int64} (d : decode b pc = .ok (.lastore, 1)) (kk : G p l e R s m args below meth c n g (XO g o (vp_updL f 0 x)) h0 (cells) (slots) (Q) (pc + 1) lv (st) h) : G p l e R s m args below meth c n g (XO g o f) h0 (cells) (slots) (Q) (pc) lv (.long x :: .int 0 :: .ref o :: st) h := by
  intro H locs ls hW hS hl
  obtain ⟨L, F, h1, hP, hD⟩ := hW
  refine va_last C.1 C.2.1 C.2.2.2.2.2.2.2 hP hD hS 0 3 (cA := g.2.2.2.2) (n := 1) (f := f) rfl rfl (show vp_in 0 1 by unfold vp_in; decide) d (fun H1 locs1 p1 d1 s1 => ?_)
  have e9 := AF_XO g o f (vp_updL f 0 x) h0 s.heap.size
  refine kk H1 locs1 ls ⟨L, F, h1, p1, ?_⟩ ?_ hl
  · rw [← e9]; exact d1
  · rw [← e9]; exact s1
theorem G.lldX (C : Cx p s m args meth c b n own ret g) {o : Nat} {f : Nat → Int64} (d : decode b pc = .ok (.laload, 1)) (kk : G p l e R s m args below meth c n g (XO g o f) h0 (cells) (slots) (Q) (pc + 1) lv (.long (f 0) :: st) h) : G p l e R s m args below meth c n g (XO g o f) h0 (cells) (slots) (Q) (pc) lv (.int 0 :: .ref o :: st) h := by
  intro H locs ls hW hS hl
  have hW9 := hW
  obtain ⟨L, F, h1, hP, hD⟩ := hW
  exact va_lald C.1 C.2.1 C.2.2.2.2.2.2.2 hP 0 3 (cA := g.2.2.2.2) (n := 1) (f := f) rfl rfl (show vp_in 0 1 by unfold vp_in; decide) d (kk H locs ls hW9 hS hl)
theorem G.iretW (C : Cx p s m args meth c b n own (some .int) g) {o : Nat} {f f' : Nat → Int64} {k : Int32} (hcs : cells ≤ 1 ∧ slots ≤ 6) (d : decode b pc = .ok (.ireturn, 1)) : G p l e R s m args below meth c n g (XO g o f') h0 (cells) (slots) (MQ below (QL g o f h0 s.heap.size k h f') args s 1 6 (AF (XO g o f) h0 s.heap.size)) (pc) lv ([.int k]) h := by
  intro H locs ls hW hS hl
  have e9 := AF_XO g o f f' h0 s.heap.size
  rw [← e9] at hW hS
  refine W.widen (k := 1) (n := 6) hcs.1 hcs.2 ?_
  exact W.iret (v := k) C.1 C.2.1 C.2.2.2.1 (fun t ht hWm => ⟨⟨rfl, by rw [ht]; exact hW, va_K.moved hWm.alike C.2.2.2.2.2.2.2⟩, hS.F ht⟩) hS.2.2 d C.2.2.2.2.2.2.1
theorem G.callXc (C : Cx p s m args meth c b n own ret g) (TT : TX l (AF X h0 s.heap.size) s s.heap) {y : MethodName} {b' : ByteArray} {n' : Nat} {ret' : Option FieldType} {fr lo : Nat} {a ci : Nat} {As st0 : List Value} {CN : String} {T : u_T} {N idx : Nat} {r1 : RX} {E : String} {hx : PH} (cx : CX l y b' n' ret' fr lo (.ref a :: As) h r1) (hr1 : r1 = .error (E, hx)) (hRc : 1 ≤ R.cells ∧ 6 ≤ R.slots) (hk : kO h a ci) (hc : vwCl[ci]? = some (CN, T, N))
    (w1 : Cond.methodLink own idx y ∈ wsL_law) (w2 : Cond.instanceMethod y ∈ wsL_law) (w3 : Cond.selects CN y y ∈ wsL_law) (w4 : Cond.initialized CN ∈ wsL_law) (w5 : Cond.code y b' n' ret' ∈ wsL_law)
    (hd : y.cls = CN ∧ y.cls ≠ "java/lang/invoke/MethodHandle" ∧ y.cls ≠ "java/lang/invoke/VarHandle" ∧ (parseMethodDescriptor y.desc).map (fun d => d.parameters.length) = some As.length) (hR : fr + 1 ≤ R.frames ∧ 8 + (n' + 11) + lo ≤ R.locals)
    (h8 : (st.map fun v => v.category).sum ≤ 8) (hst : st0 = As.reverse ++ .ref a :: st) (d : decode b pc = .ok (.invokevirtual idx, 3))
    (pre : List ExceptionTableEntry) (x : ExceptionTableEntry) (suf : List ExceptionTableEntry) (hsplit : c.exceptionTable.toList = pre ++ x :: suf)
    (hpass : ∀ z ∈ pre, covers z pc = false ∨ (z.catchType ≠ 0 ∧ ∃ nm : String, Cond.classLink own z.catchType nm ∈ wsL_law ∧ va_Nc E nm s)) (hcov : covers x pc = true) (hct : x.catchType ≠ 0) (hlink : Cond.classLink own x.catchType E ∈ wsL_law) (hE : E ∈ exns)
    (kk : ∀ q9 : Nat, G p l e R s m args below meth c n g (X) h0 (0 + 1) (0 + 6) (Q) (x.handlerPc) lv ([.ref q9]) hx) : G p l e R s m args below meth c n g (X) h0 (0) (0) (Q) (pc) lv (st0) h := by
  subst hr1
  have hcs : 0 + 1 ≤ R.cells ∧ 0 + 6 ≤ R.slots := ⟨hRc.1, hRc.2⟩
  intro H locs ls hW hS hl T9 hT X9
  obtain ⟨fs, hfs⟩ := hk
  obtain ⟨ws, q0, hP, hD, hq, -⟩ := hW.at hfs
  have hsub := AF.sub hW hS.1
  have hr9 := vx_runV (p := p) (l := l) (e := e) (R := R) (s := s) (m := m) (args := args) (below := below) (meth := meth) (c := c) (H := H) (locs := locs) (cells := 0) (slots := 0) (g := F0 m pc ls st0) (As := As) (rest := st) (b := a) (C := CN) (n := As.length) ⟨C.1, C.2.1, C.2.2.1, C.2.2.2.2.1, C.2.2.2.2.2.1⟩ (cx g X H.size) (cwV As.length C.2.2.2.2.2.1 (good_call (ws := []) w1 w2 w3 w4 w5) rfl rfl rfl hd hR)
    ⟨WPreX.blind, va_recv C.2.2.2.2.2.2.2 hP hc hq, fun U hU hWU => ⟨rfl, ⟨by rw [hU], by rw [hU]; exact hW.sub (fun _ _ => trivial), va_K.moved hWU.alike C.2.2.2.2.2.2.2⟩, by rw [hU]; exact TX.warm hWU ((TT.kept hS.2.1).narrow hsub)⟩⟩ rfl rfl hl.1 hst (lv_room h8) d hcs T9 hT X9
  rcases hr9 with ⟨v, st₀, t, T', L, e0, X', hL, e1, e2, ⟨o1, h1, hr1, ⟨hv, hW1, hK1⟩, hz, hkk⟩, go⟩ | ⟨q9, st₀, t, T', L, E9, ce, e0, X', hL, e1, e2, ⟨hx1, hr1, ⟨hW1, hK1⟩, hz, hkk⟩, hce, hcv, hcl, go⟩
  · cases hr1
  · obtain ⟨rfl, rfl⟩ := Prod.mk.inj (Except.error.inj hr1)
    rw [e0] at hz hkk
    have s1 : va_S (AF X h0 s.heap.size) s.heap T'.heap (locs ++ L) := ⟨Nat.le_trans hS.1 (by rw [e1]; exact hz), fun q h1 h2 => by rw [e1, hkk q (Nat.lt_of_lt_of_le h1 hS.1) (fun z => h2 (hsub q z))]; exact hS.2.1 q h1 h2, fun q hq9 => by
        rcases List.mem_append.mp hq9 with h9 | h9
        · exact hS.2.2 q h9
        · exact hsub _ (hL q h9)⟩
    have hWn : WW g (AF X h0 s.heap.size) X hx T'.heap := by rw [e1]; exact hW1.sub hsub
    have k9 := vx_catch (p := p) (l := l) (e := e) (R := R) (s := s) (m := m) (args := args) (below := below) (meth := meth) (c := c) (H := T'.heap) (locs := locs ++ L) (cells := 0 + 1) (slots := 0 + 6) (Q := Q) (ls := ls) (rest := st) (pc := pc) (own := own) (name := E) (E := E) (ce := ce) (q := q9) C.2.2.2.2.1 pre x suf hsplit (fun z hz => (hpass z hz).imp id (fun w => ⟨w.1, w.2.choose, C.2.2.2.2.2.1 _ w.2.choose_spec.1, w.2.choose_spec.2⟩)) hcov hct (C.2.2.2.2.2.1 _ hlink) (va_Nw.use rfl (TT.2.2.2.2.1 E hE)) (by rw [e1]; exact hce) hcv hcl (kk q9 T'.heap (locs ++ L) ls hWn s1 hl)
    obtain ⟨t2, a1, b1⟩ := k9 T' rfl X'
    exact ⟨t2, go.trans a1, b1⟩
end GW9
  refine GZ.newO (ci := 4) C ⟨by show 601024 = _; omega, rfl⟩ rfl inlX5 tyX5 tyX5_ok m9_0 m9_1 m9_2 [.null, .null, .null, .null, .null, .int 0] (by decide +kernel) ⟨by omega, by omega⟩ dL_law_0 ?_
  refine GZ.dup C dL_law_3 rfl ?_
  refine GZ.callI C ao0 ao1 ⟨by show 601024 = _; omega, rfl⟩ (cz_X5_init hi5) rfl m9_7 m9_8 m9_2 m9_9 rfl kd_X5_init ⟨Nat.le_of_ble_eq_true rfl, Nat.le_of_ble_eq_true rfl⟩ ⟨by omega, by omega, by omega⟩ (Nat.le_of_ble_eq_true rfl) dL_law_4 ?_
  refine GZ.astore_n (lv' := [(1, .ref s.heap.size), (0, .ref b)]) C dL_law_7 rfl (by decide) rfl ?_
  refine GZ.newO (ci := 5) C ⟨by show 601024 = _; omega, rfl⟩ rfl inlX6 tyX6 tyX6_ok m9_3 m9_4 m9_5 [.int 0, .null, .null, .null, .int 0, .null, .int 0, .null, .int 0, .null, .int 0, .int 0, .int 0, .int 0, .int 0, .long 0] (by decide +kernel) ⟨by omega, by omega⟩ dL_law_8 ?_
  refine GZ.dup C dL_law_11 rfl ?_
  refine GZ.callI C ao0 ao1 ⟨by show 601024 = _; omega, rfl⟩ (cz_X6_init hi6) rfl m9_66 m9_67 m9_5 m9_68 rfl kd_X6_init ⟨Nat.le_of_ble_eq_true rfl, Nat.le_of_ble_eq_true rfl⟩ ⟨by omega, by omega, by omega⟩ (Nat.le_of_ble_eq_true rfl) dL_law_12 ?_
  refine GZ.astore_n (lv' := [(2, .ref (s.heap.size + 1 + 127)), (1, .ref s.heap.size), (0, .ref b)]) C dL_law_15 rfl (by decide) rfl ?_
  refine GZ.iconst (v := 1) C dL_law_16 (by decide) ?_
  refine GZ.newJ C ⟨by show 601024 = _; omega, rfl⟩ m9_6 ⟨by omega, by omega⟩ (by omega) dL_law_17 ?_
  refine G.astore_n (lv' := [(3, .ref (s.heap.size + 1 + 127 + 1 + 6)), (2, .ref (s.heap.size + 1 + 127)), (1, .ref s.heap.size), (0, .ref b)]) C dL_law_19 rfl (by decide) rfl ?_
  refine G.iconst (v := 0) C dL_law_20 (by decide) ?_
  refine G.istore (lv' := [(4, .int 0), (3, .ref (s.heap.size + 1 + 127 + 1 + 6)), (2, .ref (s.heap.size + 1 + 127)), (1, .ref s.heap.size), (0, .ref b)]) C dL_law_21 (by decide) rfl ?_
  refine G.sub C [4, 3, 2, 1, 0] (lv' := [(0, .ref b), (1, .ref s.heap.size), (2, .ref (s.heap.size + 1 + 127)), (3, .ref (s.heap.size + 1 + 127 + 1 + 6)), (4, .int 0)]) rfl ?_
  refine law_loop (l := l) C hX hbl (by omega) (TT _ (by omega)) (st_nc hg) ?_ 700 140 (by omega) 0 (h4, fun _ => 0) () hlp _ _ (by omega) (by omega)
  intro x4 hh cells slots hc hs H locs ls hW hS hl
  refine lv_iconst (v := 1) hx hb dL_law_1900 (by decide) ?_
  refine va_forget (fun q hq => ?_) ?_
  · rcases hS.2.2 q hq with ⟨e9, h9⟩ | ⟨e9, h9⟩ | h9
    · rw [XO, List.mem_singleton] at h9
      have h8 := (Prod.mk.inj h9).1
      omega
    · cases h9
    · exact h9
  · refine W.widen (k := 601024) (n := 7293034) (by omega) (by omega) ?_
    exact lw_ret (Drawn.sameBut.refl s.drawn lw_cs) hx hb hr hlocks dL_law_1901
