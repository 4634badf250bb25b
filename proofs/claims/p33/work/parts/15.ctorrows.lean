/-! CONSTRUCTORS: the heap's size is followed, so that new cells' addresses are known -/
def GZ (p : Program) (l : Launch) (e : Env) (R : Room) (s : State) (m : MethodId) (args : Array Value) (below : List Frame) (meth : Method) (c : Code) (n : Nat) (g : GC) (X : va_W) (h0 : PH) (zm sm : Nat) (Q : State → Prop) (z sl : Nat) (pc : Nat) (lv : List (Nat × Value)) (st : List Value) (h : PH) : Prop :=
  ∀ (H : Heap) (locs : List Loc) (ls : Array Slot), H.size = z → WW g (AF X h0 s.heap.size) X h H → va_S (AF X h0 s.heap.size) s.heap H locs → lv_has ls n lv → W p l e R s m args below meth c H locs (z - s.heap.size) sl Q (F0 m pc ls st)
theorem WW.push {g : GC} {A : Nat → Prop} {X : va_W} {h : PH} {H H1 : Heap} {z : Nat} {e : PC} (hW : WW g A X h H) (hz : H.size = z) (hA : A z) (oq : ∀ q : Nat, q < z → H1[q]? = H[q]?) (he : va_at g.1 vwCl (z, wcv g e) H1) : WW g A X (pu h z e) H1 := by
  obtain ⟨L, f, h1, hP, hD⟩ := hW
  have hnL : z ∉ L := by
    intro hL
    obtain ⟨k, hk⟩ := va_pl_get (X := X) (f := fun a => wcv g (f a)) hL
    have h2 : z < H.size := (hP k _ hk).lt
    omega
  have heq : (X ++ va_pl L (fun a => wcv g (f a))) ++ [(z, wcv g e)] = X ++ va_pl (L ++ [z]) (fun a => wcv g (if a = z then e else f a)) := by
    rw [List.append_assoc, va_pl_push hnL]
    congr 2
    funext b
    unfold va_up
    by_cases hb : b = z <;> simp [hb]
  refine ⟨L ++ [z], fun b => if b = z then e else f b, fun b => ?_, ?_, ?_⟩
  · unfold pu
    by_cases hb : b = z
    · subst hb
      rw [if_pos rfl, if_pos (List.mem_append_right _ List.mem_cons_self)]
      exact congrArg some (if_pos rfl).symm
    · rw [if_neg hb, h1 b]
      by_cases hbL : b ∈ L
      · rw [if_pos hbL, if_pos (List.mem_append_left _ hbL)]
        exact congrArg some (if_neg hb).symm
      · rw [if_neg hbL, if_neg (fun q => (List.mem_append.mp q).elim hbL (fun q => hb (List.mem_singleton.mp q)))]
  · rw [← heq]
    refine (hP.kept (fun k q hk => oq q.1 (by have := (hP k q hk).lt; omega))).app (fun k q hk => ?_)
    have hz9 : k < 1 := (List.getElem?_eq_some_iff.mp hk).1
    rw [show k = 0 by omega] at hk
    cases hk
    exact he
  · rw [← heq]
    exact hD.push hP hz.symm hA
def QZ (g : GC) (X : va_W) (h : PH) (sz : Nat) (h' : PH) (z' : Nat) : Array Value → State → Outcome → State → Prop := fun _ st oc t => (oc = .returned none ∧ WW g (AF X h sz) X h' t.heap ∧ va_K g.1 vwCl (wty g) t ∧ t.heap.size = z') ∧ va_F (AF X h sz) st t
def WPreZ (g : GC) (X : va_W) (h : PH) (z : Nat) (U : State) : Prop := WPre g X h z U ∧ va_AO "PennantRopes$Rope" U ∧ va_AO "PennantRopes$State" U
theorem WPreZ.blind {g : GC} {X : va_W} {h : PH} {sz : Nat} {av : List Value} : FrameBlind (va_Pc av (WPreZ g X h sz)) :=
  fun a U k mk q => ⟨q.1, (WPre.blind a U k mk ⟨q.1, q.2.1⟩).2, va_AO.moved (u := U) (U := U.calling k mk a) (Vm.Alike.refl U.vm) q.2.2.1, va_AO.moved (u := U) (U := U.calling k mk a) (Vm.Alike.refl U.vm) q.2.2.2⟩
def CZ (l : Launch) (y : MethodName) (b : ByteArray) (n : Nat) (fr lo : Nat) (av : List Value) (h : PH) (z zm sm : Nat) (h' : PH) (z' : Nat) : Prop :=
  ∀ (g : GC) (X : va_W), Met l y (Cond.code y b n none :: wsL_law) ({ frames := fr, cells := zm - z, slots := sm, locals := lo } : Room) (va_Pc av (WPreZ g X h z)) (QZ g X h z h' z') (zm - z) sm (AF X h z)
theorem CZ.of {l : Launch} {y : MethodName} {b : ByteArray} {n : Nat} {fr lo : Nat} {av : List Value} {h h' : PH} {z zm sm z' : Nat} {own : String} (hown : own = y.cls) (hy : plainName y.cls = true) (hlen : (lg_sl av).length ≤ n)
    (body : ∀ (p : Program) (e : Env) (R : Room) (s : State) (m : MethodId) (args : Array Value) (below : List Frame) (meth : Method) (c : Code) (g : GC) (X : va_W), R = ({ frames := fr, cells := zm - z, slots := sm, locals := lo } : Room) → s.heap.size = z → meth.name = y.name → va_AO "PennantRopes$Rope" s → va_AO "PennantRopes$State" s → Cx p s m args meth c b n own none g →
      GZ p l e R s m args below meth c n g X h zm sm (MQ below (QZ g X h z h' z') args s (zm - z) sm (AF X h z)) z 0 0 (lv_args 0 av) [] h) : CZ l y b n fr lo av h z zm sm h' z' := by
  intro g X
  refine Met.ofW (cc := b) (maxL := n) (ret := none) hy rfl ?_
  intro p e s m args below meth c s₁ B hml hv
  obtain ⟨rfl, ⟨hsz, hW, hK⟩, ao0, ao1⟩ := hv
  have hts := atoms_spec (ws := Cond.code y b n none :: wsL_law) B.pre
  have hl := lv_entry av (n := n) hlen
  rw [lg_entry_eq]
  have k := body p e _ s m av.toArray below meth c g X rfl hsz (name_of_methodNamed B.named B.method).1 ao0 ao1 ⟨B.exec, B.bytes, hml, B.returns, by rw [hown]; exact findClass_of_methodNamed B.named, fun w hw => hts w (List.mem_cons_of_mem _ hw), B.notSynchronized, hK⟩ s.heap [] _ hsz (hW.self _) va_S.rf hl
  exact W.cs (by omega) rfl k

abbrev HZ : Type := PH × Nat × Nat
def nwC (x : HZ) (zm sm N : Nat) (e : PC) : Option HZ := if x.2.1 + 1 ≤ zm ∧ x.2.2 + N ≤ sm then some (pu x.1 x.2.1 e, x.2.1 + 1, x.2.2 + N) else none
theorem nwC_at {x q : HZ} {zm sm N : Nat} {e : PC} (h : nwC x zm sm N e = some q) : (x.2.1 + 1 ≤ zm ∧ x.2.2 + N ≤ sm) ∧ q = (pu x.1 x.2.1 e, x.2.1 + 1, x.2.2 + N) := by
  unfold nwC at h
  obtain ⟨c, h⟩ := gd_ok h
  exact ⟨c, (Option.some.inj h).symm⟩
def clC (x : HZ) (zm sm cc sc : Nat) (r : Option (PH × Nat)) : Option HZ := r.bind fun q => if q.2 = x.2.1 + cc ∧ x.2.1 + cc ≤ zm ∧ x.2.2 + sc ≤ sm then some (q.1, x.2.1 + cc, x.2.2 + sc) else none
theorem clC_at {x w : HZ} {zm sm cc sc : Nat} {r : Option (PH × Nat)} (h : clC x zm sm cc sc r = some w) : ∃ h', r = some (h', x.2.1 + cc) ∧ (x.2.1 + cc ≤ zm ∧ x.2.2 + sc ≤ sm) ∧ w = (h', x.2.1 + cc, x.2.2 + sc) := by
  unfold clC at h
  obtain ⟨⟨h', z'⟩, e, h⟩ := bind_some h
  obtain ⟨c, h⟩ := gd_ok h
  obtain ⟨c1, c2, c3⟩ := c
  refine ⟨h', ?_, ⟨c2, c3⟩, (Option.some.inj h).symm⟩
  rw [e]
  exact congrArg (fun y => some (h', y)) c1

section GZ9
variable {p : Program} {l : Launch} {e : Env} {R : Room} {s : State} {m : MethodId} {args : Array Value} {below : List Frame} {meth : Method} {c : Code} {n : Nat} {g : GC} {X : va_W} {h0 h : PH} {zm sm z sl : Nat} {Q : State → Prop} {pc : Nat} {lv : List (Nat × Value)} {st : List Value} {b : ByteArray} {own : String} {ret : Option FieldType}
theorem GZ.iconst (C : Cx p s m args meth c b n own ret g) {k : Int} {v : Int32} (d : decode b pc = .ok (.iconst k, 1)) (hv : Int32.ofInt k = v) (kk : GZ p l e R s m args below meth c n g X h0 zm sm Q (z) (sl) (pc + 1) lv (.int v :: st) h) : GZ p l e R s m args below meth c n g X h0 zm sm Q (z) (sl) (pc) lv (st) h := fun H locs ls hz hW hS hl => lv_iconst C.1 C.2.1 d hv (kk H locs ls hz hW hS hl)
theorem GZ.bipush (C : Cx p s m args meth c b n own ret g) {k : Int} {v : Int32} (d : decode b pc = .ok (.bipush k, 2)) (hv : (Int8.ofInt k).toInt32 = v) (kk : GZ p l e R s m args below meth c n g X h0 zm sm Q (z) (sl) (pc + 2) lv (.int v :: st) h) : GZ p l e R s m args below meth c n g X h0 zm sm Q (z) (sl) (pc) lv (st) h := fun H locs ls hz hW hS hl => lv_bipush C.1 C.2.1 d hv (kk H locs ls hz hW hS hl)
theorem GZ.sipush (C : Cx p s m args meth c b n own ret g) {k : Int} {v : Int32} (d : decode b pc = .ok (.sipush k, 3)) (hv : (Int16.ofInt k).toInt32 = v) (kk : GZ p l e R s m args below meth c n g X h0 zm sm Q (z) (sl) (pc + 3) lv (.int v :: st) h) : GZ p l e R s m args below meth c n g X h0 zm sm Q (z) (sl) (pc) lv (st) h := fun H locs ls hz hW hS hl => lv_sipush C.1 C.2.1 d hv (kk H locs ls hz hW hS hl)
theorem GZ.iload_n (C : Cx p s m args meth c b n own ret g) {i9 : Fin 4} {i : Nat} {x : Int32} (k : Nat) (d : decode b pc = .ok (.iload_n i9, 1)) (hi : (i9 : Nat) = i) (hk : lv[k]? = some (i, .int x)) (kk : GZ p l e R s m args below meth c n g X h0 zm sm Q (z) (sl) (pc + 1) lv (.int x :: st) h) : GZ p l e R s m args below meth c n g X h0 zm sm Q (z) (sl) (pc) lv (st) h := fun H locs ls hz hW hS hl => lv_iload_n C.1 C.2.1 d hi (lv_at hl k hk) (kk H locs ls hz hW hS hl)
theorem GZ.aload_n (C : Cx p s m args meth c b n own ret g) {i9 : Fin 4} {i : Nat} {x : Nat} (k : Nat) (d : decode b pc = .ok (.aload_n i9, 1)) (hi : (i9 : Nat) = i) (hk : lv[k]? = some (i, .ref x)) (kk : GZ p l e R s m args below meth c n g X h0 zm sm Q (z) (sl) (pc + 1) lv (.ref x :: st) h) : GZ p l e R s m args below meth c n g X h0 zm sm Q (z) (sl) (pc) lv (st) h := fun H locs ls hz hW hS hl => lv_aload_n C.1 C.2.1 d hi (lv_at hl k hk) (kk H locs ls hz hW hS hl)
theorem GZ.istore_n (C : Cx p s m args meth c b n own ret g) {i9 : Fin 4} {i : Nat} {x : Int32} {lv' : List (Nat × Value)} (d : decode b pc = .ok (.istore_n i9, 1)) (hi : (i9 : Nat) = i) (hn : i < n) (hl1 : (i, Value.int x) :: lv.filter (fun q => !(q.1 == i) && !(q.1 + 1 == i && q.2.category == 2)) = lv') (kk : GZ p l e R s m args below meth c n g X h0 zm sm Q (z) (sl) (pc + 1) lv' (st) h) : GZ p l e R s m args below meth c n g X h0 zm sm Q (z) (sl) (pc) lv (.int x :: st) h := fun H locs ls hz hW hS hl => lv_istore_n C.1 C.2.1 d hi hl hn hl1 (fun ls' hl' => kk H locs ls' hz hW hS hl')
theorem GZ.iinc (C : Cx p s m args meth c b n own ret g) {i k : Nat} {j : Int} {x v : Int32} {lv' : List (Nat × Value)} (d : decode b pc = .ok (.iinc i j, 3)) (hk : lv[k]? = some (i, .int x)) (hv : x + Int32.ofInt j = v) (hn : i < n) (hl1 : (i, Value.int v) :: lv.filter (fun q => !(q.1 == i) && !(q.1 + 1 == i && q.2.category == 2)) = lv') (kk : GZ p l e R s m args below meth c n g X h0 zm sm Q (z) (sl) (pc + 3) lv' (st) h) : GZ p l e R s m args below meth c n g X h0 zm sm Q (z) (sl) (pc) lv (st) h := fun H locs ls hz hW hS hl => lv_iinc C.1 C.2.1 d hl hk hv hn hl1 (fun ls' hl' => kk H locs ls' hz hW hS hl')
theorem GZ.iadd (C : Cx p s m args meth c b n own ret g) {x y : Int32} (d : decode b pc = .ok (.iadd, 1)) (kk : GZ p l e R s m args below meth c n g X h0 zm sm Q (z) (sl) (pc + 1) lv (.int (x + y) :: st) h) : GZ p l e R s m args below meth c n g X h0 zm sm Q (z) (sl) (pc) lv (.int y :: .int x :: st) h := fun H locs ls hz hW hS hl => lv_iadd C.1 C.2.1 d (kk H locs ls hz hW hS hl)
theorem GZ.dup (C : Cx p s m args meth c b n own ret g) {va : Value} (d : decode b pc = .ok (.dup, 1)) (hva : va.category = 1) (kk : GZ p l e R s m args below meth c n g X h0 zm sm Q (z) (sl) (pc + 1) lv (va :: va :: st) h) : GZ p l e R s m args below meth c n g X h0 zm sm Q (z) (sl) (pc) lv (va :: st) h := fun H locs ls hz hW hS hl => lv_dup C.1 C.2.1 d hva (kk H locs ls hz hW hS hl)
theorem GZ.icmp_ge (C : Cx p s m args meth c b n own ret g) {x y : Int32} {off : Int} {tgt : Nat} {α : Type} {fa fb : Option α} {r9 : α} (d : decode b pc = .ok (.if_icmp .ge off, 3)) (ht : (pc : Int) + off = (tgt : Int)) (hf : (if y ≤ x then fa else fb) = some r9) (kt : y ≤ x → fa = some r9 → GZ p l e R s m args below meth c n g X h0 zm sm Q (z) (sl) (tgt) lv (st) h) (kf : ¬ y ≤ x → fb = some r9 → GZ p l e R s m args below meth c n g X h0 zm sm Q (z) (sl) (pc + 3) lv (st) h) : GZ p l e R s m args below meth c n g X h0 zm sm Q (z) (sl) (pc) lv (.int y :: .int x :: st) h := fun H locs ls hz hW hS hl => lv_icmp_ge C.1 C.2.1 d ht (fun q => kt q (by rw [if_pos q] at hf; exact hf) H locs ls hz hW hS hl) (fun q => kf q (by rw [if_neg q] at hf; exact hf) H locs ls hz hW hS hl)
theorem GZ.goto (C : Cx p s m args meth c b n own ret g) {off : Int} {tgt : Nat} (d : decode b pc = .ok (.goto off, 3)) (ht : (pc : Int) + off = (tgt : Int)) (kk : GZ p l e R s m args below meth c n g X h0 zm sm Q (z) (sl) (tgt) lv (st) h) : GZ p l e R s m args below meth c n g X h0 zm sm Q (z) (sl) (pc) lv (st) h := fun H locs ls hz hW hS hl => lv_goto C.1 C.2.1 d ht (kk H locs ls hz hW hS hl)
theorem GZ.sub (C : Cx p s m args meth c b n own ret g) (ks : List Nat) {lv' : List (Nat × Value)} (hl1 : lv_pick lv ks = lv') (kk : GZ p l e R s m args below meth c n g X h0 zm sm Q (z) (sl) (pc) lv' (st) h) : GZ p l e R s m args below meth c n g X h0 zm sm Q (z) (sl) (pc) lv (st) h := fun H locs ls hz hW hS hl => kk H locs ls hz hW hS (lv_sub hl ks hl1)
theorem GZ.getR (C : Cx p s m args meth c b n own ret g) {ci k idx : Nat} {CN : String} {T : u_T} {N : Nat} (hc : vwCl[ci]? = some (CN, T, N)) (hin : ∀ w ∈ u_ws CN T N, w ∈ wsL_law) (hk : k < N) (hw : Cond.fieldLink own idx CN (T k).2.1 (T k).2.2.1 ∈ wsL_law) (hdc : (T k).1 = CN) {a : Nat} {α : Type} {f : Nat → Option α} {r9 : α} (hf : (rdR h a ci k).bind f = some r9) (d : decode b pc = .ok (.getfield idx, 3)) (kk : ∀ v, rdR h a ci k = some v → f v = some r9 → GZ p l e R s m args below meth c n g X h0 zm sm Q (z) (sl) (pc + 3) lv (.ref v :: st) h) : GZ p l e R s m args below meth c n g X h0 zm sm Q (z) (sl) (pc) lv (.ref a :: st) h := by
  intro H locs ls hz hW hS hl
  obtain ⟨v, hv, hf⟩ := bind_some hf
  obtain ⟨fs, he, hfs⟩ := rdR_at hv
  obtain ⟨ws, q0, hP, hD, hq, -⟩ := hW.at he
  exact va_get C.1 C.2.1 C.2.2.2.2.2.1 hin C.2.2.2.2.1 C.2.2.2.2.2.2.2 hP q0 hq hc k hk (C.2.2.2.2.2.1 _ hw) (fun _ h9 => by rw [hdc] at h9; exact h9) hfs d (kk v hv hf H locs ls hz hW hS hl)
theorem GZ.alen (C : Cx p s m args meth c b n own ret g) {a : Nat} {α : Type} {f : Int32 → Option α} {r9 : α} (hf : (lnA h a).bind f = some r9) (d : decode b pc = .ok (.arraylength, 1)) (kk : ∀ v, lnA h a = some v → f v = some r9 → GZ p l e R s m args below meth c n g X h0 zm sm Q (z) (sl) (pc + 1) lv (.int v :: st) h) : GZ p l e R s m args below meth c n g X h0 zm sm Q (z) (sl) (pc) lv (.ref a :: st) h := by
  intro H locs ls hz hW hS hl
  obtain ⟨v, hv, hf⟩ := bind_some hf
  have hv9 := hv
  unfold lnA at hv9
  split at hv9
  · rename_i n9 f9 he
    cases hv9
    obtain ⟨ws, q0, hP, hD, hq, -⟩ := hW.at he
    exact va_alen C.1 C.2.1 C.2.2.2.2.2.2.2 hP q0 0 hq rfl rfl d (kk _ hv hf H locs ls hz hW hS hl)
  · rename_i k9 n9 f9 he
    cases hv9
    obtain ⟨ws, q0, hP, hD, hq, -⟩ := hW.at he
    by_cases h9 : k9 = 0
    · subst h9
      exact va_alen C.1 C.2.1 C.2.2.2.2.2.2.2 hP q0 1 hq rfl rfl d (kk _ hv hf H locs ls hz hW hS hl)
    · rw [show wcv g (.inr (.inl (k9, n9, f9))) = .inl (g.2.2.2.1, n9, .inr (.inr (.inr (.inr f9)))) by simp [wcv, h9]] at hq
      exact va_alen C.1 C.2.1 C.2.2.2.2.2.2.2 hP q0 2 hq rfl rfl d (kk _ hv hf H locs ls hz hW hS hl)
  · cases hv9
theorem GZ.put (C : Cx p s m args meth c b n own ret g) {ci k idx : Nat} {CN : String} {T : u_T} {N : Nat} (hc : vwCl[ci]? = some (CN, T, N)) (hin : ∀ w ∈ u_ws CN T N, w ∈ wsL_law) (hk : k < N) (hw : Cond.fieldLink own idx CN (T k).2.1 (T k).2.2.1 ∈ wsL_law) (hdc : (T k).1 = CN) (ty0 : Nat → FieldType) (hty : ∀ k, k < N → parseFieldDescriptor (T k).2.2.1 = some (ty0 k)) (hnm : ∀ a, a < N → ∀ b, b < N → a ≠ b → (T a).2.1 ≠ (T b).2.1) (hfin : (T k).2.2.2 = false) {v : Value} (hn : narrow (ty0 k) v = v) (hfit : fits (ty0 k) v = true) {a : Nat} {α : Type} {f : PH → Option α} {r9 : α} (hf : (wrF h a ci k v).bind f = some r9) (d : decode b pc = .ok (.putfield idx, 3)) (kk : ∀ h1, wrF h a ci k v = some h1 → f h1 = some r9 → GZ p l e R s m args below meth c n g X h0 zm sm Q (z) (sl) (pc + 3) lv (st) h1) : GZ p l e R s m args below meth c n g X h0 zm sm Q (z) (sl) (pc) lv (v :: .ref a :: st) h := by
  intro H locs ls hz hW hS hl
  obtain ⟨h1, hv, hf⟩ := bind_some hf
  obtain ⟨fs, he, hlen, e1⟩ := wrF_at hv
  obtain ⟨ws, q0, hP, hD, hq, hset, -⟩ := hW.at he
  have hap := va_apart (own := own) C.2.2.2.2.2.1 hin ty0 hty hnm C.2.2.2.2.2.2.2 hc
  obtain ⟨r8, e8, cell, q1, q2, q3, q4⟩ := hP q0 _ hq
  have hr : r8 = (CN, T, N) := Option.some.inj (e8.symm.trans hc)
  subst hr
  obtain ⟨hS8, hfc, kC, hkC, hkind⟩ := (C.2.2.2.2.2.2.2).1 ci _ hc
  obtain ⟨cf, kf, fi, f8, hi, hsl⟩ := hS8 k hk
  have hlay := C.2.2.2.2.2.1 _ (hin _ (u_in_lay hk))
  unfold u_lay at hlay
  rw [if_neg (by rw [hfin]; decide)] at hlay
  have hst := (u_facts hfc hkC (u_lays C.2.2.2.2.2.1 hin hk) hi).1
  have h6 := u_store hfc hkC hkind hlay hi (hty k hk) hn hfit
  refine W.putK C.1 C.2.1 (f := f8) ⟨C.2.2.2.2.1, C.2.2.2.2.2.1 _ hw, ⟨_, _, _, by rw [hdc] at hi; exact hi⟩, hst⟩ (by rw [q2]; exact h6) q1 q3 (by rw [hsl]; exact k2_hasslot (q4 k hk)) rfl rfl d fun H1 x1 x2 x3 => ?_
  rw [hsl] at x1 ⊢
  refine kk h1 hv hf H1 _ ls (x2.trans hz) ?_ (hS.put x2 x3 (hD.2 q0 _ hq)) hl
  rw [e1]
  exact hset (.inr (.inr (ci, fs.set k v))) H1 (hP.set hD hq ⟨_, hc, t_OB.to (V := updV (vp_V fs) k v) ⟨_, x1, q2, q3, t_set q4 hap hk v⟩ (fun j _ => vp_updV_set hlen v j)⟩ x3) (hD.set hq)
theorem GZ.putF (C : Cx p s m args meth c b n own ret g) {ci k idx : Nat} {CN : String} {T : u_T} {N : Nat} (hc : vwCl[ci]? = some (CN, T, N)) (hin : ∀ w ∈ u_ws CN T N, w ∈ wsL_law) (hk : k < N) (hw : Cond.fieldLink own idx CN (T k).2.1 (T k).2.2.1 ∈ wsL_law) (hdc : (T k).1 = CN) (ty0 : Nat → FieldType) (hty : ∀ k, k < N → parseFieldDescriptor (T k).2.2.1 = some (ty0 k)) (hnm : ∀ a, a < N → ∀ b, b < N → a ≠ b → (T a).2.1 ≠ (T b).2.1) (hfin : (T k).2.2.2 = true) (hin2 : meth.name = "<init>") (hown2 : own = CN) {v : Value} (hn : narrow (ty0 k) v = v) (hfit : fits (ty0 k) v = true) {a : Nat} {α : Type} {f : PH → Option α} {r9 : α} (hf : (wrF h a ci k v).bind f = some r9) (d : decode b pc = .ok (.putfield idx, 3)) (kk : ∀ h1, wrF h a ci k v = some h1 → f h1 = some r9 → GZ p l e R s m args below meth c n g X h0 zm sm Q (z) (sl) (pc + 3) lv (st) h1) : GZ p l e R s m args below meth c n g X h0 zm sm Q (z) (sl) (pc) lv (v :: .ref a :: st) h := by
  intro H locs ls hz hW hS hl
  obtain ⟨h1, hv, hf⟩ := bind_some hf
  obtain ⟨fs, he, hlen, e1⟩ := wrF_at hv
  obtain ⟨ws, q0, hP, hD, hq, hset, -⟩ := hW.at he
  have hap := va_apart (own := own) C.2.2.2.2.2.1 hin ty0 hty hnm C.2.2.2.2.2.2.2 hc
  obtain ⟨r8, e8, cell, q1, q2, q3, q4⟩ := hP q0 _ hq
  have hr : r8 = (CN, T, N) := Option.some.inj (e8.symm.trans hc)
  subst hr
  obtain ⟨hS8, hfc, kC, hkC, hkind⟩ := (C.2.2.2.2.2.2.2).1 ci _ hc
  obtain ⟨cf, kf, fi, f8, hi, hsl⟩ := hS8 k hk
  have hlay := C.2.2.2.2.2.1 _ (hin _ (u_in_lay hk))
  unfold u_lay at hlay
  rw [if_pos hfin] at hlay
  have hst := (u_facts hfc hkC (u_lays C.2.2.2.2.2.1 hin hk) hi).1
  have hcf : m.cls = cf := by
    obtain ⟨_, _, c', _, _, _, -, -, hf', -, -, -, hown3, -⟩ := Cond.laysFinal_spec hlay
    have e9 : c' = cf := by have := hi.symm.trans hf'; simp at this; exact this.1.symm
    rw [hdc, ← hown2] at hown3
    rw [← e9]; exact Option.some.inj (C.2.2.2.2.1.symm.trans hown3)
  have h6 := u_fits hfc hkC hkind (Or.inr hlay) hi (hty k hk) hn hfit
  refine W.putFinK C.1 C.2.1 C.2.2.2.2.1 (C.2.2.2.2.2.1 _ hw) (by rw [hdc] at hi; exact hi) hst hcf hin2 (by rw [q2]; exact h6) q1 q3 (by rw [hsl]; exact k2_hasslot (q4 k hk)) rfl rfl d fun H1 x1 x2 x3 => ?_
  rw [hsl] at x1 ⊢
  refine kk h1 hv hf H1 _ ls (x2.trans hz) ?_ (hS.put x2 x3 (hD.2 q0 _ hq)) hl
  rw [e1]
  exact hset (.inr (.inr (ci, fs.set k v))) H1 (hP.set hD hq ⟨_, hc, t_OB.to (V := updV (vp_V fs) k v) ⟨_, x1, q2, q3, t_set q4 hap hk v⟩ (fun j _ => vp_updV_set hlen v j)⟩ x3) (hD.set hq)
theorem GZ.iast (C : Cx p s m args meth c b n own ret g) {a : Nat} {i x : Int32} {α : Type} {f : PH → Option α} {r9 : α} (hf : (stI h a i x).bind f = some r9) (d : decode b pc = .ok (.iastore, 1)) (kk : ∀ h1, stI h a i x = some h1 → f h1 = some r9 → GZ p l e R s m args below meth c n g X h0 zm sm Q (z) (sl) (pc + 1) lv (st) h1) : GZ p l e R s m args below meth c n g X h0 zm sm Q (z) (sl) (pc) lv (.int x :: .int i :: .ref a :: st) h := by
  intro H locs ls hz hW hS hl
  obtain ⟨h1, hv, hf⟩ := bind_some hf
  obtain ⟨n9, f9, he, hin, e1⟩ := stI_at hv
  obtain ⟨ws, q0, hP, hD, hq, hset, -⟩ := hW.at he
  refine W.iast C.1 C.2.1 (hP q0 _ hq) (((C.2.2.2.2.2.2.2).2 0 _ rfl).1 n9 (fun j => .int (f9 j))) (fun q => by cases q) (by show ¬ (i < 0 ∨ (arrV _ _ _).slots.size ≤ _); rw [arrV_size]; exact hin) rfl rfl d fun H1 x1 x2 x3 => ?_
  refine kk h1 hv hf H1 _ ls (x2.trans hz) ?_ (hS.put x2 x3 (hD.2 q0 _ hq)) hl
  rw [e1]
  refine hset (.inl (n9, upd f9 i.toNatClampNeg x)) H1 (hP.set hD hq ?_ x3) (hD.set hq)
  show H1[a]? = some (vp_cell _ _)
  rw [x1]
  show some (Cell.setSlot (vp_cell g.2.1 (n9, .inl f9)) _ _) = _
  rw [vp_cell_i, vp_cell_i, arrV_store]
  congr 2
  funext q
  by_cases hq9 : q = i.toNatClampNeg
  · subst hq9
    simp [updV, upd]
  · simp [updV, upd, hq9]
theorem GZ.aast (C : Cx p s m args meth c b n own ret g) {a v : Nat} {i : Int32} {α : Type} {f : PH → Option α} {r9 : α} (hf : (stQ h a i v).bind f = some r9) (d : decode b pc = .ok (.aastore, 1)) (kk : ∀ h1, stQ h a i v = some h1 → f h1 = some r9 → GZ p l e R s m args below meth c n g X h0 zm sm Q (z) (sl) (pc + 1) lv (st) h1) : GZ p l e R s m args below meth c n g X h0 zm sm Q (z) (sl) (pc) lv (.ref v :: .int i :: .ref a :: st) h := by
  intro H locs ls hz hW hS hl
  obtain ⟨h1, hv, hf⟩ := bind_some hf
  obtain ⟨k9, n9, f9, he, hin, hcl, e1⟩ := stQ_at hv
  obtain ⟨ws, q0, hP, hD, hq, hset, hoth⟩ := hW.at he
  rcases hcl with ⟨rfl, fs, hfs⟩ | ⟨rfl, fs, hfs⟩
  · obtain ⟨q2, hq2⟩ := hoth _ _ hfs
    have hlt : i.toNatClampNeg < n9 := Nat.not_le.mp fun q => hin (Or.inr q)
    have hi0 : ¬ i < 0 := fun q => hin (Or.inl q)
    obtain ⟨r', hr', cellV, g1, g2, g3, -⟩ := hP q2 _ hq2
    have hcls := ((C.2.2.2.2.2.2.2).1 1 _ rfl).2
    obtain ⟨kA, comp, k1, k2, k3, -⟩ := ((C.2.2.2.2.2.2.2).2 1 _ rfl).2
    have hcomp : comp = g.1.1 1 := Option.some.inj (k3.symm.trans hcls.1)
    subst hcomp
    obtain ⟨kC, hkC, -⟩ := hcls.2
    refine W.aast C.1 C.2.1 (hP q0 _ hq) (fun q h => by cases h) (fun h => by cases h) k1 k2 rfl hkC ⟨hi0, by show _ < (arrV _ _ _).slots.size; rw [arrV_size]; exact hlt⟩ g1 (fun q h => by rw [g3] at h; cases h) (by rw [g2]; exact hkC) (by rw [g2]; exact va_assign hcls) rfl rfl d fun H1 x1 x2 x3 => ?_
    refine kk h1 hv hf H1 _ ls (x2.trans hz) ?_ (hS.put x2 x3 (hD.2 q0 _ hq)) hl
    rw [e1]
    refine hset (.inr (.inl (0, n9, va_up f9 i.toNatClampNeg (some v)))) H1 (hP.set hD hq ?_ x3) (hD.set hq)
    show H1[a]? = some (vp_cell _ _)
    rw [x1]
    show some (Cell.setSlot (vp_cell _ (n9, .inr (.inr (.inr (.inr f9))))) _ _) = _
    rw [vp_cell_q, vp_cell_q, arrV_store]
    congr 2
    funext q
    by_cases hq9 : q = i.toNatClampNeg
    · subst hq9
      simp [updV, va_up, va_rf]
    · simp [updV, va_up, hq9]
  · obtain ⟨q2, hq2⟩ := hoth _ _ hfs
    have hlt : i.toNatClampNeg < n9 := Nat.not_le.mp fun q => hin (Or.inr q)
    have hi0 : ¬ i < 0 := fun q => hin (Or.inl q)
    obtain ⟨r', hr', cellV, g1, g2, g3, -⟩ := hP q2 _ hq2
    have hcls := ((C.2.2.2.2.2.2.2).1 2 _ rfl).2
    obtain ⟨kA, comp, k1, k2, k3, -⟩ := ((C.2.2.2.2.2.2.2).2 2 _ rfl).2
    have hcomp : comp = g.1.1 2 := Option.some.inj (k3.symm.trans hcls.1)
    subst hcomp
    obtain ⟨kC, hkC, -⟩ := hcls.2
    refine W.aast C.1 C.2.1 (hP q0 _ hq) (fun q h => by cases h) (fun h => by cases h) k1 k2 rfl hkC ⟨hi0, by show _ < (arrV _ _ _).slots.size; rw [arrV_size]; exact hlt⟩ g1 (fun q h => by rw [g3] at h; cases h) (by rw [g2]; exact hkC) (by rw [g2]; exact va_assign hcls) rfl rfl d fun H1 x1 x2 x3 => ?_
    refine kk h1 hv hf H1 _ ls (x2.trans hz) ?_ (hS.put x2 x3 (hD.2 q0 _ hq)) hl
    rw [e1]
    refine hset (.inr (.inl (1, n9, va_up f9 i.toNatClampNeg (some v)))) H1 (hP.set hD hq ?_ x3) (hD.set hq)
    show H1[a]? = some (vp_cell _ _)
    rw [x1]
    show some (Cell.setSlot (vp_cell _ (n9, .inr (.inr (.inr (.inr f9))))) _ _) = _
    rw [vp_cell_q, vp_cell_q, arrV_store]
    congr 2
    funext q
    by_cases hq9 : q = i.toNatClampNeg
    · subst hq9
      simp [updV, va_up, va_rf]
    · simp [updV, va_up, hq9]
theorem GZ.newI (C : Cx p s m args meth c b n own ret g) (hR : R.cells = zm - s.heap.size ∧ R.slots = sm) {v : Int32} (N : Nat) (w : Cond.arrayClass .int ∈ wsL_law) (hv : ¬ v < 0) (hN : v.toNatClampNeg = N) (hby : N * componentBytes .int ≤ 536870912) (hlim : z + 1 ≤ zm ∧ sl + N ≤ sm) (d : decode b pc = .ok (.newarray .int, 2)) (kk : GZ p l e R s m args below meth c n g X h0 zm sm Q (z + 1) (sl + N) (pc + 2) lv (.ref z :: st) (pu h z (.inl (N, fun _ => 0)))) : GZ p l e R s m args below meth c n g X h0 zm sm Q (z) (sl) (pc) lv (.int v :: st) h := by
  intro H locs ls hz hW hS hl
  have hs0 : s.heap.size ≤ z := hz ▸ hS.1
  refine va_newaK (atype := .int) C.1 C.2.1 (C.2.2.2.2.2.1 _ w) rfl d rfl hv hN hby (by rw [hR.1]; omega) (by rw [hR.2]; exact hlim.2) hz fun H1 cA e1 z1 o1 hAr hNm => ?_
  have hcA : cA = g.2.1 := by
    have h2 := ((C.2.2.2.2.2.2.2).2 0 _ rfl).2
    exact Option.some.inj (hNm.symm.trans h2)
  subst hcA
  exact W.cs (by omega) rfl (kk H1 locs ls z1 (hW.push hz (Or.inr (Or.inr hs0)) o1 (by show H1[z]? = some (vp_cell _ _); rw [vp_cell_i]; exact e1)) ⟨by omega, fun q h1 h2 => (o1 q (by omega)).trans (hS.2.1 q h1 h2), hS.2.2⟩ hl)
theorem GZ.newQR (C : Cx p s m args meth c b n own ret g) (hR : R.cells = zm - s.heap.size ∧ R.slots = sm) {v : Int32} (N : Nat) {idx : Nat} (w : Cond.classLink own idx "PennantRopes$Rope" ∈ wsL_law) (hAO : va_AO "PennantRopes$Rope" s) (hv : ¬ v < 0) (hN : v.toNatClampNeg = N) (hby : N * 4 ≤ 536870912) (hlim : z + 1 ≤ zm ∧ sl + N ≤ sm) (d : decode b pc = .ok (.anewarray idx, 3)) (kk : GZ p l e R s m args below meth c n g X h0 zm sm Q (z + 1) (sl + N) (pc + 3) lv (.ref z :: st) (pu h z (.inr (.inl (0, N, fun _ => none))))) : GZ p l e R s m args below meth c n g X h0 zm sm Q (z) (sl) (pc) lv (.int v :: st) h := by
  intro H locs ls hz hW hS hl
  have hs0 : s.heap.size ≤ z := hz ▸ hS.1
  subst hN
  refine W.anew C.1 C.2.1 C.2.2.2.2.1 (C.2.2.2.2.2.1 _ w) (va_AO.use hAO) rfl d rfl hv hby (by rw [hR.1]; omega) (by rw [hR.2]; exact hlim.2) fun cA kA comp f1 f2 f3 f4 => ?_
  generalize hH1 : H.push ({ cls := cA, slots := Array.replicate v.toNatClampNeg .null, vm := .none } : Cell) = H1
  have z1 : H1.size = z + 1 := by rw [← hH1, Array.size_push, hz]
  have e1 : H1[z]? = some (arrV cA v.toNatClampNeg (fun _ => .null)) := by rw [← hH1, ← hz, Array.getElem?_push_size, ← arrV_new]
  have o1 : ∀ q : Nat, q < z → H1[q]? = H[q]? := fun q hq => by rw [← hH1, Array.getElem?_push, if_neg (by omega)]
  have hcA : cA = g.2.2.1 := by
    obtain ⟨kA', comp', k1, k2, k3, k4⟩ := ((C.2.2.2.2.2.2.2).2 1 _ rfl).2
    exact Option.some.inj (f1.symm.trans k4)
  subst hcA
  rw [hz]
  exact W.cs (by omega) rfl (kk H1 locs ls z1 (hW.push hz (Or.inr (Or.inr hs0)) o1 (by show H1[z]? = some (vp_cell _ _); rw [vp_cell_q]; exact e1)) ⟨by omega, fun q h1 h2 => (o1 q (by omega)).trans (hS.2.1 q h1 h2), hS.2.2⟩ hl)
theorem GZ.newQS (C : Cx p s m args meth c b n own ret g) (hR : R.cells = zm - s.heap.size ∧ R.slots = sm) {v : Int32} (N : Nat) {idx : Nat} (w : Cond.classLink own idx "PennantRopes$State" ∈ wsL_law) (hAO : va_AO "PennantRopes$State" s) (hv : ¬ v < 0) (hN : v.toNatClampNeg = N) (hby : N * 4 ≤ 536870912) (hlim : z + 1 ≤ zm ∧ sl + N ≤ sm) (d : decode b pc = .ok (.anewarray idx, 3)) (kk : GZ p l e R s m args below meth c n g X h0 zm sm Q (z + 1) (sl + N) (pc + 3) lv (.ref z :: st) (pu h z (.inr (.inl (1, N, fun _ => none))))) : GZ p l e R s m args below meth c n g X h0 zm sm Q (z) (sl) (pc) lv (.int v :: st) h := by
  intro H locs ls hz hW hS hl
  have hs0 : s.heap.size ≤ z := hz ▸ hS.1
  subst hN
  refine W.anew C.1 C.2.1 C.2.2.2.2.1 (C.2.2.2.2.2.1 _ w) (va_AO.use hAO) rfl d rfl hv hby (by rw [hR.1]; omega) (by rw [hR.2]; exact hlim.2) fun cA kA comp f1 f2 f3 f4 => ?_
  generalize hH1 : H.push ({ cls := cA, slots := Array.replicate v.toNatClampNeg .null, vm := .none } : Cell) = H1
  have z1 : H1.size = z + 1 := by rw [← hH1, Array.size_push, hz]
  have e1 : H1[z]? = some (arrV cA v.toNatClampNeg (fun _ => .null)) := by rw [← hH1, ← hz, Array.getElem?_push_size, ← arrV_new]
  have o1 : ∀ q : Nat, q < z → H1[q]? = H[q]? := fun q hq => by rw [← hH1, Array.getElem?_push, if_neg (by omega)]
  have hcA : cA = g.2.2.2.1 := by
    obtain ⟨kA', comp', k1, k2, k3, k4⟩ := ((C.2.2.2.2.2.2.2).2 2 _ rfl).2
    exact Option.some.inj (f1.symm.trans k4)
  subst hcA
  rw [hz]
  exact W.cs (by omega) rfl (kk H1 locs ls z1 (hW.push hz (Or.inr (Or.inr hs0)) o1 (by show H1[z]? = some (vp_cell _ _); rw [vp_cell_q]; exact e1)) ⟨by omega, fun q h1 h2 => (o1 q (by omega)).trans (hS.2.1 q h1 h2), hS.2.2⟩ hl)
theorem GZ.newO (C : Cx p s m args meth c b n own ret g) (hR : R.cells = zm - s.heap.size ∧ R.slots = sm) {ci idx : Nat} {CN : String} {T : u_T} {N : Nat} (hc : vwCl[ci]? = some (CN, T, N)) (hin : ∀ w ∈ u_ws CN T N, w ∈ wsL_law) (ty0 : Nat → FieldType) (hty : ∀ k, k < N → parseFieldDescriptor (T k).2.2.1 = some (ty0 k)) (w1 : Cond.classLink own idx CN ∈ wsL_law) (w2 : Cond.instantiable CN N ∈ wsL_law) (w3 : Cond.initialized CN ∈ wsL_law) (fs : List Value) (hfs : ∀ j, j < N → defaultValue (ty0 j) = vp_V fs j) (hlim : z + 1 ≤ zm ∧ sl + N ≤ sm) (d : decode b pc = .ok (.new idx, 3)) (kk : GZ p l e R s m args below meth c n g X h0 zm sm Q (z + 1) (sl + N) (pc + 3) lv (.ref z :: st) (pu h z (.inr (.inr (ci, fs))))) : GZ p l e R s m args below meth c n g X h0 zm sm Q (z) (sl) (pc) lv (st) h := by
  intro H locs ls hz hW hS hl
  have hs0 : s.heap.size ≤ z := hz ▸ hS.1
  have hKn := (C.2.2.2.2.2.2.2).1 ci _ hc
  refine W.newcK C.1 C.2.1 C.2.2.2.2.1 (C.2.2.2.2.2.1 _ w1) (C.2.2.2.2.2.1 _ w2) (C.2.2.2.2.2.1 _ w3) rfl d (by rw [hR.1]; omega) (by rw [hR.2]; exact hlim.2) hKn.2.1 hz fun H1 kC hkC e1 z1 o1 => ?_
  exact W.cs (by omega) rfl (kk H1 locs ls z1 (hW.push hz (Or.inr (Or.inr hs0)) o1 ⟨_, hc, (u_born ty0 C.2.2.2.2.2.1 hin hKn hkC e1 hty).to hfs⟩) ⟨by omega, fun q h1 h2 => (o1 q (by omega)).trans (hS.2.1 q h1 h2), hS.2.2⟩ hl)
theorem GZ.objInit (C : Cx p s m args meth c b n own ret g) {a idx : Nat} (w1 : Cond.methodLink own idx objectInit ∈ wsL_law) (w2 : Cond.instanceMethod objectInit ∈ wsL_law) (w3 : Cond.code objectInit ⟨#[0xb1]⟩ 1 none ∈ wsL_law) (hfr : 1 ≤ R.frames) (hlo : (st.map fun v => v.category).sum + 12 ≤ R.locals) (d : decode b pc = .ok (.invokespecial idx, 3)) (kk : GZ p l e R s m args below meth c n g X h0 zm sm Q (z) (sl) (pc + 3) lv (st) h) : GZ p l e R s m args below meth c n g X h0 zm sm Q (z) (sl) (pc) lv (.ref a :: st) h :=
  fun H locs ls hz hW hS hl => W.objInit C.1 C.2.1 C.2.2.2.2.1 (C.2.2.2.2.2.1 _ w1) (C.2.2.2.2.2.1 _ w2) (C.2.2.2.2.2.1 _ w3) rfl (hl.1.trans C.2.2.1.symm) rfl d hfr (by have h9 : (F0 m pc ls (.ref a :: st)).monitorRoom = 0 := rfl; omega) (kk H locs ls hz hW hS hl)
theorem GZ.callI (C : Cx p s m args meth c b n own ret g) (ao0 : va_AO "PennantRopes$Rope" s) (ao1 : va_AO "PennantRopes$State" s) (hR9 : R.cells = zm - s.heap.size ∧ R.slots = sm) {y : MethodName} {b' : ByteArray} {n' : Nat} {fr lo : Nat} {h' : PH} {a idx zc sc z' : Nat} (cz : CZ l y b' n' fr lo [.ref a] h z zc sc h' z') (hz' : z' = zc)
    (w1 : Cond.methodLink own idx y ∈ wsL_law) (w2 : Cond.instanceMethod y ∈ wsL_law) (w4 : Cond.initialized y.cls ∈ wsL_law) (w5 : Cond.code y b' n' none ∈ wsL_law) (hyn : y.name = "<init>")
    (hd : y.cls ≠ "java/lang/invoke/MethodHandle" ∧ y.cls ≠ "java/lang/invoke/VarHandle" ∧ (parseMethodDescriptor y.desc).map (fun d => d.parameters.length) = some 0) (hR : fr + 1 ≤ R.frames ∧ 8 + (n' + 11) + lo ≤ R.locals) (hlim : z ≤ zc ∧ zc ≤ zm ∧ sl + sc ≤ sm)
    (h8 : (st.map fun v => v.category).sum ≤ 8) (d : decode b pc = .ok (.invokespecial idx, 3)) (kk : GZ p l e R s m args below meth c n g X h0 zm sm Q (zc) (sl + sc) (pc + 3) lv (st) h') : GZ p l e R s m args below meth c n g X h0 zm sm Q (z) (sl) (pc) lv (.ref a :: st) h := by
  intro H locs ls hz hW hS hl T9 hT X9
  subst hz'
  have hs0 : s.heap.size ≤ z := hz ▸ hS.1
  have hgood : GoodIn wsL_law (Cond.code y b' n' none :: wsL_law) := fun w hw => by
    have hm : w ∈ wsL_law := (List.mem_cons.mp hw).elim (fun q => by rw [q]; exact w5) id
    exact ⟨hm, good_of_word (List.all_eq_true.mp all_good w hm)⟩
  have hr := va_runI (p := p) (l := l) (e := e) (R := R) (s := s) (m := m) (args := args) (below := below) (meth := meth) (c := c) (H := H) (locs := locs) (cells := z - s.heap.size) (slots := sl) (g := F0 m pc ls (.ref a :: st)) (As := []) (rest := st) (b := a) (n := 0) ⟨C.1, C.2.1, C.2.2.1, C.2.2.2.2.1, C.2.2.2.2.2.1⟩ (cz g X) (cwI 0 C.2.2.2.2.2.1 hgood rfl rfl rfl (C.2.2.2.2.2.1 _ w4) (C.2.2.2.2.2.1 _ w1) (C.2.2.2.2.2.1 _ w2) hyn hd hR)
    ⟨WPreZ.blind, fun U hU hWU => ⟨rfl, ⟨by rw [hU]; exact hz, by rw [hU]; exact hW.sub (fun _ _ => trivial), va_K.moved hWU.alike C.2.2.2.2.2.2.2⟩, va_AO.moved hWU.alike ao0, va_AO.moved hWU.alike ao1⟩⟩ rfl rfl hl.1 rfl (lv_room h8) d ⟨by rw [hR9.1]; omega, by rw [hR9.2]; exact hlim.2.2⟩ T9 hT X9
  obtain ⟨v, st₀, t, T', L, e0, X', hL, e1, e2, ⟨⟨hv, hW1, hK1, hz1⟩, hzF, hkk⟩, go⟩ := hr
  cases hv
  rw [e0] at hzF hkk
  have hsub := AF.sub hW hS.1
  rw [hz] at hsub
  have hcs : z - s.heap.size + (z' - z) = z' - s.heap.size := by omega
  rw [hcs] at X'
  obtain ⟨t2, a1, b1⟩ := kk T'.heap (locs ++ L) ls (by rw [e1]; exact hz1) (by rw [e1]; exact hW1.sub hsub) ⟨Nat.le_trans hS.1 (by rw [e1]; exact hzF), fun q h1 h2 => by rw [e1, hkk q (Nat.lt_of_lt_of_le h1 hS.1) (fun z9 => h2 (hsub q z9))]; exact hS.2.1 q h1 h2, fun q hq9 => by
      rcases List.mem_append.mp hq9 with h9 | h9
      · exact hS.2.2 q h9
      · exact hsub _ (hL q h9)⟩ hl T' rfl X'
  exact ⟨t2, go t2 a1, b1⟩
theorem GZ.vret (C : Cx p s m args meth c b n own none g) {z0 : Nat} (hz0 : s.heap.size = z0) (hlim : z ≤ zm ∧ sl ≤ sm) (d : decode b pc = .ok (.return_, 1)) : GZ p l e R s m args below meth c n g X h0 zm sm (MQ below (QZ g X h0 z0 h z) args s (zm - z0) sm (AF X h0 z0)) z sl pc lv [] h := by
  subst hz0
  intro H locs ls hz hW hS hl
  have hs0 : s.heap.size ≤ z := hz ▸ hS.1
  refine W.widen (k := zm - s.heap.size) (n := sm) (by omega) hlim.2 ?_
  exact W.vret C.1 C.2.1 C.2.2.2.1 (fun t ht hWm => ⟨⟨rfl, by rw [ht]; exact hW, va_K.moved hWm.alike C.2.2.2.2.2.2.2, by rw [ht]; exact hz⟩, hS.F ht⟩) hS.2.2 d C.2.2.2.2.2.2.1
theorem GZ.byq {q x : HZ} (hq : q = x) (kk : GZ p l e R s m args below meth c n g X h0 zm sm Q (q.2.1) (q.2.2) (pc) lv (st) q.1) : GZ p l e R s m args below meth c n g X h0 zm sm Q (x.2.1) (x.2.2) (pc) lv (st) x.1 := hq ▸ kk
end GZ9
