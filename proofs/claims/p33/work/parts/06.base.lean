/-! THE PURE HEAP: what a cell holds, by its address; G: the machine at a place of a method, over any heap that holds it -/
abbrev PC : Type := (Nat × (Nat → Int32)) ⊕ ((Nat × Nat × (Nat → Option Nat)) ⊕ (Nat × List Value))
abbrev PH : Type := Nat → Option PC
def pu (h : PH) (a : Nat) (e : PC) : PH := fun b => if b = a then some e else h b
abbrev GC : Type := va_G × ClassId × ClassId × ClassId × ClassId
def wcv (g : GC) (e : PC) : va_E := match e with
  | .inl (n, f) => .inl (g.2.1, n, .inl f)
  | .inr (.inl (k, n, f)) => .inl ((if k = 0 then g.2.2.1 else g.2.2.2.1), n, .inr (.inr (.inr (.inr f))))
  | .inr (.inr (ci, fs)) => .inr (ci, fs)
def wty (g : GC) : List (ClassId × FieldType) := [(g.2.1, .int), (g.2.2.1, .object "PennantRopes$Rope"), (g.2.2.2.1, .object "PennantRopes$State")]
/-- the heap H holds the pure heap h, and beside it the cells X; all of them lie in A -/
def WW (g : GC) (A : Nat → Prop) (X : va_W) (h : PH) (H : Heap) : Prop := ∃ (L : List Nat) (f : Nat → PC), (∀ a, h a = if a ∈ L then some (f a) else none) ∧ va_P g.1 vwCl (X ++ va_pl L (fun a => wcv g (f a))) H ∧ va_D A (X ++ va_pl L (fun a => wcv g (f a)))
def AF (X : va_W) (h : PH) (sz : Nat) : Nat → Prop := fun q => (∃ e, (q, e) ∈ X) ∨ (∃ e, h q = some e) ∨ sz ≤ q
theorem WW.mem {g : GC} {A : Nat → Prop} {X : va_W} {h : PH} {H : Heap} (hW : WW g A X h H) : (∀ q e, (q, e) ∈ X → A q) ∧ (∀ q e, h q = some e → A q) := by
  obtain ⟨L, f, h1, hP, hD⟩ := hW
  refine ⟨fun q e hq => ?_, fun q e hq => ?_⟩
  · obtain ⟨k, hk⟩ := List.getElem?_of_mem (List.mem_append_left (va_pl L (fun a => wcv g (f a))) hq)
    exact hD.2 k _ hk
  · have h2 := h1 q
    rw [hq] at h2
    by_cases hL : q ∈ L
    · obtain ⟨k, hk⟩ := va_pl_get (X := X) (f := fun a => wcv g (f a)) hL
      exact hD.2 k _ hk
    · rw [if_neg hL] at h2
      cases h2
theorem WW.sub {g : GC} {A B : Nat → Prop} {X : va_W} {h : PH} {H : Heap} (hW : WW g A X h H) (hAB : ∀ q, A q → B q) : WW g B X h H := by
  obtain ⟨L, f, h1, hP, hD⟩ := hW
  exact ⟨L, f, h1, hP, hD.1, fun k q hk => hAB _ (hD.2 k q hk)⟩
theorem WW.self {g : GC} {A : Nat → Prop} {X : va_W} {h : PH} {H : Heap} (hW : WW g A X h H) (sz : Nat) : WW g (AF X h sz) X h H := by
  obtain ⟨L, f, h1, hP, hD⟩ := hW
  refine ⟨L, f, h1, hP, hD.1, fun k q hk => ?_⟩
  rcases List.mem_append.mp (List.mem_of_getElem? hk) with h9 | h9
  · exact Or.inl ⟨q.2, h9⟩
  · obtain ⟨a, ha, rfl⟩ := List.mem_map.mp h9
    exact Or.inr (Or.inl ⟨f a, by rw [h1, if_pos ha]⟩)
theorem WW.at {g : GC} {A : Nat → Prop} {X : va_W} {h : PH} {H : Heap} {a : Nat} {e : PC} (hW : WW g A X h H) (he : h a = some e) :
    ∃ (ws : va_W) (q0 : Nat), va_P g.1 vwCl ws H ∧ va_D A ws ∧ ws[q0]? = some (a, wcv g e) ∧ (∀ e' H1, va_P g.1 vwCl (ws.set q0 (a, wcv g e')) H1 → va_D A (ws.set q0 (a, wcv g e')) → WW g A X (pu h a e') H1) ∧ ∀ a2 e2, h a2 = some e2 → ∃ q2 : Nat, ws[q2]? = some (a2, wcv g e2) := by
  obtain ⟨L, f, h1, hP, hD⟩ := hW
  have get : ∀ a e, h a = some e → a ∈ L ∧ f a = e := by
    intro a e he
    have h2 := h1 a
    rw [he] at h2
    by_cases hL : a ∈ L
    · rw [if_pos hL] at h2
      exact ⟨hL, (Option.some.inj h2).symm⟩
    · rw [if_neg hL] at h2
      cases h2
  obtain ⟨hL, hf⟩ := get a e he
  obtain ⟨k, hk⟩ := va_pl_get (X := X) (f := fun a => wcv g (f a)) hL
  refine ⟨_, k, hP, hD, by rw [hk, hf], fun e' H1 p d => ⟨L, fun b => if b = a then e' else f b, fun b => ?_, ?_, ?_⟩, fun a2 e2 h2 => ?_⟩
  · unfold pu
    by_cases hb : b = a
    · subst hb
      rw [if_pos rfl, if_pos hL]
      exact congrArg some (if_pos rfl).symm
    · rw [if_neg hb, h1 b]
      by_cases hbL : b ∈ L
      · rw [if_pos hbL, if_pos hbL]
        exact congrArg some (if_neg hb).symm
      · rw [if_neg hbL, if_neg hbL]
  · rw [va_pl_set hD hL hk] at p
    rw [show (fun b => wcv g (if b = a then e' else f b)) = va_up (fun a => wcv g (f a)) a (wcv g e') by funext b; unfold va_up; by_cases hb : b = a <;> simp [hb]]
    exact p
  · rw [va_pl_set hD hL hk] at d
    rw [show (fun b => wcv g (if b = a then e' else f b)) = va_up (fun a => wcv g (f a)) a (wcv g e') by funext b; unfold va_up; by_cases hb : b = a <;> simp [hb]]
    exact d
  · obtain ⟨hL2, hf2⟩ := get a2 e2 h2
    obtain ⟨k2, hk2⟩ := va_pl_get (X := X) (f := fun a => wcv g (f a)) hL2
    exact ⟨k2, by rw [hk2, hf2]⟩
/-- what holds of the method's frame, once and for all -/
def Cx (p : Program) (s : State) (m : MethodId) (args : Array Value) (meth : Method) (c : Code) (b : ByteArray) (n : Nat) (own : String) (ret : Option FieldType) (g : GC) : Prop :=
  p.tables.exec = Jvm.exec ∧ c.code = b ∧ c.maxLocals = n ∧ meth.sig.returnType = ret ∧ s.vm.findClass own = some m.cls ∧ (∀ w ∈ wsL_law, w.before args s = true) ∧ meth.locks = false ∧ va_K g.1 vwCl (wty g) s
def G (p : Program) (l : Launch) (e : Env) (R : Room) (s : State) (m : MethodId) (args : Array Value) (below : List Frame) (meth : Method) (c : Code) (n : Nat) (g : GC) (X : va_W) (h0 : PH) (cells slots : Nat) (Q : State → Prop) (pc : Nat) (lv : List (Nat × Value)) (st : List Value) (h : PH) : Prop :=
  ∀ (H : Heap) (locs : List Loc) (ls : Array Slot), WW g (AF X h0 s.heap.size) X h H → va_S (AF X h0 s.heap.size) s.heap H locs → lv_has ls n lv → W p l e R s m args below meth c H locs cells slots Q (F0 m pc ls st)
/-- loops, with a bound -/
def lpn {σ ρ : Type} (b : σ → Option (σ ⊕ ρ)) : Nat → σ → Option ρ
  | 0, _ => none
  | k + 1, x => (b x).bind (fun r => match r with | .inl x' => lpn b k x' | .inr y => some y)
def LF : Nat := 1000000
theorem bind_some {α β : Type} {o : Option α} {f : α → Option β} {r : β} (h : o.bind f = some r) : ∃ a, o = some a ∧ f a = some r := by
  cases o with
  | none => cases h
  | some a => exact ⟨a, rfl, h⟩
/-- what is read and written -/
def rdI (h : PH) (a ci k : Nat) : Option Int32 := match h a with
  | some (.inr (.inr (c, fs))) => if c = ci then (match fs[k]? with | some (.int v) => some v | _ => none) else none
  | _ => none
def rdJ (h : PH) (a ci k : Nat) : Option Int64 := match h a with
  | some (.inr (.inr (c, fs))) => if c = ci then (match fs[k]? with | some (.long v) => some v | _ => none) else none
  | _ => none
def rdR (h : PH) (a ci k : Nat) : Option Nat := match h a with
  | some (.inr (.inr (c, fs))) => if c = ci then (match fs[k]? with | some (.ref v) => some v | _ => none) else none
  | _ => none
def wrF (h : PH) (a ci k : Nat) (v : Value) : Option PH := match h a with
  | some (.inr (.inr (c, fs))) => if c = ci ∧ k < fs.length then some (pu h a (.inr (.inr (c, fs.set k v)))) else none
  | _ => none
def ldI (h : PH) (a : Nat) (i : Int32) : Option Int32 := match h a with
  | some (.inl (n, f)) => if i < 0 ∨ n ≤ i.toNatClampNeg then none else some (f i.toNatClampNeg)
  | _ => none
def stI (h : PH) (a : Nat) (i x : Int32) : Option PH := match h a with
  | some (.inl (n, f)) => if i < 0 ∨ n ≤ i.toNatClampNeg then none else some (pu h a (.inl (n, upd f i.toNatClampNeg x)))
  | _ => none
def ldQ (h : PH) (a : Nat) (i : Int32) : Option (Option Nat) := match h a with
  | some (.inr (.inl (_, n, f))) => if i < 0 ∨ n ≤ i.toNatClampNeg then none else some (f i.toNatClampNeg)
  | _ => none
def kO (h : PH) (a ci : Nat) : Prop := ∃ fs, h a = some (.inr (.inr (ci, fs)))
def okO (h : PH) (a ci : Nat) : Bool := match h a with
  | some (.inr (.inr (c, _))) => c == ci
  | _ => false
theorem okO_k {h : PH} {a ci : Nat} (q : okO h a ci = true) : kO h a ci := by
  unfold okO at q
  split at q
  · rename_i c fs he
    exact ⟨fs, by rw [he, eq_of_beq q]⟩
  · cases q
/-- a reference goes into a row of references: of Ropes (kind 0), or of States (kind 1) -/
def stQ (h : PH) (a : Nat) (i : Int32) (v : Nat) : Option PH := match h a with
  | some (.inr (.inl (k, n, f))) => if (i < 0 ∨ n ≤ i.toNatClampNeg) then none else if (k = 0 ∧ okO h v 1 = true) ∨ (k = 1 ∧ okO h v 2 = true) then some (pu h a (.inr (.inl (k, n, va_up f i.toNatClampNeg (some v))))) else none
  | _ => none
def lnA (h : PH) (a : Nat) : Option Int32 := match h a with
  | some (.inl (n, _)) => some (Int32.ofNat n)
  | some (.inr (.inl (_, n, _))) => some (Int32.ofNat n)
  | _ => none
theorem gd_ok {c : Prop} [Decidable c] {α : Type} {x : Option α} {r : α} (h : (if c then x else none) = some r) : c ∧ x = some r := by
  by_cases hc : c
  · rw [if_pos hc] at h
    exact ⟨hc, h⟩
  · rw [if_neg hc] at h
    cases h
theorem lpn_0 {σ ρ : Type} {b : σ → Option (σ ⊕ ρ)} {x : σ} {r : ρ} (h : lpn b 0 x = some r) : False := by cases h
theorem lpn_s {σ ρ : Type} {b : σ → Option (σ ⊕ ρ)} {k : Nat} {x : σ} {r : ρ} (h : lpn b (k + 1) x = some r) : ∃ y, b x = some y ∧ (match y with | .inl x' => lpn b k x' | .inr z => some z) = some r := bind_some h
def z01 (v : Int32) : Bool := v == 0 || v == 1
theorem z01_or {v : Int32} (h : z01 v = true) : v = 0 ∨ v = 1 := by
  unfold z01 at h
  rcases (Bool.or_eq_true _ _).mp h with h | h
  · exact Or.inl (eq_of_beq h)
  · exact Or.inr (eq_of_beq h)
theorem z01_n {v : Int32} (h : z01 v = true) : narrow .boolean (.int v) = .int v := by
  rcases z01_or h with rfl | rfl <;> rfl
theorem z01_f {v : Int32} (h : z01 v = true) : fits .boolean (.int v) = true := by
  rcases z01_or h with rfl | rfl <;> rfl
def nn64 (x : UInt64) : Bool := decide (x &&& 0x7fffffffffffffff ≤ 0x7ff0000000000000)
theorem nn64_ok {x : UInt64} (h : nn64 x = true) : vf_n64 x := by
  unfold vf_n64
  exact of_decide_eq_true h
theorem rdI_at {h : PH} {a ci k : Nat} {v : Int32} (q : rdI h a ci k = some v) : ∃ fs, h a = some (.inr (.inr (ci, fs))) ∧ fs[k]? = some (.int v) := by
  unfold rdI at q
  split at q
  · rename_i c fs he
    by_cases hc : c = ci
    · subst hc
      rw [if_pos rfl] at q
      split at q
      · rename_i w hw
        cases q
        exact ⟨fs, he, hw⟩
      · cases q
    · rw [if_neg hc] at q
      cases q
  · cases q
theorem rdJ_at {h : PH} {a ci k : Nat} {v : Int64} (q : rdJ h a ci k = some v) : ∃ fs, h a = some (.inr (.inr (ci, fs))) ∧ fs[k]? = some (.long v) := by
  unfold rdJ at q
  split at q
  · rename_i c fs he
    by_cases hc : c = ci
    · subst hc
      rw [if_pos rfl] at q
      split at q
      · rename_i w hw
        cases q
        exact ⟨fs, he, hw⟩
      · cases q
    · rw [if_neg hc] at q
      cases q
  · cases q
theorem rdR_at {h : PH} {a ci k : Nat} {v : Nat} (q : rdR h a ci k = some v) : ∃ fs, h a = some (.inr (.inr (ci, fs))) ∧ fs[k]? = some (.ref v) := by
  unfold rdR at q
  split at q
  · rename_i c fs he
    by_cases hc : c = ci
    · subst hc
      rw [if_pos rfl] at q
      split at q
      · rename_i w hw
        cases q
        exact ⟨fs, he, hw⟩
      · cases q
    · rw [if_neg hc] at q
      cases q
  · cases q
theorem wrF_at {h h1 : PH} {a ci k : Nat} {v : Value} (q : wrF h a ci k v = some h1) : ∃ fs, h a = some (.inr (.inr (ci, fs))) ∧ k < fs.length ∧ h1 = pu h a (.inr (.inr (ci, fs.set k v))) := by
  unfold wrF at q
  split at q
  · rename_i c fs he
    by_cases hc : c = ci ∧ k < fs.length
    · rw [if_pos hc] at q
      obtain ⟨rfl, hk⟩ := hc
      cases q
      exact ⟨fs, he, hk, rfl⟩
    · rw [if_neg hc] at q
      cases q
  · cases q
theorem ldI_at {h : PH} {a : Nat} {i v : Int32} (q : ldI h a i = some v) : ∃ n f, h a = some (.inl (n, f)) ∧ vp_in i n ∧ v = f i.toNatClampNeg := by
  unfold ldI at q
  split at q
  · rename_i n f he
    by_cases hc : i < 0 ∨ n ≤ i.toNatClampNeg
    · rw [if_pos hc] at q
      cases q
    · rw [if_neg hc] at q
      cases q
      exact ⟨n, f, he, hc, rfl⟩
  · cases q
theorem stI_at {h h1 : PH} {a : Nat} {i x : Int32} (q : stI h a i x = some h1) : ∃ n f, h a = some (.inl (n, f)) ∧ vp_in i n ∧ h1 = pu h a (.inl (n, upd f i.toNatClampNeg x)) := by
  unfold stI at q
  split at q
  · rename_i n f he
    by_cases hc : i < 0 ∨ n ≤ i.toNatClampNeg
    · rw [if_pos hc] at q
      cases q
    · rw [if_neg hc] at q
      cases q
      exact ⟨n, f, he, hc, rfl⟩
  · cases q
theorem ldQ_at {h : PH} {a : Nat} {i : Int32} {v : Option Nat} (q : ldQ h a i = some v) : ∃ k n f, h a = some (.inr (.inl (k, n, f))) ∧ vp_in i n ∧ v = f i.toNatClampNeg := by
  unfold ldQ at q
  split at q
  · rename_i k n f he
    by_cases hc : i < 0 ∨ n ≤ i.toNatClampNeg
    · rw [if_pos hc] at q
      cases q
    · rw [if_neg hc] at q
      cases q
      exact ⟨k, n, f, he, hc, rfl⟩
  · cases q
theorem stQ_at {h h1 : PH} {a : Nat} {i : Int32} {v : Nat} (q : stQ h a i v = some h1) : ∃ k n f, h a = some (.inr (.inl (k, n, f))) ∧ vp_in i n ∧ ((k = 0 ∧ kO h v 1) ∨ (k = 1 ∧ kO h v 2)) ∧ h1 = pu h a (.inr (.inl (k, n, va_up f i.toNatClampNeg (some v)))) := by
  unfold stQ at q
  split at q
  · rename_i k n f he
    by_cases hc : i < 0 ∨ n ≤ i.toNatClampNeg
    · rw [if_pos hc] at q
      cases q
    · rw [if_neg hc] at q
      split at q
      · rename_i h9
        cases q
        exact ⟨k, n, f, he, hc, h9.imp (fun z => ⟨z.1, okO_k z.2⟩) (fun z => ⟨z.1, okO_k z.2⟩), rfl⟩
      · cases q
  · cases q
theorem va_rf_or9 (r : Option Nat) : va_rf r = .null ∨ ∃ a, va_rf r = .ref a := by
  cases r with
  | none => exact Or.inl rfl
  | some a => exact Or.inr ⟨a, rfl⟩

section GR
variable {p : Program} {l : Launch} {e : Env} {R : Room} {s : State} {m : MethodId} {args : Array Value} {below : List Frame} {meth : Method} {c : Code} {n : Nat} {g : GC} {X : va_W} {h0 h : PH} {cells slots : Nat} {Q : State → Prop} {pc : Nat} {lv : List (Nat × Value)} {st : List Value} {b : ByteArray} {own : String} {ret : Option FieldType}
theorem G.iconst (C : Cx p s m args meth c b n own ret g) {k : Int} {v : Int32} (d : decode b pc = .ok (.iconst k, 1)) (hv : Int32.ofInt k = v) (kk : G p l e R s m args below meth c n g X h0 cells slots Q (pc + 1) lv (.int v :: st) h) : G p l e R s m args below meth c n g X h0 cells slots Q (pc) lv (st) h := fun H locs ls hW hS hl => lv_iconst C.1 C.2.1 d hv (kk H locs ls hW hS hl)
theorem G.bipush (C : Cx p s m args meth c b n own ret g) {k : Int} {v : Int32} (d : decode b pc = .ok (.bipush k, 2)) (hv : (Int8.ofInt k).toInt32 = v) (kk : G p l e R s m args below meth c n g X h0 cells slots Q (pc + 2) lv (.int v :: st) h) : G p l e R s m args below meth c n g X h0 cells slots Q (pc) lv (st) h := fun H locs ls hW hS hl => lv_bipush C.1 C.2.1 d hv (kk H locs ls hW hS hl)
theorem G.sipush (C : Cx p s m args meth c b n own ret g) {k : Int} {v : Int32} (d : decode b pc = .ok (.sipush k, 3)) (hv : (Int16.ofInt k).toInt32 = v) (kk : G p l e R s m args below meth c n g X h0 cells slots Q (pc + 3) lv (.int v :: st) h) : G p l e R s m args below meth c n g X h0 cells slots Q (pc) lv (st) h := fun H locs ls hW hS hl => lv_sipush C.1 C.2.1 d hv (kk H locs ls hW hS hl)
theorem G.lconst (C : Cx p s m args meth c b n own ret g) {k : Fin 2} {v : Int64} (d : decode b pc = .ok (.lconst k, 1)) (hv : Int64.ofNat (k : Nat) = v) (kk : G p l e R s m args below meth c n g X h0 cells slots Q (pc + 1) lv (.long v :: st) h) : G p l e R s m args below meth c n g X h0 cells slots Q (pc) lv (st) h := fun H locs ls hW hS hl => lv_lconst C.1 C.2.1 d hv (kk H locs ls hW hS hl)
theorem G.dconst0 (C : Cx p s m args meth c b n own ret g) (d : decode b pc = .ok (.dconst 0, 1)) (kk : G p l e R s m args below meth c n g X h0 cells slots Q (pc + 1) lv (.double FP.dconst0 :: st) h) : G p l e R s m args below meth c n g X h0 cells slots Q (pc) lv (st) h := fun H locs ls hW hS hl => lv_dconst0 C.1 C.2.1 d (kk H locs ls hW hS hl)
theorem G.dconst1 (C : Cx p s m args meth c b n own ret g) (d : decode b pc = .ok (.dconst 1, 1)) (kk : G p l e R s m args below meth c n g X h0 cells slots Q (pc + 1) lv (.double FP.dconst1 :: st) h) : G p l e R s m args below meth c n g X h0 cells slots Q (pc) lv (st) h := fun H locs ls hW hS hl => lv_dconst1 C.1 C.2.1 d (kk H locs ls hW hS hl)
theorem G.ldc2 (C : Cx p s m args meth c b n own ret g) {idx : Nat} {v : Int64} (hc : Cond.constantLong own idx v ∈ wsL_law) (d : decode b pc = .ok (.ldc2_w idx, 3)) (kk : G p l e R s m args below meth c n g X h0 cells slots Q (pc + 3) lv (.long v :: st) h) : G p l e R s m args below meth c n g X h0 cells slots Q (pc) lv (st) h := fun H locs ls hW hS hl => lv_ldc2 C.1 C.2.1 C.2.2.2.2.1 (C.2.2.2.2.2.1 _ hc) d (kk H locs ls hW hS hl)
theorem G.ldc2d (C : Cx p s m args meth c b n own ret g) {idx : Nat} {v : UInt64} (hc : Cond.constantDouble own idx v ∈ wsL_law) (d : decode b pc = .ok (.ldc2_w idx, 3)) (kk : G p l e R s m args below meth c n g X h0 cells slots Q (pc + 3) lv (.double v :: st) h) : G p l e R s m args below meth c n g X h0 cells slots Q (pc) lv (st) h := fun H locs ls hW hS hl => lv_ldc2d C.1 C.2.1 C.2.2.2.2.1 (C.2.2.2.2.2.1 _ hc) d (kk H locs ls hW hS hl)
theorem G.null (C : Cx p s m args meth c b n own ret g) (d : decode b pc = .ok (.aconst_null, 1)) (kk : G p l e R s m args below meth c n g X h0 cells slots Q (pc + 1) lv (.null :: st) h) : G p l e R s m args below meth c n g X h0 cells slots Q (pc) lv (st) h := fun H locs ls hW hS hl => lv_null C.1 C.2.1 d (kk H locs ls hW hS hl)
theorem G.iload_n (C : Cx p s m args meth c b n own ret g) {i9 : Fin 4} {i : Nat} {x : Int32} (k : Nat) (d : decode b pc = .ok (.iload_n i9, 1)) (hi : (i9 : Nat) = i) (hk : lv[k]? = some (i, .int x)) (kk : G p l e R s m args below meth c n g X h0 cells slots Q (pc + 1) lv (.int x :: st) h) : G p l e R s m args below meth c n g X h0 cells slots Q (pc) lv (st) h := fun H locs ls hW hS hl => lv_iload_n C.1 C.2.1 d hi (lv_at hl k hk) (kk H locs ls hW hS hl)
theorem G.iload (C : Cx p s m args meth c b n own ret g) {i : Nat} {x : Int32} (k : Nat) (d : decode b pc = .ok (.iload i, 2)) (hk : lv[k]? = some (i, .int x)) (kk : G p l e R s m args below meth c n g X h0 cells slots Q (pc + 2) lv (.int x :: st) h) : G p l e R s m args below meth c n g X h0 cells slots Q (pc) lv (st) h := fun H locs ls hW hS hl => lv_iload C.1 C.2.1 d (lv_at hl k hk) (kk H locs ls hW hS hl)
theorem G.istore_n (C : Cx p s m args meth c b n own ret g) {i9 : Fin 4} {i : Nat} {x : Int32} {lv' : List (Nat × Value)} (d : decode b pc = .ok (.istore_n i9, 1)) (hi : (i9 : Nat) = i) (hn : i < n) (hl1 : (i, Value.int x) :: lv.filter (fun q => !(q.1 == i) && !(q.1 + 1 == i && q.2.category == 2)) = lv') (kk : G p l e R s m args below meth c n g X h0 cells slots Q (pc + 1) lv' (st) h) : G p l e R s m args below meth c n g X h0 cells slots Q (pc) lv (.int x :: st) h := fun H locs ls hW hS hl => lv_istore_n C.1 C.2.1 d hi hl hn hl1 (fun ls' hl' => kk H locs ls' hW hS hl')
theorem G.istore (C : Cx p s m args meth c b n own ret g) {i : Nat} {x : Int32} {lv' : List (Nat × Value)} (d : decode b pc = .ok (.istore i, 2)) (hn : i < n) (hl1 : (i, Value.int x) :: lv.filter (fun q => !(q.1 == i) && !(q.1 + 1 == i && q.2.category == 2)) = lv') (kk : G p l e R s m args below meth c n g X h0 cells slots Q (pc + 2) lv' (st) h) : G p l e R s m args below meth c n g X h0 cells slots Q (pc) lv (.int x :: st) h := fun H locs ls hW hS hl => lv_istore C.1 C.2.1 d hl hn hl1 (fun ls' hl' => kk H locs ls' hW hS hl')
theorem G.lload_n (C : Cx p s m args meth c b n own ret g) {i9 : Fin 4} {i : Nat} {x : Int64} (k : Nat) (d : decode b pc = .ok (.lload_n i9, 1)) (hi : (i9 : Nat) = i) (hk : lv[k]? = some (i, .long x)) (kk : G p l e R s m args below meth c n g X h0 cells slots Q (pc + 1) lv (.long x :: st) h) : G p l e R s m args below meth c n g X h0 cells slots Q (pc) lv (st) h := fun H locs ls hW hS hl => lv_lload_n C.1 C.2.1 d hi (lv_at hl k hk) (kk H locs ls hW hS hl)
theorem G.lload (C : Cx p s m args meth c b n own ret g) {i : Nat} {x : Int64} (k : Nat) (d : decode b pc = .ok (.lload i, 2)) (hk : lv[k]? = some (i, .long x)) (kk : G p l e R s m args below meth c n g X h0 cells slots Q (pc + 2) lv (.long x :: st) h) : G p l e R s m args below meth c n g X h0 cells slots Q (pc) lv (st) h := fun H locs ls hW hS hl => lv_lload C.1 C.2.1 d (lv_at hl k hk) (kk H locs ls hW hS hl)
theorem G.lstore_n (C : Cx p s m args meth c b n own ret g) {i9 : Fin 4} {i : Nat} {x : Int64} {lv' : List (Nat × Value)} (d : decode b pc = .ok (.lstore_n i9, 1)) (hi : (i9 : Nat) = i) (hn : i + 1 < n) (hl1 : (i, Value.long x) :: lv.filter (fun q => !(q.1 == i) && (!(q.1 == i + 1) && !(q.1 + 1 == i && q.2.category == 2))) = lv') (kk : G p l e R s m args below meth c n g X h0 cells slots Q (pc + 1) lv' (st) h) : G p l e R s m args below meth c n g X h0 cells slots Q (pc) lv (.long x :: st) h := fun H locs ls hW hS hl => lv_lstore_n C.1 C.2.1 d hi hl hn hl1 (fun ls' hl' => kk H locs ls' hW hS hl')
theorem G.lstore (C : Cx p s m args meth c b n own ret g) {i : Nat} {x : Int64} {lv' : List (Nat × Value)} (d : decode b pc = .ok (.lstore i, 2)) (hn : i + 1 < n) (hl1 : (i, Value.long x) :: lv.filter (fun q => !(q.1 == i) && (!(q.1 == i + 1) && !(q.1 + 1 == i && q.2.category == 2))) = lv') (kk : G p l e R s m args below meth c n g X h0 cells slots Q (pc + 2) lv' (st) h) : G p l e R s m args below meth c n g X h0 cells slots Q (pc) lv (.long x :: st) h := fun H locs ls hW hS hl => lv_lstore C.1 C.2.1 d hl hn hl1 (fun ls' hl' => kk H locs ls' hW hS hl')
theorem G.dload_n (C : Cx p s m args meth c b n own ret g) {i9 : Fin 4} {i : Nat} {x : UInt64} (k : Nat) (d : decode b pc = .ok (.dload_n i9, 1)) (hi : (i9 : Nat) = i) (hk : lv[k]? = some (i, .double x)) (kk : G p l e R s m args below meth c n g X h0 cells slots Q (pc + 1) lv (.double x :: st) h) : G p l e R s m args below meth c n g X h0 cells slots Q (pc) lv (st) h := fun H locs ls hW hS hl => lv_dload_n C.1 C.2.1 d hi (lv_at hl k hk) (kk H locs ls hW hS hl)
theorem G.dload (C : Cx p s m args meth c b n own ret g) {i : Nat} {x : UInt64} (k : Nat) (d : decode b pc = .ok (.dload i, 2)) (hk : lv[k]? = some (i, .double x)) (kk : G p l e R s m args below meth c n g X h0 cells slots Q (pc + 2) lv (.double x :: st) h) : G p l e R s m args below meth c n g X h0 cells slots Q (pc) lv (st) h := fun H locs ls hW hS hl => lv_dload C.1 C.2.1 d (lv_at hl k hk) (kk H locs ls hW hS hl)
theorem G.dstore_n (C : Cx p s m args meth c b n own ret g) {i9 : Fin 4} {i : Nat} {x : UInt64} {lv' : List (Nat × Value)} (d : decode b pc = .ok (.dstore_n i9, 1)) (hi : (i9 : Nat) = i) (hn : i + 1 < n) (hl1 : (i, Value.double x) :: lv.filter (fun q => !(q.1 == i) && (!(q.1 == i + 1) && !(q.1 + 1 == i && q.2.category == 2))) = lv') (kk : G p l e R s m args below meth c n g X h0 cells slots Q (pc + 1) lv' (st) h) : G p l e R s m args below meth c n g X h0 cells slots Q (pc) lv (.double x :: st) h := fun H locs ls hW hS hl => lv_dstore_n C.1 C.2.1 d hi hl hn hl1 (fun ls' hl' => kk H locs ls' hW hS hl')
theorem G.dstore (C : Cx p s m args meth c b n own ret g) {i : Nat} {x : UInt64} {lv' : List (Nat × Value)} (d : decode b pc = .ok (.dstore i, 2)) (hn : i + 1 < n) (hl1 : (i, Value.double x) :: lv.filter (fun q => !(q.1 == i) && (!(q.1 == i + 1) && !(q.1 + 1 == i && q.2.category == 2))) = lv') (kk : G p l e R s m args below meth c n g X h0 cells slots Q (pc + 2) lv' (st) h) : G p l e R s m args below meth c n g X h0 cells slots Q (pc) lv (.double x :: st) h := fun H locs ls hW hS hl => lv_dstore C.1 C.2.1 d hl hn hl1 (fun ls' hl' => kk H locs ls' hW hS hl')
theorem G.aload_n (C : Cx p s m args meth c b n own ret g) {i9 : Fin 4} {i : Nat} {x : Nat} (k : Nat) (d : decode b pc = .ok (.aload_n i9, 1)) (hi : (i9 : Nat) = i) (hk : lv[k]? = some (i, .ref x)) (kk : G p l e R s m args below meth c n g X h0 cells slots Q (pc + 1) lv (.ref x :: st) h) : G p l e R s m args below meth c n g X h0 cells slots Q (pc) lv (st) h := fun H locs ls hW hS hl => lv_aload_n C.1 C.2.1 d hi (lv_at hl k hk) (kk H locs ls hW hS hl)
theorem G.aload (C : Cx p s m args meth c b n own ret g) {i : Nat} {x : Nat} (k : Nat) (d : decode b pc = .ok (.aload i, 2)) (hk : lv[k]? = some (i, .ref x)) (kk : G p l e R s m args below meth c n g X h0 cells slots Q (pc + 2) lv (.ref x :: st) h) : G p l e R s m args below meth c n g X h0 cells slots Q (pc) lv (st) h := fun H locs ls hW hS hl => lv_aload C.1 C.2.1 d (lv_at hl k hk) (kk H locs ls hW hS hl)
theorem G.astore_n (C : Cx p s m args meth c b n own ret g) {i9 : Fin 4} {i : Nat} {x : Nat} {lv' : List (Nat × Value)} (d : decode b pc = .ok (.astore_n i9, 1)) (hi : (i9 : Nat) = i) (hn : i < n) (hl1 : (i, Value.ref x) :: lv.filter (fun q => !(q.1 == i) && !(q.1 + 1 == i && q.2.category == 2)) = lv') (kk : G p l e R s m args below meth c n g X h0 cells slots Q (pc + 1) lv' (st) h) : G p l e R s m args below meth c n g X h0 cells slots Q (pc) lv (.ref x :: st) h := fun H locs ls hW hS hl => lv_astore_n C.1 C.2.1 d hi hl hn hl1 (fun ls' hl' => kk H locs ls' hW hS hl')
theorem G.astore (C : Cx p s m args meth c b n own ret g) {i : Nat} {x : Nat} {lv' : List (Nat × Value)} (d : decode b pc = .ok (.astore i, 2)) (hn : i < n) (hl1 : (i, Value.ref x) :: lv.filter (fun q => !(q.1 == i) && !(q.1 + 1 == i && q.2.category == 2)) = lv') (kk : G p l e R s m args below meth c n g X h0 cells slots Q (pc + 2) lv' (st) h) : G p l e R s m args below meth c n g X h0 cells slots Q (pc) lv (.ref x :: st) h := fun H locs ls hW hS hl => lv_astore C.1 C.2.1 d hl hn hl1 (fun ls' hl' => kk H locs ls' hW hS hl')
theorem G.qload_n (C : Cx p s m args meth c b n own ret g) {i9 : Fin 4} {i : Nat} {x : Option Nat} (k : Nat) (d : decode b pc = .ok (.aload_n i9, 1)) (hi : (i9 : Nat) = i) (hk : lv[k]? = some (i, va_rf x)) (kk : G p l e R s m args below meth c n g X h0 cells slots Q (pc + 1) lv (va_rf x :: st) h) : G p l e R s m args below meth c n g X h0 cells slots Q (pc) lv (st) h := by
  intro H locs ls hW hS hl
  cases x with
  | none => exact lv_aload_nN C.1 C.2.1 d hi (lv_at hl k hk) (kk H locs ls hW hS hl)
  | some a => exact lv_aload_n C.1 C.2.1 d hi (lv_at hl k hk) (kk H locs ls hW hS hl)
theorem G.qstore_n (C : Cx p s m args meth c b n own ret g) {i9 : Fin 4} {i : Nat} {x : Option Nat} {lv' : List (Nat × Value)} (d : decode b pc = .ok (.astore_n i9, 1)) (hi : (i9 : Nat) = i) (hn : i < n) (hl1 : (i, va_rf x) :: lv.filter (fun q => !(q.1 == i) && !(q.1 + 1 == i && q.2.category == 2)) = lv') (kk : G p l e R s m args below meth c n g X h0 cells slots Q (pc + 1) lv' (st) h) : G p l e R s m args below meth c n g X h0 cells slots Q (pc) lv (va_rf x :: st) h := by
  intro H locs ls hW hS hl
  cases x with
  | none => exact lv_astore_nN C.1 C.2.1 d hi hl hn hl1 (fun ls' hl' => kk H locs ls' hW hS hl')
  | some a => exact lv_astore_n C.1 C.2.1 d hi hl hn hl1 (fun ls' hl' => kk H locs ls' hW hS hl')
theorem G.qload (C : Cx p s m args meth c b n own ret g) {i : Nat} {x : Option Nat} (k : Nat) (d : decode b pc = .ok (.aload i, 2)) (hk : lv[k]? = some (i, va_rf x)) (kk : G p l e R s m args below meth c n g X h0 cells slots Q (pc + 2) lv (va_rf x :: st) h) : G p l e R s m args below meth c n g X h0 cells slots Q (pc) lv (st) h := by
  intro H locs ls hW hS hl
  cases x with
  | none => exact lv_aloadN C.1 C.2.1 d (lv_at hl k hk) (kk H locs ls hW hS hl)
  | some a => exact lv_aload C.1 C.2.1 d (lv_at hl k hk) (kk H locs ls hW hS hl)
theorem G.qstore (C : Cx p s m args meth c b n own ret g) {i : Nat} {x : Option Nat} {lv' : List (Nat × Value)} (d : decode b pc = .ok (.astore i, 2)) (hn : i < n) (hl1 : (i, va_rf x) :: lv.filter (fun q => !(q.1 == i) && !(q.1 + 1 == i && q.2.category == 2)) = lv') (kk : G p l e R s m args below meth c n g X h0 cells slots Q (pc + 2) lv' (st) h) : G p l e R s m args below meth c n g X h0 cells slots Q (pc) lv (va_rf x :: st) h := by
  intro H locs ls hW hS hl
  cases x with
  | none => exact lv_astoreN C.1 C.2.1 d hl hn hl1 (fun ls' hl' => kk H locs ls' hW hS hl')
  | some a => exact lv_astore C.1 C.2.1 d hl hn hl1 (fun ls' hl' => kk H locs ls' hW hS hl')
theorem G.iinc (C : Cx p s m args meth c b n own ret g) {i k : Nat} {z : Int} {x v : Int32} {lv' : List (Nat × Value)} (d : decode b pc = .ok (.iinc i z, 3)) (hk : lv[k]? = some (i, .int x)) (hv : x + Int32.ofInt z = v) (hn : i < n) (hl1 : (i, Value.int v) :: lv.filter (fun q => !(q.1 == i) && !(q.1 + 1 == i && q.2.category == 2)) = lv') (kk : G p l e R s m args below meth c n g X h0 cells slots Q (pc + 3) lv' (st) h) : G p l e R s m args below meth c n g X h0 cells slots Q (pc) lv (st) h := fun H locs ls hW hS hl => lv_iinc C.1 C.2.1 d hl hk hv hn hl1 (fun ls' hl' => kk H locs ls' hW hS hl')
theorem G.iadd (C : Cx p s m args meth c b n own ret g) {x y : Int32} (d : decode b pc = .ok (.iadd, 1)) (kk : G p l e R s m args below meth c n g X h0 cells slots Q (pc + 1) lv (.int (x + y) :: st) h) : G p l e R s m args below meth c n g X h0 cells slots Q (pc) lv (.int y :: .int x :: st) h := fun H locs ls hW hS hl => lv_iadd C.1 C.2.1 d (kk H locs ls hW hS hl)
theorem G.isub (C : Cx p s m args meth c b n own ret g) {x y : Int32} (d : decode b pc = .ok (.isub, 1)) (kk : G p l e R s m args below meth c n g X h0 cells slots Q (pc + 1) lv (.int (x - y) :: st) h) : G p l e R s m args below meth c n g X h0 cells slots Q (pc) lv (.int y :: .int x :: st) h := fun H locs ls hW hS hl => lv_isub C.1 C.2.1 d (kk H locs ls hW hS hl)
theorem G.imul (C : Cx p s m args meth c b n own ret g) {x y : Int32} (d : decode b pc = .ok (.imul, 1)) (kk : G p l e R s m args below meth c n g X h0 cells slots Q (pc + 1) lv (.int (x * y) :: st) h) : G p l e R s m args below meth c n g X h0 cells slots Q (pc) lv (.int y :: .int x :: st) h := fun H locs ls hW hS hl => lv_imul C.1 C.2.1 d (kk H locs ls hW hS hl)
theorem G.iand (C : Cx p s m args meth c b n own ret g) {x y : Int32} (d : decode b pc = .ok (.iand, 1)) (kk : G p l e R s m args below meth c n g X h0 cells slots Q (pc + 1) lv (.int (x &&& y) :: st) h) : G p l e R s m args below meth c n g X h0 cells slots Q (pc) lv (.int y :: .int x :: st) h := fun H locs ls hW hS hl => lv_iand C.1 C.2.1 d (kk H locs ls hW hS hl)
theorem G.idiv (C : Cx p s m args meth c b n own ret g) {x y : Int32} (d : decode b pc = .ok (.idiv, 1)) (hne : ¬ y = 0) (kk : G p l e R s m args below meth c n g X h0 cells slots Q (pc + 1) lv (.int (x / y) :: st) h) : G p l e R s m args below meth c n g X h0 cells slots Q (pc) lv (.int y :: .int x :: st) h := fun H locs ls hW hS hl => lv_idiv C.1 C.2.1 d hne (kk H locs ls hW hS hl)
theorem G.irem (C : Cx p s m args meth c b n own ret g) {x y : Int32} (d : decode b pc = .ok (.irem, 1)) (hne : ¬ y = 0) (kk : G p l e R s m args below meth c n g X h0 cells slots Q (pc + 1) lv (.int (x - x / y * y) :: st) h) : G p l e R s m args below meth c n g X h0 cells slots Q (pc) lv (.int y :: .int x :: st) h := fun H locs ls hW hS hl => lv_irem C.1 C.2.1 d hne (kk H locs ls hW hS hl)
theorem G.ladd (C : Cx p s m args meth c b n own ret g) {x y : Int64} (d : decode b pc = .ok (.ladd, 1)) (kk : G p l e R s m args below meth c n g X h0 cells slots Q (pc + 1) lv (.long (x + y) :: st) h) : G p l e R s m args below meth c n g X h0 cells slots Q (pc) lv (.long y :: .long x :: st) h := fun H locs ls hW hS hl => lv_ladd C.1 C.2.1 d (kk H locs ls hW hS hl)
theorem G.lsub (C : Cx p s m args meth c b n own ret g) {x y : Int64} (d : decode b pc = .ok (.lsub, 1)) (kk : G p l e R s m args below meth c n g X h0 cells slots Q (pc + 1) lv (.long (x - y) :: st) h) : G p l e R s m args below meth c n g X h0 cells slots Q (pc) lv (.long y :: .long x :: st) h := fun H locs ls hW hS hl => lv_lsub C.1 C.2.1 d (kk H locs ls hW hS hl)
theorem G.lmul (C : Cx p s m args meth c b n own ret g) {x y : Int64} (d : decode b pc = .ok (.lmul, 1)) (kk : G p l e R s m args below meth c n g X h0 cells slots Q (pc + 1) lv (.long (x * y) :: st) h) : G p l e R s m args below meth c n g X h0 cells slots Q (pc) lv (.long y :: .long x :: st) h := fun H locs ls hW hS hl => lv_lmul C.1 C.2.1 d (kk H locs ls hW hS hl)
theorem G.lshl (C : Cx p s m args meth c b n own ret g) {x : Int64} {y : Int32} (d : decode b pc = .ok (.lshl, 1)) (kk : G p l e R s m args below meth c n g X h0 cells slots Q (pc + 1) lv (.long (x <<< (y.toInt64 &&& 63)) :: st) h) : G p l e R s m args below meth c n g X h0 cells slots Q (pc) lv (.int y :: .long x :: st) h := fun H locs ls hW hS hl => lv_lshl C.1 C.2.1 d rfl (kk H locs ls hW hS hl)
theorem G.i2l (C : Cx p s m args meth c b n own ret g) {x : Int32} (d : decode b pc = .ok (.i2l, 1)) (kk : G p l e R s m args below meth c n g X h0 cells slots Q (pc + 1) lv (.long x.toInt64 :: st) h) : G p l e R s m args below meth c n g X h0 cells slots Q (pc) lv (.int x :: st) h := fun H locs ls hW hS hl => lv_i2l C.1 C.2.1 d rfl (kk H locs ls hW hS hl)
theorem G.i2d (C : Cx p s m args meth c b n own ret g) {x : Int32} (d : decode b pc = .ok (.i2d, 1)) (kk : G p l e R s m args below meth c n g X h0 cells slots Q (pc + 1) lv (.double (FP.i2d x) :: st) h) : G p l e R s m args below meth c n g X h0 cells slots Q (pc) lv (.int x :: st) h := fun H locs ls hW hS hl => lv_i2d C.1 C.2.1 d (kk H locs ls hW hS hl)
theorem G.l2d (C : Cx p s m args meth c b n own ret g) {x : Int64} (d : decode b pc = .ok (.l2d, 1)) (kk : G p l e R s m args below meth c n g X h0 cells slots Q (pc + 1) lv (.double (FP.l2d x) :: st) h) : G p l e R s m args below meth c n g X h0 cells slots Q (pc) lv (.long x :: st) h := fun H locs ls hW hS hl => lv_l2d C.1 C.2.1 d (kk H locs ls hW hS hl)
theorem G.d2l (C : Cx p s m args meth c b n own ret g) {x : UInt64} (d : decode b pc = .ok (.d2l, 1)) (kk : G p l e R s m args below meth c n g X h0 cells slots Q (pc + 1) lv (.long (FP.d2l x) :: st) h) : G p l e R s m args below meth c n g X h0 cells slots Q (pc) lv (.double x :: st) h := fun H locs ls hW hS hl => lv_d2l C.1 C.2.1 d (kk H locs ls hW hS hl)
theorem G.dmul (C : Cx p s m args meth c b n own ret g) {x y : UInt64} (d : decode b pc = .ok (.dmul, 1)) (hne : vf_n64 (FP.dmul x y)) (kk : G p l e R s m args below meth c n g X h0 cells slots Q (pc + 1) lv (.double (FP.dmul x y) :: st) h) : G p l e R s m args below meth c n g X h0 cells slots Q (pc) lv (.double y :: .double x :: st) h := fun H locs ls hW hS hl => lv_dmul C.1 C.2.1 d hne (kk H locs ls hW hS hl)
theorem G.dsub (C : Cx p s m args meth c b n own ret g) {x y : UInt64} (d : decode b pc = .ok (.dsub, 1)) (hne : vf_n64 (FP.dsub x y)) (kk : G p l e R s m args below meth c n g X h0 cells slots Q (pc + 1) lv (.double (FP.dsub x y) :: st) h) : G p l e R s m args below meth c n g X h0 cells slots Q (pc) lv (.double y :: .double x :: st) h := fun H locs ls hW hS hl => lv_dsub C.1 C.2.1 d hne (kk H locs ls hW hS hl)
theorem G.ddiv (C : Cx p s m args meth c b n own ret g) {x y : UInt64} (d : decode b pc = .ok (.ddiv, 1)) (hne : vf_n64 (FP.ddiv x y)) (kk : G p l e R s m args below meth c n g X h0 cells slots Q (pc + 1) lv (.double (FP.ddiv x y) :: st) h) : G p l e R s m args below meth c n g X h0 cells slots Q (pc) lv (.double y :: .double x :: st) h := fun H locs ls hW hS hl => lv_ddiv C.1 C.2.1 d hne (kk H locs ls hW hS hl)
theorem G.dup (C : Cx p s m args meth c b n own ret g) {va : Value} (d : decode b pc = .ok (.dup, 1)) (hva : va.category = 1) (kk : G p l e R s m args below meth c n g X h0 cells slots Q (pc + 1) lv (va :: va :: st) h) : G p l e R s m args below meth c n g X h0 cells slots Q (pc) lv (va :: st) h := fun H locs ls hW hS hl => lv_dup C.1 C.2.1 d hva (kk H locs ls hW hS hl)
theorem G.dup2 (C : Cx p s m args meth c b n own ret g) {va vb : Value} (d : decode b pc = .ok (.dup2, 1)) (hva : va.category = 1) (hvb : vb.category = 1) (kk : G p l e R s m args below meth c n g X h0 cells slots Q (pc + 1) lv (va :: vb :: va :: vb :: st) h) : G p l e R s m args below meth c n g X h0 cells slots Q (pc) lv (va :: vb :: st) h := fun H locs ls hW hS hl => lv_dup2_11 C.1 C.2.1 d hva hvb (kk H locs ls hW hS hl)
theorem G.pop (C : Cx p s m args meth c b n own ret g) {va : Value} (d : decode b pc = .ok (.pop, 1)) (hva : va.category = 1) (kk : G p l e R s m args below meth c n g X h0 cells slots Q (pc + 1) lv (st) h) : G p l e R s m args below meth c n g X h0 cells slots Q (pc) lv (va :: st) h := fun H locs ls hW hS hl => lv_pop C.1 C.2.1 d hva (kk H locs ls hW hS hl)
theorem G.lcmp (C : Cx p s m args meth c b n own ret g) {x y : Int64} (d : decode b pc = .ok (.lcmp, 1)) (kk : G p l e R s m args below meth c n g X h0 cells slots Q (pc + 1) lv (.int (lg_cmp x y) :: st) h) : G p l e R s m args below meth c n g X h0 cells slots Q (pc) lv (.long y :: .long x :: st) h := fun H locs ls hW hS hl => W.lcmp C.1 C.2.1 d (kk H locs ls hW hS hl)
theorem G.dcmp (C : Cx p s m args meth c b n own ret g) {x y : UInt64} {op : CmpOp} (d : decode b pc = .ok (.dcmp op, 1)) (kk : G p l e R s m args below meth c n g X h0 cells slots Q (pc + 1) lv (.int (Op.cmpValue (FP.dcmp x y) op) :: st) h) : G p l e R s m args below meth c n g X h0 cells slots Q (pc) lv (.double y :: .double x :: st) h := fun H locs ls hW hS hl => lv_dcmp C.1 C.2.1 d (kk H locs ls hW hS hl)
theorem G.if_eq (C : Cx p s m args meth c b n own ret g) {x : Int32} {off : Int} {tgt : Nat} {α : Type} {fa fb : Option α} {r9 : α} (d : decode b pc = .ok (.ifCond .eq off, 3)) (ht : (pc : Int) + off = (tgt : Int)) (hf : (if x = 0 then fa else fb) = some r9) (kt : x = 0 → fa = some r9 → G p l e R s m args below meth c n g X h0 cells slots Q (tgt) lv (st) h) (kf : ¬ x = 0 → fb = some r9 → G p l e R s m args below meth c n g X h0 cells slots Q (pc + 3) lv (st) h) : G p l e R s m args below meth c n g X h0 cells slots Q (pc) lv (.int x :: st) h := fun H locs ls hW hS hl => lv_if_eq C.1 C.2.1 d ht (fun q => kt q (by rw [if_pos q] at hf; exact hf) H locs ls hW hS hl) (fun q => kf q (by first | (rw [if_neg q] at hf; exact hf) | (rw [if_neg (fun z => z q)] at hf; exact hf)) H locs ls hW hS hl)
theorem G.icmp_eq (C : Cx p s m args meth c b n own ret g) {x y : Int32} {off : Int} {tgt : Nat} {α : Type} {fa fb : Option α} {r9 : α} (d : decode b pc = .ok (.if_icmp .eq off, 3)) (ht : (pc : Int) + off = (tgt : Int)) (hf : (if x = y then fa else fb) = some r9) (kt : x = y → fa = some r9 → G p l e R s m args below meth c n g X h0 cells slots Q (tgt) lv (st) h) (kf : ¬ x = y → fb = some r9 → G p l e R s m args below meth c n g X h0 cells slots Q (pc + 3) lv (st) h) : G p l e R s m args below meth c n g X h0 cells slots Q (pc) lv (.int y :: .int x :: st) h := fun H locs ls hW hS hl => lv_icmp_eq C.1 C.2.1 d ht (fun q => kt q (by rw [if_pos q] at hf; exact hf) H locs ls hW hS hl) (fun q => kf q (by first | (rw [if_neg q] at hf; exact hf) | (rw [if_neg (fun z => z q)] at hf; exact hf)) H locs ls hW hS hl)
theorem G.if_ne (C : Cx p s m args meth c b n own ret g) {x : Int32} {off : Int} {tgt : Nat} {α : Type} {fa fb : Option α} {r9 : α} (d : decode b pc = .ok (.ifCond .ne off, 3)) (ht : (pc : Int) + off = (tgt : Int)) (hf : (if ¬ x = 0 then fa else fb) = some r9) (kt : ¬ x = 0 → fa = some r9 → G p l e R s m args below meth c n g X h0 cells slots Q (tgt) lv (st) h) (kf : x = 0 → fb = some r9 → G p l e R s m args below meth c n g X h0 cells slots Q (pc + 3) lv (st) h) : G p l e R s m args below meth c n g X h0 cells slots Q (pc) lv (.int x :: st) h := fun H locs ls hW hS hl => lv_if_ne C.1 C.2.1 d ht (fun q => kt q (by rw [if_pos q] at hf; exact hf) H locs ls hW hS hl) (fun q => kf q (by first | (rw [if_neg q] at hf; exact hf) | (rw [if_neg (fun z => z q)] at hf; exact hf)) H locs ls hW hS hl)
theorem G.icmp_ne (C : Cx p s m args meth c b n own ret g) {x y : Int32} {off : Int} {tgt : Nat} {α : Type} {fa fb : Option α} {r9 : α} (d : decode b pc = .ok (.if_icmp .ne off, 3)) (ht : (pc : Int) + off = (tgt : Int)) (hf : (if ¬ x = y then fa else fb) = some r9) (kt : ¬ x = y → fa = some r9 → G p l e R s m args below meth c n g X h0 cells slots Q (tgt) lv (st) h) (kf : x = y → fb = some r9 → G p l e R s m args below meth c n g X h0 cells slots Q (pc + 3) lv (st) h) : G p l e R s m args below meth c n g X h0 cells slots Q (pc) lv (.int y :: .int x :: st) h := fun H locs ls hW hS hl => lv_icmp_ne C.1 C.2.1 d ht (fun q => kt q (by rw [if_pos q] at hf; exact hf) H locs ls hW hS hl) (fun q => kf q (by first | (rw [if_neg q] at hf; exact hf) | (rw [if_neg (fun z => z q)] at hf; exact hf)) H locs ls hW hS hl)
theorem G.if_lt (C : Cx p s m args meth c b n own ret g) {x : Int32} {off : Int} {tgt : Nat} {α : Type} {fa fb : Option α} {r9 : α} (d : decode b pc = .ok (.ifCond .lt off, 3)) (ht : (pc : Int) + off = (tgt : Int)) (hf : (if x < 0 then fa else fb) = some r9) (kt : x < 0 → fa = some r9 → G p l e R s m args below meth c n g X h0 cells slots Q (tgt) lv (st) h) (kf : ¬ x < 0 → fb = some r9 → G p l e R s m args below meth c n g X h0 cells slots Q (pc + 3) lv (st) h) : G p l e R s m args below meth c n g X h0 cells slots Q (pc) lv (.int x :: st) h := fun H locs ls hW hS hl => lv_if_lt C.1 C.2.1 d ht (fun q => kt q (by rw [if_pos q] at hf; exact hf) H locs ls hW hS hl) (fun q => kf q (by first | (rw [if_neg q] at hf; exact hf) | (rw [if_neg (fun z => z q)] at hf; exact hf)) H locs ls hW hS hl)
theorem G.icmp_lt (C : Cx p s m args meth c b n own ret g) {x y : Int32} {off : Int} {tgt : Nat} {α : Type} {fa fb : Option α} {r9 : α} (d : decode b pc = .ok (.if_icmp .lt off, 3)) (ht : (pc : Int) + off = (tgt : Int)) (hf : (if x < y then fa else fb) = some r9) (kt : x < y → fa = some r9 → G p l e R s m args below meth c n g X h0 cells slots Q (tgt) lv (st) h) (kf : ¬ x < y → fb = some r9 → G p l e R s m args below meth c n g X h0 cells slots Q (pc + 3) lv (st) h) : G p l e R s m args below meth c n g X h0 cells slots Q (pc) lv (.int y :: .int x :: st) h := fun H locs ls hW hS hl => lv_icmp_lt C.1 C.2.1 d ht (fun q => kt q (by rw [if_pos q] at hf; exact hf) H locs ls hW hS hl) (fun q => kf q (by first | (rw [if_neg q] at hf; exact hf) | (rw [if_neg (fun z => z q)] at hf; exact hf)) H locs ls hW hS hl)
theorem G.if_ge (C : Cx p s m args meth c b n own ret g) {x : Int32} {off : Int} {tgt : Nat} {α : Type} {fa fb : Option α} {r9 : α} (d : decode b pc = .ok (.ifCond .ge off, 3)) (ht : (pc : Int) + off = (tgt : Int)) (hf : (if 0 ≤ x then fa else fb) = some r9) (kt : 0 ≤ x → fa = some r9 → G p l e R s m args below meth c n g X h0 cells slots Q (tgt) lv (st) h) (kf : ¬ 0 ≤ x → fb = some r9 → G p l e R s m args below meth c n g X h0 cells slots Q (pc + 3) lv (st) h) : G p l e R s m args below meth c n g X h0 cells slots Q (pc) lv (.int x :: st) h := fun H locs ls hW hS hl => lv_if_ge C.1 C.2.1 d ht (fun q => kt q (by rw [if_pos q] at hf; exact hf) H locs ls hW hS hl) (fun q => kf q (by first | (rw [if_neg q] at hf; exact hf) | (rw [if_neg (fun z => z q)] at hf; exact hf)) H locs ls hW hS hl)
theorem G.icmp_ge (C : Cx p s m args meth c b n own ret g) {x y : Int32} {off : Int} {tgt : Nat} {α : Type} {fa fb : Option α} {r9 : α} (d : decode b pc = .ok (.if_icmp .ge off, 3)) (ht : (pc : Int) + off = (tgt : Int)) (hf : (if y ≤ x then fa else fb) = some r9) (kt : y ≤ x → fa = some r9 → G p l e R s m args below meth c n g X h0 cells slots Q (tgt) lv (st) h) (kf : ¬ y ≤ x → fb = some r9 → G p l e R s m args below meth c n g X h0 cells slots Q (pc + 3) lv (st) h) : G p l e R s m args below meth c n g X h0 cells slots Q (pc) lv (.int y :: .int x :: st) h := fun H locs ls hW hS hl => lv_icmp_ge C.1 C.2.1 d ht (fun q => kt q (by rw [if_pos q] at hf; exact hf) H locs ls hW hS hl) (fun q => kf q (by first | (rw [if_neg q] at hf; exact hf) | (rw [if_neg (fun z => z q)] at hf; exact hf)) H locs ls hW hS hl)
theorem G.if_gt (C : Cx p s m args meth c b n own ret g) {x : Int32} {off : Int} {tgt : Nat} {α : Type} {fa fb : Option α} {r9 : α} (d : decode b pc = .ok (.ifCond .gt off, 3)) (ht : (pc : Int) + off = (tgt : Int)) (hf : (if 0 < x then fa else fb) = some r9) (kt : 0 < x → fa = some r9 → G p l e R s m args below meth c n g X h0 cells slots Q (tgt) lv (st) h) (kf : ¬ 0 < x → fb = some r9 → G p l e R s m args below meth c n g X h0 cells slots Q (pc + 3) lv (st) h) : G p l e R s m args below meth c n g X h0 cells slots Q (pc) lv (.int x :: st) h := fun H locs ls hW hS hl => lv_if_gt C.1 C.2.1 d ht (fun q => kt q (by rw [if_pos q] at hf; exact hf) H locs ls hW hS hl) (fun q => kf q (by first | (rw [if_neg q] at hf; exact hf) | (rw [if_neg (fun z => z q)] at hf; exact hf)) H locs ls hW hS hl)
theorem G.icmp_gt (C : Cx p s m args meth c b n own ret g) {x y : Int32} {off : Int} {tgt : Nat} {α : Type} {fa fb : Option α} {r9 : α} (d : decode b pc = .ok (.if_icmp .gt off, 3)) (ht : (pc : Int) + off = (tgt : Int)) (hf : (if y < x then fa else fb) = some r9) (kt : y < x → fa = some r9 → G p l e R s m args below meth c n g X h0 cells slots Q (tgt) lv (st) h) (kf : ¬ y < x → fb = some r9 → G p l e R s m args below meth c n g X h0 cells slots Q (pc + 3) lv (st) h) : G p l e R s m args below meth c n g X h0 cells slots Q (pc) lv (.int y :: .int x :: st) h := fun H locs ls hW hS hl => lv_icmp_gt C.1 C.2.1 d ht (fun q => kt q (by rw [if_pos q] at hf; exact hf) H locs ls hW hS hl) (fun q => kf q (by first | (rw [if_neg q] at hf; exact hf) | (rw [if_neg (fun z => z q)] at hf; exact hf)) H locs ls hW hS hl)
theorem G.if_le (C : Cx p s m args meth c b n own ret g) {x : Int32} {off : Int} {tgt : Nat} {α : Type} {fa fb : Option α} {r9 : α} (d : decode b pc = .ok (.ifCond .le off, 3)) (ht : (pc : Int) + off = (tgt : Int)) (hf : (if x ≤ 0 then fa else fb) = some r9) (kt : x ≤ 0 → fa = some r9 → G p l e R s m args below meth c n g X h0 cells slots Q (tgt) lv (st) h) (kf : ¬ x ≤ 0 → fb = some r9 → G p l e R s m args below meth c n g X h0 cells slots Q (pc + 3) lv (st) h) : G p l e R s m args below meth c n g X h0 cells slots Q (pc) lv (.int x :: st) h := fun H locs ls hW hS hl => lv_if_le C.1 C.2.1 d ht (fun q => kt q (by rw [if_pos q] at hf; exact hf) H locs ls hW hS hl) (fun q => kf q (by first | (rw [if_neg q] at hf; exact hf) | (rw [if_neg (fun z => z q)] at hf; exact hf)) H locs ls hW hS hl)
theorem G.icmp_le (C : Cx p s m args meth c b n own ret g) {x y : Int32} {off : Int} {tgt : Nat} {α : Type} {fa fb : Option α} {r9 : α} (d : decode b pc = .ok (.if_icmp .le off, 3)) (ht : (pc : Int) + off = (tgt : Int)) (hf : (if x ≤ y then fa else fb) = some r9) (kt : x ≤ y → fa = some r9 → G p l e R s m args below meth c n g X h0 cells slots Q (tgt) lv (st) h) (kf : ¬ x ≤ y → fb = some r9 → G p l e R s m args below meth c n g X h0 cells slots Q (pc + 3) lv (st) h) : G p l e R s m args below meth c n g X h0 cells slots Q (pc) lv (.int y :: .int x :: st) h := fun H locs ls hW hS hl => lv_icmp_le C.1 C.2.1 d ht (fun q => kt q (by rw [if_pos q] at hf; exact hf) H locs ls hW hS hl) (fun q => kf q (by first | (rw [if_neg q] at hf; exact hf) | (rw [if_neg (fun z => z q)] at hf; exact hf)) H locs ls hW hS hl)
theorem G.goto (C : Cx p s m args meth c b n own ret g) {off : Int} {tgt : Nat} (d : decode b pc = .ok (.goto off, 3)) (ht : (pc : Int) + off = (tgt : Int)) (kk : G p l e R s m args below meth c n g X h0 cells slots Q (tgt) lv (st) h) : G p l e R s m args below meth c n g X h0 cells slots Q (pc) lv (st) h := fun H locs ls hW hS hl => lv_goto C.1 C.2.1 d ht (kk H locs ls hW hS hl)
theorem G.ifnull (C : Cx p s m args meth c b n own ret g) {x : Option Nat} {off : Int} {tgt : Nat} (d : decode b pc = .ok (.ifnull off, 3)) (ht : (pc : Int) + off = (tgt : Int)) (kt : x = none → G p l e R s m args below meth c n g X h0 cells slots Q (tgt) lv (st) h) (kf : ∀ a, x = some a → G p l e R s m args below meth c n g X h0 cells slots Q (pc + 3) lv (st) h) : G p l e R s m args below meth c n g X h0 cells slots Q (pc) lv (va_rf x :: st) h := by
  intro H locs ls hW hS hl
  cases x with
  | none => exact lv_ifnullN C.1 C.2.1 d ht (kt rfl H locs ls hW hS hl)
  | some a => exact lv_ifnull C.1 C.2.1 d (kf a rfl H locs ls hW hS hl)
theorem G.ifnonnull (C : Cx p s m args meth c b n own ret g) {x : Option Nat} {off : Int} {tgt : Nat} (d : decode b pc = .ok (.ifnonnull off, 3)) (ht : (pc : Int) + off = (tgt : Int)) (kt : ∀ a, x = some a → G p l e R s m args below meth c n g X h0 cells slots Q (tgt) lv (st) h) (kf : x = none → G p l e R s m args below meth c n g X h0 cells slots Q (pc + 3) lv (st) h) : G p l e R s m args below meth c n g X h0 cells slots Q (pc) lv (va_rf x :: st) h := by
  intro H locs ls hW hS hl
  cases x with
  | none => exact lv_ifnonnullN C.1 C.2.1 d (kf rfl H locs ls hW hS hl)
  | some a => exact lv_ifnonnull C.1 C.2.1 d ht (kt a rfl H locs ls hW hS hl)
theorem G.tswIn (C : Cx p s m args meth c b n own ret g) {dflt lo hi : Int} {offs : Array Int} {len : Nat} {x k : Int32} {off : Int} {tgt : Nat} (hx : x = k) (d : decode b pc = .ok (.tableswitch dflt lo hi offs, len)) (h1 : ¬ k.toInt < lo) (h2 : ¬ hi < k.toInt) (ho : offs[(k.toInt - lo).toNat]? = some off) (ht : (pc : Int) + off = (tgt : Int)) (kk : G p l e R s m args below meth c n g X h0 cells slots Q (tgt) lv (st) h) : G p l e R s m args below meth c n g X h0 cells slots Q (pc) lv (.int x :: st) h := by
  subst hx
  exact fun H locs ls hW hS hl => lv_tableIn C.1 C.2.1 d h1 h2 ho ht (kk H locs ls hW hS hl)
theorem G.tswOut (C : Cx p s m args meth c b n own ret g) {dflt lo hi : Int} {offs : Array Int} {len : Nat} {x : Int32} {tgt : Nat} (d : decode b pc = .ok (.tableswitch dflt lo hi offs, len)) (h1 : x.toInt < lo ∨ hi < x.toInt) (ht : (pc : Int) + dflt = (tgt : Int)) (kk : G p l e R s m args below meth c n g X h0 cells slots Q (tgt) lv (st) h) : G p l e R s m args below meth c n g X h0 cells slots Q (pc) lv (.int x :: st) h := fun H locs ls hW hS hl => lv_tableOut C.1 C.2.1 d h1 ht (kk H locs ls hW hS hl)
theorem G.lsw (C : Cx p s m args meth c b n own ret g) {dflt : Int} {ps : Array (Int × Int)} {len : Nat} {x : Int32} {off : Int} {tgt : Nat} (d : decode b pc = .ok (.lookupswitch dflt ps, len)) (hp : (ps.toList.zip (ps.toList.drop 1)).all (fun (a, next) => a.1 < next.1) = true) (ho : Op.lookupswitch.offset ps.toList dflt x.toInt = off) (ht : (pc : Int) + off = (tgt : Int)) (kk : G p l e R s m args below meth c n g X h0 cells slots Q (tgt) lv (st) h) : G p l e R s m args below meth c n g X h0 cells slots Q (pc) lv (.int x :: st) h := fun H locs ls hW hS hl => lv_lookup C.1 C.2.1 d hp ho ht (kk H locs ls hW hS hl)
theorem G.sub (C : Cx p s m args meth c b n own ret g) (ks : List Nat) {lv' : List (Nat × Value)} (hl1 : lv_pick lv ks = lv') (kk : G p l e R s m args below meth c n g X h0 cells slots Q (pc) lv' (st) h) : G p l e R s m args below meth c n g X h0 cells slots Q (pc) lv (st) h := fun H locs ls hW hS hl => kk H locs ls hW hS (lv_sub hl ks hl1)
theorem G.getI (C : Cx p s m args meth c b n own ret g) {ci k idx : Nat} {CN : String} {T : u_T} {N : Nat} (hc : vwCl[ci]? = some (CN, T, N)) (hin : ∀ w ∈ u_ws CN T N, w ∈ wsL_law) (hk : k < N) (hw : Cond.fieldLink own idx CN (T k).2.1 (T k).2.2.1 ∈ wsL_law) (hdc : (T k).1 = CN) {a : Nat} {α : Type} {f : Int32 → Option α} {r9 : α} (hf : (rdI h a ci k).bind f = some r9) (d : decode b pc = .ok (.getfield idx, 3)) (kk : ∀ v, rdI h a ci k = some v → f v = some r9 → G p l e R s m args below meth c n g X h0 cells slots Q (pc + 3) lv (.int v :: st) h) : G p l e R s m args below meth c n g X h0 cells slots Q (pc) lv (.ref a :: st) h := by
  intro H locs ls hW hS hl
  obtain ⟨v, hv, hf⟩ := bind_some hf
  obtain ⟨fs, he, hfs⟩ := rdI_at hv
  obtain ⟨ws, q0, hP, hD, hq, -⟩ := hW.at he
  exact va_get C.1 C.2.1 C.2.2.2.2.2.1 hin C.2.2.2.2.1 C.2.2.2.2.2.2.2 hP q0 hq hc k hk (C.2.2.2.2.2.1 _ hw) (fun _ h9 => by rw [hdc] at h9; exact h9) hfs d (kk v hv hf H locs ls hW hS hl)
theorem G.getJ (C : Cx p s m args meth c b n own ret g) {ci k idx : Nat} {CN : String} {T : u_T} {N : Nat} (hc : vwCl[ci]? = some (CN, T, N)) (hin : ∀ w ∈ u_ws CN T N, w ∈ wsL_law) (hk : k < N) (hw : Cond.fieldLink own idx CN (T k).2.1 (T k).2.2.1 ∈ wsL_law) (hdc : (T k).1 = CN) {a : Nat} {α : Type} {f : Int64 → Option α} {r9 : α} (hf : (rdJ h a ci k).bind f = some r9) (d : decode b pc = .ok (.getfield idx, 3)) (kk : ∀ v, rdJ h a ci k = some v → f v = some r9 → G p l e R s m args below meth c n g X h0 cells slots Q (pc + 3) lv (.long v :: st) h) : G p l e R s m args below meth c n g X h0 cells slots Q (pc) lv (.ref a :: st) h := by
  intro H locs ls hW hS hl
  obtain ⟨v, hv, hf⟩ := bind_some hf
  obtain ⟨fs, he, hfs⟩ := rdJ_at hv
  obtain ⟨ws, q0, hP, hD, hq, -⟩ := hW.at he
  exact va_get C.1 C.2.1 C.2.2.2.2.2.1 hin C.2.2.2.2.1 C.2.2.2.2.2.2.2 hP q0 hq hc k hk (C.2.2.2.2.2.1 _ hw) (fun _ h9 => by rw [hdc] at h9; exact h9) hfs d (kk v hv hf H locs ls hW hS hl)
theorem G.getR (C : Cx p s m args meth c b n own ret g) {ci k idx : Nat} {CN : String} {T : u_T} {N : Nat} (hc : vwCl[ci]? = some (CN, T, N)) (hin : ∀ w ∈ u_ws CN T N, w ∈ wsL_law) (hk : k < N) (hw : Cond.fieldLink own idx CN (T k).2.1 (T k).2.2.1 ∈ wsL_law) (hdc : (T k).1 = CN) {a : Nat} {α : Type} {f : Nat → Option α} {r9 : α} (hf : (rdR h a ci k).bind f = some r9) (d : decode b pc = .ok (.getfield idx, 3)) (kk : ∀ v, rdR h a ci k = some v → f v = some r9 → G p l e R s m args below meth c n g X h0 cells slots Q (pc + 3) lv (.ref v :: st) h) : G p l e R s m args below meth c n g X h0 cells slots Q (pc) lv (.ref a :: st) h := by
  intro H locs ls hW hS hl
  obtain ⟨v, hv, hf⟩ := bind_some hf
  obtain ⟨fs, he, hfs⟩ := rdR_at hv
  obtain ⟨ws, q0, hP, hD, hq, -⟩ := hW.at he
  exact va_get C.1 C.2.1 C.2.2.2.2.2.1 hin C.2.2.2.2.1 C.2.2.2.2.2.2.2 hP q0 hq hc k hk (C.2.2.2.2.2.1 _ hw) (fun _ h9 => by rw [hdc] at h9; exact h9) hfs d (kk v hv hf H locs ls hW hS hl)
theorem G.put (C : Cx p s m args meth c b n own ret g) {ci k idx : Nat} {CN : String} {T : u_T} {N : Nat} (hc : vwCl[ci]? = some (CN, T, N)) (hin : ∀ w ∈ u_ws CN T N, w ∈ wsL_law) (hk : k < N) (hw : Cond.fieldLink own idx CN (T k).2.1 (T k).2.2.1 ∈ wsL_law) (hdc : (T k).1 = CN) (ty0 : Nat → FieldType) (hty : ∀ k, k < N → parseFieldDescriptor (T k).2.2.1 = some (ty0 k)) (hnm : ∀ a, a < N → ∀ b, b < N → a ≠ b → (T a).2.1 ≠ (T b).2.1) (hfin : (T k).2.2.2 = false) {v : Value} (hn : narrow (ty0 k) v = v) (hfit : fits (ty0 k) v = true) {a : Nat} {α : Type} {f : PH → Option α} {r9 : α} (hf : (wrF h a ci k v).bind f = some r9) (d : decode b pc = .ok (.putfield idx, 3)) (kk : ∀ h1, wrF h a ci k v = some h1 → f h1 = some r9 → G p l e R s m args below meth c n g X h0 cells slots Q (pc + 3) lv (st) h1) : G p l e R s m args below meth c n g X h0 cells slots Q (pc) lv (v :: .ref a :: st) h := by
  intro H locs ls hW hS hl
  obtain ⟨h1, hv, hf⟩ := bind_some hf
  obtain ⟨fs, he, hlen, e1⟩ := wrF_at hv
  obtain ⟨ws, q0, hP, hD, hq, hset, -⟩ := hW.at he
  refine va_put C.1 C.2.1 C.2.2.2.2.2.1 hin ty0 hty hnm C.2.2.2.2.1 C.2.2.2.2.2.2.2 hP hD hS q0 hq hc k hk (C.2.2.2.2.2.1 _ hw) (fun _ h9 => by rw [hdc] at h9; exact h9) hfin (hty k hk) hn hfit hlen d (fun H1 locs1 p1 d1 s1 => ?_)
  refine kk h1 hv hf H1 locs1 ls ?_ s1 hl
  rw [e1]
  exact hset (.inr (.inr (ci, fs.set k v))) H1 p1 d1
theorem G.iald (C : Cx p s m args meth c b n own ret g) {a : Nat} {i : Int32} {α : Type} {f : Int32 → Option α} {r9 : α} (hf : (ldI h a i).bind f = some r9) (d : decode b pc = .ok (.iaload, 1)) (kk : ∀ v, ldI h a i = some v → f v = some r9 → G p l e R s m args below meth c n g X h0 cells slots Q (pc + 1) lv (.int v :: st) h) : G p l e R s m args below meth c n g X h0 cells slots Q (pc) lv (.int i :: .ref a :: st) h := by
  intro H locs ls hW hS hl
  obtain ⟨v, hv, hf⟩ := bind_some hf
  obtain ⟨n9, f9, he, hin, rfl⟩ := ldI_at hv
  obtain ⟨ws, q0, hP, hD, hq, -⟩ := hW.at he
  exact va_iald C.1 C.2.1 C.2.2.2.2.2.2.2 hP q0 0 hq rfl hin d (kk _ hv hf H locs ls hW hS hl)
theorem G.iast (C : Cx p s m args meth c b n own ret g) {a : Nat} {i x : Int32} {α : Type} {f : PH → Option α} {r9 : α} (hf : (stI h a i x).bind f = some r9) (d : decode b pc = .ok (.iastore, 1)) (kk : ∀ h1, stI h a i x = some h1 → f h1 = some r9 → G p l e R s m args below meth c n g X h0 cells slots Q (pc + 1) lv (st) h1) : G p l e R s m args below meth c n g X h0 cells slots Q (pc) lv (.int x :: .int i :: .ref a :: st) h := by
  intro H locs ls hW hS hl
  obtain ⟨h1, hv, hf⟩ := bind_some hf
  obtain ⟨n9, f9, he, hin, e1⟩ := stI_at hv
  obtain ⟨ws, q0, hP, hD, hq, hset, -⟩ := hW.at he
  refine va_iast C.1 C.2.1 C.2.2.2.2.2.2.2 hP hD hS q0 0 hq rfl hin d (fun H1 locs1 p1 d1 s1 => ?_)
  refine kk h1 hv hf H1 locs1 ls ?_ s1 hl
  rw [e1]
  exact hset (.inl (n9, upd f9 i.toNatClampNeg x)) H1 p1 d1
theorem G.aald (C : Cx p s m args meth c b n own ret g) {a : Nat} {i : Int32} {α : Type} {f : Option Nat → Option α} {r9 : α} (hf : (ldQ h a i).bind f = some r9) (d : decode b pc = .ok (.aaload, 1)) (kk : ∀ v, ldQ h a i = some v → f v = some r9 → G p l e R s m args below meth c n g X h0 cells slots Q (pc + 1) lv (va_rf v :: st) h) : G p l e R s m args below meth c n g X h0 cells slots Q (pc) lv (.int i :: .ref a :: st) h := by
  intro H locs ls hW hS hl
  obtain ⟨v, hv, hf⟩ := bind_some hf
  obtain ⟨k9, n9, f9, he, hin, rfl⟩ := ldQ_at hv
  obtain ⟨ws, q0, hP, hD, hq, -⟩ := hW.at he
  by_cases h9 : k9 = 0
  · subst h9
    exact va_aldq C.1 C.2.1 C.2.2.2.2.2.2.2 hP q0 1 hq rfl hin d (kk _ hv hf H locs ls hW hS hl)
  · rw [show wcv g (.inr (.inl (k9, n9, f9))) = .inl (g.2.2.2.1, n9, .inr (.inr (.inr (.inr f9)))) by simp [wcv, h9]] at hq
    exact va_aldq C.1 C.2.1 C.2.2.2.2.2.2.2 hP q0 2 hq rfl hin d (kk _ hv hf H locs ls hW hS hl)
theorem G.aast (C : Cx p s m args meth c b n own ret g) {a v : Nat} {i : Int32} {α : Type} {f : PH → Option α} {r9 : α} (hf : (stQ h a i v).bind f = some r9) (d : decode b pc = .ok (.aastore, 1)) (kk : ∀ h1, stQ h a i v = some h1 → f h1 = some r9 → G p l e R s m args below meth c n g X h0 cells slots Q (pc + 1) lv (st) h1) : G p l e R s m args below meth c n g X h0 cells slots Q (pc) lv (.ref v :: .int i :: .ref a :: st) h := by
  intro H locs ls hW hS hl
  obtain ⟨h1, hv, hf⟩ := bind_some hf
  obtain ⟨k9, n9, f9, he, hin, hcl, e1⟩ := stQ_at hv
  obtain ⟨ws, q0, hP, hD, hq, hset, hoth⟩ := hW.at he
  rcases hcl with ⟨rfl, fs, hfs⟩ | ⟨rfl, fs, hfs⟩
  · obtain ⟨q2, hq2⟩ := hoth _ _ hfs
    refine va_astq C.1 C.2.1 C.2.2.2.2.2.2.2 hP hD hS q0 1 q2 1 (r := (RX2, TX2, 4)) hq rfl hq2 rfl hin d (fun H1 locs1 p1 d1 s1 => ?_)
    refine kk h1 hv hf H1 locs1 ls ?_ s1 hl
    rw [e1]
    exact hset (.inr (.inl (0, n9, va_up f9 i.toNatClampNeg (some v)))) H1 p1 d1
  · obtain ⟨q2, hq2⟩ := hoth _ _ hfs
    refine va_astq C.1 C.2.1 C.2.2.2.2.2.2.2 hP hD hS q0 2 q2 2 (r := (RX3, TX3, 6)) hq rfl hq2 rfl hin d (fun H1 locs1 p1 d1 s1 => ?_)
    refine kk h1 hv hf H1 locs1 ls ?_ s1 hl
    rw [e1]
    exact hset (.inr (.inl (1, n9, va_up f9 i.toNatClampNeg (some v)))) H1 p1 d1
theorem G.alen (C : Cx p s m args meth c b n own ret g) {a : Nat} {α : Type} {f : Int32 → Option α} {r9 : α} (hf : (lnA h a).bind f = some r9) (d : decode b pc = .ok (.arraylength, 1)) (kk : ∀ v, lnA h a = some v → f v = some r9 → G p l e R s m args below meth c n g X h0 cells slots Q (pc + 1) lv (.int v :: st) h) : G p l e R s m args below meth c n g X h0 cells slots Q (pc) lv (.ref a :: st) h := by
  intro H locs ls hW hS hl
  obtain ⟨v, hv, hf⟩ := bind_some hf
  have hv9 := hv
  unfold lnA at hv9
  split at hv9
  · rename_i n9 f9 he
    cases hv9
    obtain ⟨ws, q0, hP, hD, hq, -⟩ := hW.at he
    exact va_alen C.1 C.2.1 C.2.2.2.2.2.2.2 hP q0 0 hq rfl rfl d (kk _ hv hf H locs ls hW hS hl)
  · rename_i k9 n9 f9 he
    cases hv9
    obtain ⟨ws, q0, hP, hD, hq, -⟩ := hW.at he
    by_cases h9 : k9 = 0
    · subst h9
      exact va_alen C.1 C.2.1 C.2.2.2.2.2.2.2 hP q0 1 hq rfl rfl d (kk _ hv hf H locs ls hW hS hl)
    · rw [show wcv g (.inr (.inl (k9, n9, f9))) = .inl (g.2.2.2.1, n9, .inr (.inr (.inr (.inr f9)))) by simp [wcv, h9]] at hq
      exact va_alen C.1 C.2.1 C.2.2.2.2.2.2.2 hP q0 2 hq rfl rfl d (kk _ hv hf H locs ls hW hS hl)
  · cases hv9
end GR
