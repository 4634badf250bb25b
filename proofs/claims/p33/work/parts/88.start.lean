theorem m9_0 : Cond.classLink RL 10 RX5 ∈ wsL_law := wc_1 _ (List.mem_of_getElem? (i := 0) rfl)
theorem m9_1 : Cond.instantiable RX5 6 ∈ wsL_law := wc_1 _ (List.mem_of_getElem? (i := 1) rfl)
theorem m9_3 : Cond.methodLink RL 109 yX5_init ∈ wsL_law := wc_1 _ (List.mem_of_getElem? (i := 3) rfl)
theorem m9_4 : Cond.instanceMethod yX5_init ∈ wsL_law := wc_1 _ (List.mem_of_getElem? (i := 4) rfl)
theorem m9_5 : Cond.code yX5_init cX5_init 1 none ∈ wsL_law := wc_1 _ (List.mem_of_getElem? (i := 5) rfl)
/-! THE CLAIM OUT OF ONE WALK OF THE LAW'S BODY. Your part is whole_start (and what it stands on); all else here is the same for every law, but numbers. -/
def R_law : String := "PennantRopesLaw"
def lw_P (b : Addr) (xs : List Int32) (args : Array Value) (s : State) : Prop := args = #[.ref b] ∧ s.IntsAt b xs ∧ xs.length ≤ 260 ∧ (Jvm.Cond.and given_1 narrow_1).before args s = true
/-- what a walk over the start with the record d0 says of its end, said of the start itself -/
theorem lw_closed {s t : State} {o : Outcome} {d0 : Drawn} {L : List Loc} {k n : Nat} (hd0 : s.drawn.sameBut d0 lw_cs) (hv : ∃ v, o = .returned v) (hW : (s.setDrawn d0).WarmedH t.vm) (hs : (s.setDrawn d0).sameButNew ({ t with vm := s.vm } : State) L k n) : State.butDraws s t lw_cs (fun t1 => Framed s o t1 L k n) := by
  have h2 : t.drawn = d0 := congrArg State.drawn hs.1
  refine ⟨⟨hv, hW, State.sameButNew.setDrawn hs s.drawn⟩, ?_, by decide⟩
  rw [h2]
  exact hd0
def lw_Q (_ : Array Value) (s : State) (o : Outcome) (t : State) : Prop := o = .returned (some (.int 1)) ∧ State.butDraws s t lw_cs (fun t1 => Framed s o t1 [] 600104 7301314)
def lw_Z (below : List Frame) (a : Array Value) (s : State) : State → Prop := fun t => ∃ o, t.status = .running ∧ Ended t below o ∧ lw_Q a s o t
/-- the law's own end, with 1 on the stack, nothing written that was there before, its room as the claim has it; d0: the record of draws at this point (at the entry s.drawn: begin with 'refine W.base ?_' and 'have hd0 := Drawn.sameBut.refl s.drawn lw_cs') -/
theorem lw_ret {p : Program} {l : Launch} {e : Env} {s : State} {m : MethodId} {below : List Frame} {meth : Method} {c : Code} {b : Nat} {d0 : Drawn} (hd0 : s.drawn.sameBut d0 lw_cs) (hx : p.tables.exec = Jvm.exec) (hb : c.code = code) (hr : meth.sig.returnType = ret) (hlocks : meth.locks = false) {pc : Nat} {H : Heap} {ls : Array Slot} (hdg : decode code pc = .ok (.ireturn, 1)) : W p l e room_1 (s.setDrawn d0) m #[Value.ref b] below meth c H [] 600104 7301314 (lw_Z below #[Value.ref b] s) (F0 m pc ls [.int 1]) := by
  intro T hT X
  obtain ⟨fs, hret, hrun, hended, hW, hframe⟩ := X.leave (v := some (.int 1)) (hlocks := hlocks) (fun h => by rw [hr] at h; cases h)
  have hmeth' : T.vm.method? m = some meth := X.method'
  refine ⟨T.setFrames fs, ?_, .returned (some (.int 1)), hrun, hended, rfl, lw_closed hd0 ⟨_, rfl⟩ hW hframe⟩
  jvm_step X.here [X.here.top, hx, hb, hdg, hmeth', hr, ret, narrow_b1]
  (try refine ⟨rfl, ?_⟩); (try refine ⟨rfl, ?_⟩)
  first | (intro acts; rw [hret _ acts rfl rfl rfl]) | rw [hret _ _ rfl rfl rfl]
  exact Steps.refl _
/-- what holds at the law's entry: the machine, the code, the tables' words (any of lw_tbl by 'hts w (by decide +kernel)'), the script of L ints xs at the cell b, what the Statement gives of the start (any of its parts by flat_of_before) -/
def lw_At (p : Program) (s : State) (m : MethodId) (meth : Method) (c : Code) (b L : Nat) (xs : Nat → Int32) : Prop :=
  p.tables.exec = Jvm.exec ∧ c.code = code ∧ meth.sig.returnType = ret ∧ c.maxLocals = 8 ∧ s.vm.findClass R_law = some m.cls ∧ (∀ w ∈ lw_tbl, w.before #[Value.ref b] s = true) ∧ va_X b L xs s s.heap ∧ b < s.heap.size ∧ meth.locks = false ∧ (Jvm.Cond.and given_1 narrow_1).before #[Value.ref b] s = true

/-- what the launch and the tables give at the law's entry, for throws -/
theorem st_arr {s : State} {args : Array Value} {ty : FieldType} (hno : ∀ C, ty ≠ .object C) (h : (Cond.arrayClass ty).before args s = true) : ∃ cA, ArrOfT s cA ty ∧ va_RA s cA ty := by
  obtain ⟨cA, k, comp, h1, h2, h3⟩ := Cond.arrayClass_spec h
  refine ⟨cA, fun n z => ⟨fun k h => (by cases h), k, h2, comp, h3⟩, ?_⟩
  cases ty with
  | object C => exact absurd rfl (hno C)
  | _ => exact h1
theorem st_arrO {s : State} {args : Array Value} {C : String} (h : (Cond.arrayOver (.object C)).before args s = true) : ∃ cA, ArrOfT s cA (.object C) ∧ va_RA s cA (.object C) := by
  obtain ⟨comp, cA, k, h1, -, h3, h4, h5⟩ := Cond.arrayOver_spec h
  exact ⟨cA, fun n z => ⟨fun k h => (by cases h), k, h3, comp, h4⟩, k, comp, h3, h4, h1, h5⟩
theorem st_str {s : State} {args : Array Value} {own : String} {k : Nat} {tx : String} {cur : ClassId} (hcur : s.vm.findClass own = some cur) (h : (Cond.stringRef own k tx).before args s = true) : ∃ sa, vk_R own k tx sa s := by
  obtain ⟨_, _, _, a, -, -, -, -, -, he⟩ := Cond.stringRef_spec hcur h
  exact ⟨a, vk_R.of h he⟩
theorem st_strs {s : State} {args : Array Value} {cur : ClassId} (hcur : s.vm.findClass "PennantRopes" = some cur) (hts : ∀ w ∈ lw_tbl, w.before args s = true) : ∀ q ∈ strs, ∃ sa, vk_R q.1 q.2.1 q.2.2 sa s := by
  intro q hq
  simp only [strs, List.mem_cons, List.not_mem_nil, or_false] at hq
  rcases hq with rfl | rfl | rfl | rfl | rfl | rfl | rfl | rfl | rfl | rfl | rfl | rfl | rfl | rfl | rfl | rfl
  · exact st_str hcur (hts _ (List.mem_of_getElem? (i := 503) (by decide +kernel)))
  · exact st_str hcur (hts _ (List.mem_of_getElem? (i := 505) (by decide +kernel)))
  · exact st_str hcur (hts _ (List.mem_of_getElem? (i := 475) (by decide +kernel)))
  · exact st_str hcur (hts _ (List.mem_of_getElem? (i := 494) (by decide +kernel)))
  · exact st_str hcur (hts _ (List.mem_of_getElem? (i := 532) (by decide +kernel)))
  · exact st_str hcur (hts _ (List.mem_of_getElem? (i := 547) (by decide +kernel)))
  · exact st_str hcur (hts _ (List.mem_of_getElem? (i := 577) (by decide +kernel)))
  · exact st_str hcur (hts _ (List.mem_of_getElem? (i := 190) (by decide +kernel)))
  · exact st_str hcur (hts _ (List.mem_of_getElem? (i := 250) (by decide +kernel)))
  · exact st_str hcur (hts _ (List.mem_of_getElem? (i := 593) (by decide +kernel)))
  · exact st_str hcur (hts _ (List.mem_of_getElem? (i := 388) (by decide +kernel)))
  · exact st_str hcur (hts _ (List.mem_of_getElem? (i := 439) (by decide +kernel)))
  · exact st_str hcur (hts _ (List.mem_of_getElem? (i := 451) (by decide +kernel)))
  · exact st_str hcur (hts _ (List.mem_of_getElem? (i := 350) (by decide +kernel)))
  · exact st_str hcur (hts _ (List.mem_of_getElem? (i := 276) (by decide +kernel)))
  · exact st_str hcur (hts _ (List.mem_of_getElem? (i := 355) (by decide +kernel)))
theorem st_cast {s : State} {args : Array Value} (hts : ∀ w ∈ lw_tbl, w.before args s = true) : ∀ E ∈ exns, va_Nw (.castable E E) s := by
  intro E hE
  simp only [exns, List.mem_cons, List.not_mem_nil, or_false] at hE
  rcases hE with rfl | rfl | rfl
  · exact va_Nw.of rfl (hts _ (List.mem_of_getElem? (i := 269) (by decide +kernel)))
  · exact va_Nw.of rfl (hts _ (List.mem_of_getElem? (i := 151) (by decide +kernel)))
  · exact va_Nw.of rfl (hts _ (List.mem_of_getElem? (i := 381) (by decide +kernel)))
theorem st_decl {s : State} {args : Array Value} (hts : ∀ w ∈ lw_tbl, w.before args s = true) : ∀ Y ∈ sup10, va_Nw (.declares (Bundle.initS Y)) s := by
  intro E hE
  simp only [sup10, List.mem_cons, List.not_mem_nil, or_false] at hE
  rcases hE with rfl | rfl | rfl
  · exact va_Nw.of rfl (hts _ (List.mem_of_getElem? (i := 153) (by decide +kernel)))
  · exact va_Nw.of rfl (hts _ (List.mem_of_getElem? (i := 155) (by decide +kernel)))
  · exact va_Nw.of rfl (hts _ (List.mem_of_getElem? (i := 157) (by decide +kernel)))
theorem st_tx {l : Launch} (hflags : l.flags = flags0) {s : State} {args : Array Value} {cur : ClassId} (hcur : s.vm.findClass "PennantRopes" = some cur) (hts : ∀ w ∈ lw_tbl, w.before args s = true) (hg : ∀ c ∈ flatC (Jvm.Cond.and given_1 narrow_1), c.before args s = true) {A : Nat → Prop} (hA : ∀ a : Nat, a < s.heap.size → ¬ A a) : TX l A s s.heap :=
  ⟨by unfold Launch.stackTraces; rw [hflags]; decide +kernel, vx_Zqof (hts _ (List.mem_of_getElem? (i := 176) (by decide +kernel))) (hts _ (List.mem_of_getElem? (i := 29) (by decide +kernel))) (hg _ (List.mem_of_getElem? (i := 4) (by decide +kernel))) hA, vx_Zqof (hts _ (List.mem_of_getElem? (i := 178) (by decide +kernel))) (hts _ (List.mem_of_getElem? (i := 29) (by decide +kernel))) (hg _ (List.mem_of_getElem? (i := 5) (by decide +kernel))) hA, st_strs hcur hts, st_cast hts, st_decl hts⟩
theorem GZ.astore_n {p : Program} {l : Launch} {e : Env} {R : Room} {s : State} {m : MethodId} {args : Array Value} {below : List Frame} {meth : Method} {c : Code} {n : Nat} {g : GC} {X : va_W} {h0 h : PH} {zm sm z sl : Nat} {Q : State → Prop} {pc : Nat} {lv : List (Nat × Value)} {st : List Value} {b : ByteArray} {own : String} {ret : Option FieldType} (C : Cx p s m args meth c b n own ret g) {i9 : Fin 4} {i : Nat} {x : Nat} {lv' : List (Nat × Value)} (d : decode b pc = .ok (.astore_n i9, 1)) (hi : (i9 : Nat) = i) (hn : i < n) (hl1 : (i, Value.ref x) :: lv.filter (fun q => !(q.1 == i) && !(q.1 + 1 == i && q.2.category == 2)) = lv') (kk : GZ p l e R s m args below meth c n g X h0 zm sm Q (z) (sl) (pc + 1) lv' (st) h) : GZ p l e R s m args below meth c n g X h0 zm sm Q (z) (sl) (pc) lv (.ref x :: st) h := fun H locs ls hz hW hS hl => lv_astore_n C.1 C.2.1 d hi hl hn hl1 (fun ls' hl' => kk H locs ls' hz hW hS hl')
/-- what is left to pure reading: the constructor's end, and the law -/
def PureClaim (xs : Nat → Int32) (L : Nat) : Prop := ∀ z : Nat, ∃ h2 : PH, f_X5_init (pu (fun _ => none) z (.inr (.inr (4, [.null, .null, .null, .null, .null, .int 0])))) (z + 1) (z + 1 + 127) 2590 z = some (h2, z + 1 + 127) ∧ f_L_law xs L h2 z = some 1
set_option maxRecDepth 100000 in
set_option maxHeartbeats 8000000 in
theorem start_of_pure {p : Program} {e : Env} {s : State} {m : MethodId} {below : List Frame} {meth : Method} {c : Code} (l : Launch) (hflags : l.flags = flags0) {b L : Nat} {xs : Nat → Int32} (hPure : PureClaim xs L) (C0 : lw_At p s m meth c b L xs) : W p l e room_1 s m #[Value.ref b] below meth c s.heap [] 0 0 (lw_Z below #[Value.ref b] s) (entryFrame m ([Value.ref b] : List Value).toArray 8) := by
  obtain ⟨hx, hb, hr, hml, hown, hts, hX, hbl, hlocks, hgv⟩ := id C0
  have hg := flat_of_before _ hgv
  have hlaw : ∀ w ∈ wsL_law, w.before #[Value.ref b] s = true := fun w hw => hts w (wsL_law_in w hw)
  obtain ⟨k0, iS0, hKn0⟩ := u_known (C := RX0) (T := TX0) (N := 2) (n := 2) hlaw inlX0 (hts _ (List.mem_of_getElem? (i := 92) (by decide +kernel)))
  obtain ⟨k1, iS1, hKn1⟩ := u_known (C := RX2) (T := TX2) (N := 4) (n := 4) hlaw inlX2 (hts _ (List.mem_of_getElem? (i := 53) (by decide +kernel)))
  obtain ⟨k2, iS2, hKn2⟩ := u_known (C := RX3) (T := TX3) (N := 6) (n := 6) hlaw inlX3 (hts _ (List.mem_of_getElem? (i := 46) (by decide +kernel)))
  obtain ⟨k3, iS3, hKn3⟩ := u_known (C := RX4) (T := TX4) (N := 2) (n := 2) hlaw inlX4 (hts _ (List.mem_of_getElem? (i := 108) (by decide +kernel)))
  obtain ⟨k4, iS4, hKn4⟩ := u_known (C := RX5) (T := TX5) (N := 6) (n := 6) hlaw inlX5 (hts _ (List.mem_of_getElem? (i := 38) (by decide +kernel)))
  obtain ⟨dC, dI, hKc⟩ : ∃ (dC : Nat → ClassId) (dI : Nat → Nat → Nat), ∀ (k : Nat) (q : vw_C), vwCl[k]? = some q → u_Kn s q.1 q.2.1 q.2.2 (dC k) (dI k) := by
    refine ⟨fun k => if k = 0 then k0 else if k = 1 then k1 else if k = 2 then k2 else if k = 3 then k3 else k4, fun k => if k = 0 then iS0 else if k = 1 then iS1 else if k = 2 then iS2 else if k = 3 then iS3 else iS4, ?_⟩
    intro k q hq
    match k, hq with
    | 0, hq => cases hq; exact hKn0
    | 1, hq => cases hq; exact hKn1
    | 2, hq => cases hq; exact hKn2
    | 3, hq => cases hq; exact hKn3
    | 4, hq => cases hq; exact hKn4
    | k + 5, hq => simp [vwCl] at hq
  obtain ⟨cI, hI1, hI2⟩ := st_arr (ty := .int) (by intro C h; cases h) (hts _ (List.mem_of_getElem? (i := 71) (by decide +kernel)))
  obtain ⟨cR, hR1, hR2⟩ := st_arrO (C := "PennantRopes$Rope") (hts _ (List.mem_of_getElem? (i := 52) (by decide +kernel)))
  obtain ⟨cS9, hS1, hS2⟩ := st_arrO (C := "PennantRopes$State") (hts _ (List.mem_of_getElem? (i := 98) (by decide +kernel)))
  have ao0 : va_AO "PennantRopes$Rope" s := va_AO.of (hts _ (List.mem_of_getElem? (i := 52) (by decide +kernel)))
  have ao1 : va_AO "PennantRopes$State" s := va_AO.of (hts _ (List.mem_of_getElem? (i := 98) (by decide +kernel)))
  obtain ⟨g, hgd⟩ : ∃ g : GC, g = ((dC, dI), cI, cR, cS9, cS9) := ⟨_, rfl⟩
  have hK : va_K g.1 vwCl (wty g) s := by
    rw [hgd]
    refine ⟨hKc, fun k q hq => ?_⟩
    match k, hq with
    | 0, hq => cases hq; exact ⟨hI1, hI2⟩
    | 1, hq => cases hq; exact ⟨hR1, hR2⟩
    | 2, hq => cases hq; exact ⟨hS1, hS2⟩
    | k + 3, hq => simp [wty] at hq
  have C : Cx p s m #[Value.ref b] meth c cL_law 8 RL ret g := ⟨hx, hb, hml, hr, hown, hlaw, hlocks, hK⟩
  obtain ⟨h2, hi5, hlp⟩ := hPure s.heap.size
  have hnb : b < s.heap.size := hbl
  have TT : TX l (AF [] (fun _ => none) s.heap.size) s s.heap := st_tx hflags hKn4.2.1 hts hg (fun a ha hA => by
    rcases hA with ⟨e9, hq⟩ | ⟨e9, hq⟩ | hq
    · cases hq
    · cases hq
    · omega)
  have hbo : ¬ AF [] (fun _ => none) s.heap.size b := by
    rintro (⟨e9, hq⟩ | ⟨e9, hq⟩ | hq)
    · cases hq
    · cases hq
    · omega
  have hl := lv_entry [Value.ref b] (n := 8) (Nat.le_of_ble_eq_true rfl)
  have hcl : room_1.cells = s.heap.size + 600104 - s.heap.size := by show 600104 = _; omega
  have hsl : room_1.slots = 7301314 := rfl
  rw [lg_entry_eq]
  suffices hz : GZ p l e room_1 s m #[Value.ref b] below meth c 8 g [] (fun _ => none) (s.heap.size + 600104) 7301314 (lw_Z below #[Value.ref b] s) s.heap.size 0 0 (lv_args 0 [Value.ref b]) [] (fun _ => none) by
    refine W.cs (by omega) rfl (hz s.heap [] _ rfl ⟨[], fun _ => .inl (0, fun _ => 0), fun a => rfl, fun k q h => by simp [va_pl] at h, ⟨fun i j p9 q9 h => by simp [va_pl] at h, fun k q h => by simp [va_pl] at h⟩⟩ va_S.rf hl)
  refine GZ.sub C [0] (lv' := [(0, .ref b)]) rfl ?_
  refine GZ.newO (ci := 4) C ⟨hcl, hsl⟩ rfl inlX5 tyX5 tyX5_ok m9_0 m9_1 m9_2 [.null, .null, .null, .null, .null, .int 0] (by decide +kernel) ⟨by omega, by omega⟩ dL_law_0 ?_
  refine GZ.dup C dL_law_3 rfl ?_
  refine GZ.callI C ao0 ao1 ⟨hcl, hsl⟩ (cz_X5_init hi5) rfl m9_3 m9_4 m9_2 m9_5 rfl kd_X5_init ⟨Nat.le_of_ble_eq_true rfl, Nat.le_of_ble_eq_true rfl⟩ ⟨by omega, by omega, by omega⟩ (Nat.le_of_ble_eq_true rfl) dL_law_4 ?_
  refine GZ.astore_n (lv' := [(1, .ref s.heap.size), (0, .ref b)]) C dL_law_7 rfl (by decide) rfl ?_
  refine GZ.sub C [1, 0] (lv' := [(0, .ref b), (1, .ref s.heap.size)]) rfl ?_
  have hw9 := law_walk9 (l := l) (e := e) (below := below) (Q := lw_Z below #[Value.ref b] s) C hX hbl hbo TT ?_ hlp
  · intro H locs ls hz hW hS hl
    exact W.cs (by omega) (by omega) (hw9 H locs ls hW hS hl)
  · intro hh cells slots lv hc hs H locs ls hW hS hl
    refine va_forget (fun q hq => ?_) ?_
    · rcases hS.2.2 q hq with ⟨e9, h9⟩ | ⟨e9, h9⟩ | h9
      · cases h9
      · cases h9
      · exact h9
    · refine W.widen (k := 600104) (n := 7301314) (by omega) (by omega) ?_
      exact lw_ret (Drawn.sameBut.refl s.drawn lw_cs) hx hb hr hlocks dL_law_209
