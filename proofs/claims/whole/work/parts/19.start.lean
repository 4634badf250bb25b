theorem m9_0 : Cond.classLink RL 8 RX5 ∈ wsL_law := wc_1 _ (List.mem_of_getElem? (i := 0) rfl)
theorem m9_1 : Cond.instantiable RX5 6 ∈ wsL_law := wc_1 _ (List.mem_of_getElem? (i := 1) rfl)
theorem m9_3 : Cond.classLink RL 96 RX6 ∈ wsL_law := wc_1 _ (List.mem_of_getElem? (i := 3) rfl)
theorem m9_4 : Cond.instantiable RX6 16 ∈ wsL_law := wc_1 _ (List.mem_of_getElem? (i := 4) rfl)
theorem m9_7 : Cond.methodLink RL 95 yX5_init ∈ wsL_law := wc_1 _ (List.mem_of_getElem? (i := 7) rfl)
theorem m9_8 : Cond.instanceMethod yX5_init ∈ wsL_law := wc_1 _ (List.mem_of_getElem? (i := 8) rfl)
theorem m9_9 : Cond.code yX5_init cX5_init 1 none ∈ wsL_law := wc_1 _ (List.mem_of_getElem? (i := 9) rfl)
theorem m9_66 : Cond.methodLink RL 98 yX6_init ∈ wsL_law := wc_3 _ (List.mem_of_getElem? (i := 18) rfl)
theorem m9_67 : Cond.instanceMethod yX6_init ∈ wsL_law := wc_3 _ (List.mem_of_getElem? (i := 19) rfl)
theorem m9_68 : Cond.code yX6_init cX6_init 2 none ∈ wsL_law := wc_3 _ (List.mem_of_getElem? (i := 20) rfl)
theorem m9_6 : Cond.arrayClass .long ∈ wsL_law := wc_1 _ (List.mem_of_getElem? (i := 6) rfl)
/-! THE CLAIM OUT OF ONE WALK OF THE LAW'S BODY. Your part is whole_start (and what it stands on); all else here is the same for every law, but numbers. -/
def R_law : String := "PennantRopesLaw"
def lw_P (b : Addr) (xs : List Int32) (args : Array Value) (s : State) : Prop := args = #[.ref b] ∧ s.IntsAt b xs ∧ xs.length ≤ 2560 ∧ (Jvm.Cond.and given_1 narrow_1).before args s = true
/-- what a walk over the start with the record d0 says of its end, said of the start itself -/
theorem lw_closed {s t : State} {o : Outcome} {d0 : Drawn} {L : List Loc} {k n : Nat} (hd0 : s.drawn.sameBut d0 lw_cs) (hv : ∃ v, o = .returned v) (hW : (s.setDrawn d0).WarmedH t.vm) (hs : (s.setDrawn d0).sameButNew ({ t with vm := s.vm } : State) L k n) : State.butDraws s t lw_cs (fun t1 => Framed s o t1 L k n) := by
  have h2 : t.drawn = d0 := congrArg State.drawn hs.1
  refine ⟨⟨hv, hW, State.sameButNew.setDrawn hs s.drawn⟩, ?_, by decide⟩
  rw [h2]
  exact hd0
def lw_Q (_ : Array Value) (s : State) (o : Outcome) (t : State) : Prop := o = .returned (some (.int 1)) ∧ State.butDraws s t lw_cs (fun t1 => Framed s o t1 [] 601024 7293034)
def lw_Z (below : List Frame) (a : Array Value) (s : State) : State → Prop := fun t => ∃ o, t.status = .running ∧ Ended t below o ∧ lw_Q a s o t
/-- the law's own end, with 1 on the stack, nothing written that was there before, its room as the claim has it; d0: the record of draws at this point (at the entry s.drawn: begin with 'refine W.base ?_' and 'have hd0 := Drawn.sameBut.refl s.drawn lw_cs') -/
theorem lw_ret {p : Program} {l : Launch} {e : Env} {s : State} {m : MethodId} {below : List Frame} {meth : Method} {c : Code} {b : Nat} {d0 : Drawn} (hd0 : s.drawn.sameBut d0 lw_cs) (hx : p.tables.exec = Jvm.exec) (hb : c.code = code) (hr : meth.sig.returnType = ret) (hlocks : meth.locks = false) {pc : Nat} {H : Heap} {ls : Array Slot} (hdg : decode code pc = .ok (.ireturn, 1)) : W p l e room_1 (s.setDrawn d0) m #[Value.ref b] below meth c H [] 601024 7293034 (lw_Z below #[Value.ref b] s) (F0 m pc ls [.int 1]) := by
  intro T hT X
  obtain ⟨fs, hret, hrun, hended, hW, hframe⟩ := X.leave (v := some (.int 1)) (hlocks := hlocks) (fun h => by rw [hr] at h; cases h)
  have hmeth' : T.vm.method? m = some meth := X.method'
  refine ⟨T.setFrames fs, ?_, .returned (some (.int 1)), hrun, hended, rfl, lw_closed hd0 ⟨_, rfl⟩ hW hframe⟩
  jvm_step X.here [X.here.top, hx, hb, hdg, hmeth', hr, ret, narrow_b1]
  (try refine ⟨rfl, ?_⟩); (try refine ⟨rfl, ?_⟩)
  first | (intro acts; rw [hret _ acts rfl rfl rfl]) | rw [hret _ _ rfl rfl rfl]
  exact Steps.refl _
/-- what holds at the law's entry: the machine, the code, the tables' words (any of lw_tbl by 'hts w (by decide +kernel)'), the script of L ints xs at the cell b, what the Statement gives of the start (any of its parts by flat_of_before) -/
def lw_At (p : Program) (s : State) (m : MethodId) (meth : Method) (c : Code) (b L : Nat) (xs : Nat → Int32) : Prop :=
  p.tables.exec = Jvm.exec ∧ c.code = code ∧ meth.sig.returnType = ret ∧ c.maxLocals = 9 ∧ s.vm.findClass R_law = some m.cls ∧ (∀ w ∈ lw_tbl, w.before #[Value.ref b] s = true) ∧ va_X b L xs s s.heap ∧ b < s.heap.size ∧ meth.locks = false ∧ (Jvm.Cond.and given_1 narrow_1).before #[Value.ref b] s = true

/-- what the launch and the tables give at the law's entry, for throws -/
theorem st_arr {s : State} {args : Array Value} {ty : FieldType} (hno : ∀ C, ty ≠ .object C) (h : (Cond.arrayClass ty).before args s = true) : ∃ cA, ArrOfT s cA ty ∧ va_RA s cA ty := by
  obtain ⟨cA, k, comp, h1, h2, h3⟩ := Cond.arrayClass_spec h
  refine ⟨cA, fun n z => ⟨fun k h => (by cases h), k, h2, comp, h3⟩, ?_⟩
  cases ty with
  | object C => exact absurd rfl (hno C)
  | _ => exact h1
theorem st_arrO {s : State} {args : Array Value} {C : String} (h : (Cond.arrayOver (.object C)).before args s = true) : ∃ cA, ArrOfT s cA (.object C) ∧ va_RA s cA (.object C) := by
  obtain ⟨comp, cA, k, h1, -, h3, h4, h5⟩ := Cond.arrayOver_spec h
  exact ⟨cA, fun n z => ⟨fun k h => (by cases h), k, h3, comp, h4⟩, k, comp, h3, h4, h1, h5⟩
theorem st_str {s : State} {args : Array Value} {own : String} {k : Nat} {tx : String} {cur : ClassId} (hcur : s.vm.findClass own = some cur) (h : (Cond.stringRef own k tx).before args s = true) : ∃ sa, vk_R own k tx sa s := by
  obtain ⟨_, _, _, a, -, -, -, -, -, he⟩ := Cond.stringRef_spec hcur h
  exact ⟨a, vk_R.of h he⟩
theorem st_strs {s : State} {args : Array Value} {cur : ClassId} (hcur : s.vm.findClass "PennantRopes" = some cur) (hts : ∀ w ∈ lw_tbl, w.before args s = true) : ∀ q ∈ strs, ∃ sa, vk_R q.1 q.2.1 q.2.2 sa s := by
  intro q hq
  simp only [strs, List.mem_cons, List.not_mem_nil, or_false] at hq
  rcases hq with rfl | rfl | rfl | rfl | rfl | rfl | rfl | rfl | rfl | rfl | rfl | rfl | rfl | rfl | rfl | rfl | rfl | rfl | rfl
  · exact st_str hcur (hts _ (List.mem_of_getElem? (i := 564) (by decide +kernel)))
  · exact st_str hcur (hts _ (List.mem_of_getElem? (i := 581) (by decide +kernel)))
  · exact st_str hcur (hts _ (List.mem_of_getElem? (i := 655) (by decide +kernel)))
  · exact st_str hcur (hts _ (List.mem_of_getElem? (i := 669) (by decide +kernel)))
  · exact st_str hcur (hts _ (List.mem_of_getElem? (i := 681) (by decide +kernel)))
  · exact st_str hcur (hts _ (List.mem_of_getElem? (i := 694) (by decide +kernel)))
  · exact st_str hcur (hts _ (List.mem_of_getElem? (i := 725) (by decide +kernel)))
  · exact st_str hcur (hts _ (List.mem_of_getElem? (i := 737) (by decide +kernel)))
  · exact st_str hcur (hts _ (List.mem_of_getElem? (i := 742) (by decide +kernel)))
  · exact st_str hcur (hts _ (List.mem_of_getElem? (i := 758) (by decide +kernel)))
  · exact st_str hcur (hts _ (List.mem_of_getElem? (i := 782) (by decide +kernel)))
  · exact st_str hcur (hts _ (List.mem_of_getElem? (i := 794) (by decide +kernel)))
  · exact st_str hcur (hts _ (List.mem_of_getElem? (i := 802) (by decide +kernel)))
  · exact st_str hcur (hts _ (List.mem_of_getElem? (i := 638) (by decide +kernel)))
  · exact st_str hcur (hts _ (List.mem_of_getElem? (i := 528) (by decide +kernel)))
  · exact st_str hcur (hts _ (List.mem_of_getElem? (i := 654) (by decide +kernel)))
  · exact st_str hcur (hts _ (List.mem_of_getElem? (i := 616) (by decide +kernel)))
  · exact st_str hcur (hts _ (List.mem_of_getElem? (i := 814) (by decide +kernel)))
  · exact st_str hcur (hts _ (List.mem_of_getElem? (i := 621) (by decide +kernel)))
theorem st_cast {s : State} {args : Array Value} (hts : ∀ w ∈ lw_tbl, w.before args s = true) : ∀ E ∈ exns, va_Nw (.castable E E) s := by
  intro E hE
  simp only [exns, List.mem_cons, List.not_mem_nil, or_false] at hE
  rcases hE with rfl | rfl | rfl
  · exact va_Nw.of rfl (hts _ (List.mem_of_getElem? (i := 557) (by decide +kernel)))
  · exact va_Nw.of rfl (hts _ (List.mem_of_getElem? (i := 574) (by decide +kernel)))
  · exact va_Nw.of rfl (hts _ (List.mem_of_getElem? (i := 489) (by decide +kernel)))
theorem st_decl {s : State} {args : Array Value} (hts : ∀ w ∈ lw_tbl, w.before args s = true) : ∀ Y ∈ sup10, va_Nw (.declares (Bundle.initS Y)) s := by
  intro E hE
  simp only [sup10, List.mem_cons, List.not_mem_nil, or_false] at hE
  rcases hE with rfl | rfl | rfl
  · exact va_Nw.of rfl (hts _ (List.mem_of_getElem? (i := 491) (by decide +kernel)))
  · exact va_Nw.of rfl (hts _ (List.mem_of_getElem? (i := 493) (by decide +kernel)))
  · exact va_Nw.of rfl (hts _ (List.mem_of_getElem? (i := 495) (by decide +kernel)))
theorem st_nc {s : State} {args : Array Value} (hg : ∀ c ∈ flatC (Jvm.Cond.and given_1 narrow_1), c.before args s = true) : NC s := by
  intro E hE F hF hne
  simp only [exns, List.mem_cons, List.not_mem_nil, or_false] at hE hF
  rcases hE with rfl | rfl | rfl <;> rcases hF with rfl | rfl | rfl
  · exact absurd rfl hne
  · exact va_Nc.of (hg _ (List.mem_of_getElem? (i := 29) (by decide +kernel)))
  · exact va_Nc.of (hg _ (List.mem_of_getElem? (i := 12) (by decide +kernel)))
  · exact va_Nc.of (hg _ (List.mem_of_getElem? (i := 21) (by decide +kernel)))
  · exact absurd rfl hne
  · exact va_Nc.of (hg _ (List.mem_of_getElem? (i := 13) (by decide +kernel)))
  · exact va_Nc.of (hg _ (List.mem_of_getElem? (i := 20) (by decide +kernel)))
  · exact va_Nc.of (hg _ (List.mem_of_getElem? (i := 28) (by decide +kernel)))
  · exact absurd rfl hne
theorem st_tx {l : Launch} (hflags : l.flags = flags0) {s : State} {args : Array Value} {cur : ClassId} (hcur : s.vm.findClass "PennantRopes" = some cur) (hts : ∀ w ∈ lw_tbl, w.before args s = true) (hg : ∀ c ∈ flatC (Jvm.Cond.and given_1 narrow_1), c.before args s = true) {A : Nat → Prop} (hA : ∀ a : Nat, a < s.heap.size → ¬ A a) : TX l A s s.heap :=
  ⟨by unfold Launch.stackTraces; rw [hflags]; decide +kernel, vx_Zqof (hts _ (List.mem_of_getElem? (i := 514) (by decide +kernel))) (hts _ (List.mem_of_getElem? (i := 88) (by decide +kernel))) (hg _ (List.mem_of_getElem? (i := 4) (by decide +kernel))) hA, vx_Zqof (hts _ (List.mem_of_getElem? (i := 516) (by decide +kernel))) (hts _ (List.mem_of_getElem? (i := 88) (by decide +kernel))) (hg _ (List.mem_of_getElem? (i := 5) (by decide +kernel))) hA, st_strs hcur hts, st_cast hts, st_decl hts⟩
theorem GZ.astore_n {p : Program} {l : Launch} {e : Env} {R : Room} {s : State} {m : MethodId} {args : Array Value} {below : List Frame} {meth : Method} {c : Code} {n : Nat} {g : GC} {X : va_W} {h0 h : PH} {zm sm z sl : Nat} {Q : State → Prop} {pc : Nat} {lv : List (Nat × Value)} {st : List Value} {b : ByteArray} {own : String} {ret : Option FieldType} (C : Cx p s m args meth c b n own ret g) {i9 : Fin 4} {i : Nat} {x : Nat} {lv' : List (Nat × Value)} (d : decode b pc = .ok (.astore_n i9, 1)) (hi : (i9 : Nat) = i) (hn : i < n) (hl1 : (i, Value.ref x) :: lv.filter (fun q => !(q.1 == i) && !(q.1 + 1 == i && q.2.category == 2)) = lv') (kk : GZ p l e R s m args below meth c n g X h0 zm sm Q (z) (sl) (pc + 1) lv' (st) h) : GZ p l e R s m args below meth c n g X h0 zm sm Q (z) (sl) (pc) lv (.ref x :: st) h := fun H locs ls hz hW hS hl => lv_astore_n C.1 C.2.1 d hi hl hn hl1 (fun ls' hl' => kk H locs ls' hz hW hS hl')
theorem GZ.newJ {p : Program} {l : Launch} {e : Env} {R : Room} {s : State} {m : MethodId} {args : Array Value} {below : List Frame} {meth : Method} {c : Code} {n : Nat} {g : GC} {h : PH} {zm sm z sl : Nat} {Q : State → Prop} {pc : Nat} {lv : List (Nat × Value)} {st : List Value} {b : ByteArray} {own : String} {ret : Option FieldType} (C : Cx p s m args meth c b n own ret g) (hR : R.cells = zm - s.heap.size ∧ R.slots = sm) (w : Cond.arrayClass .long ∈ wsL_law) (hlim : z + 1 ≤ zm ∧ sl + 1 ≤ sm) (hsz : s.heap.size ≤ z) (d : decode b pc = .ok (.newarray .long, 2))
    (kk : G p l e R s m args below meth c n g (XO g z (fun _ => 0)) (fun _ => none) (z + 1 - s.heap.size) (sl + 1) Q (pc + 2) lv (.ref z :: st) h) : GZ p l e R s m args below meth c n g [] (fun _ => none) zm sm Q z sl pc lv (.int 1 :: st) h := by
  intro H locs ls hz hW hS hl
  have hAF : ∀ q, AF [] (fun _ => none) s.heap.size q → AF (XO g z (fun _ => 0)) (fun _ => none) s.heap.size q := by
    rintro q (⟨e9, hq⟩ | ⟨e9, hq⟩ | hq)
    · cases hq
    · cases hq
    · exact Or.inr (Or.inr hq)
  have hFA : ∀ q, AF (XO g z (fun _ => 0)) (fun _ => none) s.heap.size q → s.heap.size ≤ q := by
    rintro q (⟨e9, hq⟩ | ⟨e9, hq⟩ | hq)
    · rw [XO, List.mem_singleton] at hq
      cases hq
      exact hsz
    · cases hq
    · exact hq
  refine va_newaK (atype := .long) (N := 1) C.1 C.2.1 (C.2.2.2.2.2.1 _ w) rfl d rfl (by decide) (by decide) (by decide) (by rw [hR.1]; omega) (by rw [hR.2]; exact hlim.2) hz fun H1 cA e1 z1 o1 hAr hNm => ?_
  have hcA : cA = g.2.2.2.2 := by
    have h2 := ((C.2.2.2.2.2.2.2).2 3 _ rfl).2
    exact Option.some.inj (hNm.symm.trans h2)
  subst hcA
  obtain ⟨L, f, h1, hP, hD⟩ := hW
  have hD1 := hD.push hP hz.symm (Or.inr (Or.inr hsz) : AF [] (fun _ => none) s.heap.size z) (e := .inl (g.2.2.2.2, 1, .inr (.inl (fun _ => 0))))
  have hP1 : va_P g.1 vwCl ((([] : va_W) ++ va_pl L (fun a => wcv g (f a))) ++ [(z, .inl (g.2.2.2.2, 1, .inr (.inl (fun _ => 0))))]) H1 := by
    refine (hP.kept (fun k q hk => o1 q.1 (by have := (hP k q hk).lt; omega))).app (fun k q hk => ?_)
    have hz9 : k < 1 := (List.getElem?_eq_some_iff.mp hk).1
    rw [show k = 0 by omega] at hk
    cases hk
    show H1[z]? = some (vp_cell _ _)
    rw [vp_cell_l]
    exact e1
  refine W.cs (by omega) rfl (kk H1 locs ls ⟨L, f, h1, hP1.swap, ?_⟩ ⟨by have := hS.1; omega, fun q h1 h2 => (o1 q (by have := hS.1; omega)).trans (hS.2.1 q h1 (fun z9 => h2 (hAF q z9))), fun l9 h9 => hAF _ (hS.2.2 l9 h9)⟩ hl)
  have hD2 := hD1.swap
  exact ⟨hD2.1, fun k q hk => hAF _ (hD2.2 k q hk)⟩
/-- what is left to pure reading: the constructors' ends, and the law's loop -/
def PureClaim (xs : Nat → Int32) (L : Nat) : Prop := ∀ z : Nat, ∃ h2 h4 : PH, f_X5_init (pu (fun _ => none) z (.inr (.inr (4, [.null, .null, .null, .null, .null, .int 0])))) (z + 1) (z + 1 + 127) 2590 z = some (h2, z + 1 + 127) ∧
  f_X6_init (pu h2 (z + 1 + 127) (.inr (.inr (5, [.int 0, .null, .null, .null, .int 0, .null, .int 0, .null, .int 0, .null, .int 0, .int 0, .int 0, .int 0, .int 0, .long 0])))) (z + 1 + 127 + 1) (z + 1 + 127 + 1 + 6) 834 (z + 1 + 127) = some (h4, z + 1 + 127 + 1 + 6) ∧
  lpn (f_L_law xs L z (z + 1 + 127)) 700 (0, (h4, fun _ => 0)) = some ()
set_option maxRecDepth 100000 in
set_option maxHeartbeats 8000000 in
theorem start_of_pure {p : Program} {e : Env} {s : State} {m : MethodId} {below : List Frame} {meth : Method} {c : Code} (l : Launch) (hflags : l.flags = flags0) {b L : Nat} {xs : Nat → Int32} (hPure : PureClaim xs L) (C0 : lw_At p s m meth c b L xs) : W p l e room_1 s m #[Value.ref b] below meth c s.heap [] 0 0 (lw_Z below #[Value.ref b] s) (entryFrame m ([Value.ref b] : List Value).toArray 9) := by
  obtain ⟨hx, hb, hr, hml, hown, hts, hX, hbl, hlocks, hgv⟩ := id C0
  have hg := flat_of_before _ hgv
  have hlaw : ∀ w ∈ wsL_law, w.before #[Value.ref b] s = true := fun w hw => hts w (wsL_law_in w hw)
  obtain ⟨k0, iS0, hKn0⟩ := u_known (C := RX0) (T := TX0) (N := 2) (n := 2) hlaw inlX0 (hts _ (List.mem_of_getElem? (i := 151) (by decide +kernel)))
  obtain ⟨k1, iS1, hKn1⟩ := u_known (C := RX2) (T := TX2) (N := 4) (n := 4) hlaw inlX2 (hts _ (List.mem_of_getElem? (i := 112) (by decide +kernel)))
  obtain ⟨k2, iS2, hKn2⟩ := u_known (C := RX3) (T := TX3) (N := 6) (n := 6) hlaw inlX3 (hts _ (List.mem_of_getElem? (i := 105) (by decide +kernel)))
  obtain ⟨k3, iS3, hKn3⟩ := u_known (C := RX4) (T := TX4) (N := 2) (n := 2) hlaw inlX4 (hts _ (List.mem_of_getElem? (i := 167) (by decide +kernel)))
  obtain ⟨k4, iS4, hKn4⟩ := u_known (C := RX5) (T := TX5) (N := 6) (n := 6) hlaw inlX5 (hts _ (List.mem_of_getElem? (i := 97) (by decide +kernel)))
  obtain ⟨k5, iS5, hKn5⟩ := u_known (C := RX6) (T := TX6) (N := 16) (n := 16) hlaw inlX6 (hts _ (List.mem_of_getElem? (i := 889) (by decide +kernel)))
  obtain ⟨dC, dI, hKc⟩ : ∃ (dC : Nat → ClassId) (dI : Nat → Nat → Nat), ∀ (k : Nat) (q : vw_C), vwCl[k]? = some q → u_Kn s q.1 q.2.1 q.2.2 (dC k) (dI k) := by
    refine ⟨fun k => if k = 0 then k0 else if k = 1 then k1 else if k = 2 then k2 else if k = 3 then k3 else if k = 4 then k4 else k5, fun k => if k = 0 then iS0 else if k = 1 then iS1 else if k = 2 then iS2 else if k = 3 then iS3 else if k = 4 then iS4 else iS5, ?_⟩
    intro k q hq
    match k, hq with
    | 0, hq => cases hq; exact hKn0
    | 1, hq => cases hq; exact hKn1
    | 2, hq => cases hq; exact hKn2
    | 3, hq => cases hq; exact hKn3
    | 4, hq => cases hq; exact hKn4
    | 5, hq => cases hq; exact hKn5
    | k + 6, hq => simp [vwCl] at hq
  obtain ⟨cI, hI1, hI2⟩ := st_arr (ty := .int) (by intro C h; cases h) (hts _ (List.mem_of_getElem? (i := 130) (by decide +kernel)))
  obtain ⟨cJ, hJ1, hJ2⟩ := st_arr (ty := .long) (by intro C h; cases h) (hts _ (List.mem_of_getElem? (i := 1300) (by decide +kernel)))
  obtain ⟨cR, hR1, hR2⟩ := st_arrO (C := "PennantRopes$Rope") (hts _ (List.mem_of_getElem? (i := 111) (by decide +kernel)))
  obtain ⟨cS9, hS1, hS2⟩ := st_arrO (C := "PennantRopes$State") (hts _ (List.mem_of_getElem? (i := 157) (by decide +kernel)))
  have ao0 : va_AO "PennantRopes$Rope" s := va_AO.of (hts _ (List.mem_of_getElem? (i := 111) (by decide +kernel)))
  have ao1 : va_AO "PennantRopes$State" s := va_AO.of (hts _ (List.mem_of_getElem? (i := 157) (by decide +kernel)))
  obtain ⟨g, hgd⟩ : ∃ g : GC, g = ((dC, dI), cI, cR, cS9, cJ) := ⟨_, rfl⟩
  have hK : va_K g.1 vwCl (wty g) s := by
    rw [hgd]
    refine ⟨hKc, fun k q hq => ?_⟩
    match k, hq with
    | 0, hq => cases hq; exact ⟨hI1, hI2⟩
    | 1, hq => cases hq; exact ⟨hR1, hR2⟩
    | 2, hq => cases hq; exact ⟨hS1, hS2⟩
    | 3, hq => cases hq; exact ⟨hJ1, hJ2⟩
    | k + 4, hq => simp [wty] at hq
  have C : Cx p s m #[Value.ref b] meth c cL_law 9 RL ret g := ⟨hx, hb, hml, hr, hown, hlaw, hlocks, hK⟩
  obtain ⟨h2, h4, hi5, hi6, hlp⟩ := hPure s.heap.size
  have hnb : b < s.heap.size := hbl
  have TT : ∀ (o : Nat), s.heap.size ≤ o → ∀ f, TX l (AF (XO g o f) (fun _ => none) s.heap.size) s s.heap := fun o ho f => st_tx hflags hKn4.2.1 hts hg (fun a ha hA => by
    rcases hA with ⟨e9, hq⟩ | ⟨e9, hq⟩ | hq
    · rw [XO, List.mem_singleton] at hq
      cases hq
      omega
    · cases hq
    · omega)
  have hl := lv_entry [Value.ref b] (n := 9) (Nat.le_of_ble_eq_true rfl)
  have hcl : room_1.cells = s.heap.size + 601024 - s.heap.size := by show 601024 = _; omega
  have hsl : room_1.slots = 7293034 := rfl
  rw [lg_entry_eq]
  suffices hz : GZ p l e room_1 s m #[Value.ref b] below meth c 9 g [] (fun _ => none) (s.heap.size + 601024) 7293034 (lw_Z below #[Value.ref b] s) s.heap.size 0 0 (lv_args 0 [Value.ref b]) [] (fun _ => none) by
    refine W.cs (by omega) rfl (hz s.heap [] _ rfl ⟨[], fun _ => .inl (0, fun _ => 0), fun a => rfl, fun k q h => by simp [va_pl] at h, ⟨fun i j p9 q9 h => by simp [va_pl] at h, fun k q h => by simp [va_pl] at h⟩⟩ va_S.rf hl)
  refine GZ.sub C [0] (lv' := [(0, .ref b)]) rfl ?_
  refine GZ.newO (ci := 4) C ⟨hcl, hsl⟩ rfl inlX5 tyX5 tyX5_ok m9_0 m9_1 m9_2 [.null, .null, .null, .null, .null, .int 0] (by decide +kernel) ⟨by omega, by omega⟩ dL_law_0 ?_
  refine GZ.dup C dL_law_3 rfl ?_
  refine GZ.callI C ao0 ao1 ⟨hcl, hsl⟩ (cz_X5_init hi5) rfl m9_7 m9_8 m9_2 m9_9 rfl kd_X5_init ⟨Nat.le_of_ble_eq_true rfl, Nat.le_of_ble_eq_true rfl⟩ ⟨by omega, by omega, by omega⟩ (Nat.le_of_ble_eq_true rfl) dL_law_4 ?_
  refine GZ.astore_n (lv' := [(1, .ref s.heap.size), (0, .ref b)]) C dL_law_7 rfl (by decide) rfl ?_
  refine GZ.newO (ci := 5) C ⟨hcl, hsl⟩ rfl inlX6 tyX6 tyX6_ok m9_3 m9_4 m9_5 [.int 0, .null, .null, .null, .int 0, .null, .int 0, .null, .int 0, .null, .int 0, .int 0, .int 0, .int 0, .int 0, .long 0] (by decide +kernel) ⟨by omega, by omega⟩ dL_law_8 ?_
  refine GZ.dup C dL_law_11 rfl ?_
  refine GZ.callI C ao0 ao1 ⟨hcl, hsl⟩ (cz_X6_init hi6) rfl m9_66 m9_67 m9_5 m9_68 rfl kd_X6_init ⟨Nat.le_of_ble_eq_true rfl, Nat.le_of_ble_eq_true rfl⟩ ⟨by omega, by omega, by omega⟩ (Nat.le_of_ble_eq_true rfl) dL_law_12 ?_
  refine GZ.astore_n (lv' := [(2, .ref (s.heap.size + 1 + 127)), (1, .ref s.heap.size), (0, .ref b)]) C dL_law_15 rfl (by decide) rfl ?_
  refine GZ.iconst (v := 1) C dL_law_16 (by decide) ?_
  refine GZ.newJ C ⟨hcl, hsl⟩ m9_6 ⟨by omega, by omega⟩ (by omega) dL_law_17 ?_
  refine G.astore_n (lv' := [(3, .ref (s.heap.size + 1 + 127 + 1 + 6)), (2, .ref (s.heap.size + 1 + 127)), (1, .ref s.heap.size), (0, .ref b)]) C dL_law_19 rfl (by decide) rfl ?_
  refine G.iconst (v := 0) C dL_law_20 (by decide) ?_
  refine G.istore (lv' := [(4, .int 0), (3, .ref (s.heap.size + 1 + 127 + 1 + 6)), (2, .ref (s.heap.size + 1 + 127)), (1, .ref s.heap.size), (0, .ref b)]) C dL_law_21 (by decide) rfl ?_
  refine G.sub C [4, 3, 2, 1, 0] (lv' := [(0, .ref b), (1, .ref s.heap.size), (2, .ref (s.heap.size + 1 + 127)), (3, .ref (s.heap.size + 1 + 127 + 1 + 6)), (4, .int 0)]) rfl ?_
  refine law_loop (l := l) C hX hbl (by omega) (TT _ (by omega)) (st_nc hg) ?_ 700 140 (by omega) 0 (h4, fun _ => 0) () hlp _ _ (by omega) (by omega)
  intro x4 hh cells slots hc hs H locs ls hW hS hl
  refine lv_iconst (v := 1) hx hb dL_law_1900 (by decide) ?_
  refine va_forget (fun q hq => ?_) ?_
  · rcases hS.2.2 q hq with ⟨e9, h9⟩ | ⟨e9, h9⟩ | h9
    · rw [XO, List.mem_singleton] at h9
      have h8 := (Prod.mk.inj h9).1
      omega
    · cases h9
    · exact h9
  · refine W.widen (k := 601024) (n := 7293034) (by omega) (by omega) ?_
    exact lw_ret (Drawn.sameBut.refl s.drawn lw_cs) hx hb hr hlocks dL_law_1901
