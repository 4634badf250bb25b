theorem m9_83 : Cond.methodLink RL 7 yX5_gap ∈ wsL_law := wc_4 _ (List.mem_of_getElem? (i := 11) rfl)
theorem m9_84 : Cond.instanceMethod yX5_gap ∈ wsL_law := wc_4 _ (List.mem_of_getElem? (i := 12) rfl)
theorem m9_85 : Cond.selects RX5 yX5_gap yX5_gap ∈ wsL_law := wc_4 _ (List.mem_of_getElem? (i := 13) rfl)
theorem m9_86 : Cond.code yX5_gap cX5_gap 4 (some .int) ∈ wsL_law := wc_4 _ (List.mem_of_getElem? (i := 14) rfl)
theorem m9_80 : Cond.classLink RL 13 "java/lang/IndexOutOfBoundsException" ∈ wsL_law := wc_4 _ (List.mem_of_getElem? (i := 8) rfl)
theorem m9_81 : Cond.classLink RL 15 "java/lang/IllegalArgumentException" ∈ wsL_law := wc_4 _ (List.mem_of_getElem? (i := 9) rfl)
theorem m9_82 : Cond.classLink RL 17 "java/lang/IllegalStateException" ∈ wsL_law := wc_4 _ (List.mem_of_getElem? (i := 10) rfl)
theorem m9_179 : Cond.methodLink RL 19 yX5_rope ∈ wsL_law := wc_8 _ (List.mem_of_getElem? (i := 11) rfl)
theorem m9_180 : Cond.instanceMethod yX5_rope ∈ wsL_law := wc_8 _ (List.mem_of_getElem? (i := 12) rfl)
theorem m9_181 : Cond.selects RX5 yX5_rope yX5_rope ∈ wsL_law := wc_8 _ (List.mem_of_getElem? (i := 13) rfl)
theorem m9_182 : Cond.code yX5_rope cX5_rope 2 (some .int) ∈ wsL_law := wc_8 _ (List.mem_of_getElem? (i := 14) rfl)
theorem m9_225 : Cond.methodLink RL 23 yX5_drop ∈ wsL_law := wc_10 _ (List.mem_of_getElem? (i := 9) rfl)
theorem m9_226 : Cond.instanceMethod yX5_drop ∈ wsL_law := wc_10 _ (List.mem_of_getElem? (i := 10) rfl)
theorem m9_227 : Cond.selects RX5 yX5_drop yX5_drop ∈ wsL_law := wc_10 _ (List.mem_of_getElem? (i := 11) rfl)
theorem m9_228 : Cond.code yX5_drop cX5_drop 2 (some .int) ∈ wsL_law := wc_10 _ (List.mem_of_getElem? (i := 12) rfl)
theorem m9_253 : Cond.methodLink RL 26 yX5_lay ∈ wsL_law := wc_11 _ (List.mem_of_getElem? (i := 13) rfl)
theorem m9_254 : Cond.instanceMethod yX5_lay ∈ wsL_law := wc_11 _ (List.mem_of_getElem? (i := 14) rfl)
theorem m9_255 : Cond.selects RX5 yX5_lay yX5_lay ∈ wsL_law := wc_11 _ (List.mem_of_getElem? (i := 15) rfl)
theorem m9_256 : Cond.code yX5_lay cX5_lay 5 (some .int) ∈ wsL_law := wc_11 _ (List.mem_of_getElem? (i := 16) rfl)
theorem m9_318 : Cond.methodLink RL 30 yX5_take ∈ wsL_law := wc_14 _ (List.mem_of_getElem? (i := 6) rfl)
theorem m9_319 : Cond.instanceMethod yX5_take ∈ wsL_law := wc_14 _ (List.mem_of_getElem? (i := 7) rfl)
theorem m9_320 : Cond.selects RX5 yX5_take yX5_take ∈ wsL_law := wc_14 _ (List.mem_of_getElem? (i := 8) rfl)
theorem m9_321 : Cond.code yX5_take cX5_take 4 (some .int) ∈ wsL_law := wc_14 _ (List.mem_of_getElem? (i := 9) rfl)
theorem m9_346 : Cond.methodLink RL 33 yX5_stretch ∈ wsL_law := wc_15 _ (List.mem_of_getElem? (i := 10) rfl)
theorem m9_347 : Cond.instanceMethod yX5_stretch ∈ wsL_law := wc_15 _ (List.mem_of_getElem? (i := 11) rfl)
theorem m9_348 : Cond.selects RX5 yX5_stretch yX5_stretch ∈ wsL_law := wc_15 _ (List.mem_of_getElem? (i := 12) rfl)
theorem m9_349 : Cond.code yX5_stretch cX5_stretch 5 (some .int) ∈ wsL_law := wc_15 _ (List.mem_of_getElem? (i := 13) rfl)
theorem m9_404 : Cond.methodLink RL 36 yX5_cut ∈ wsL_law := wc_17 _ (List.mem_of_getElem? (i := 20) rfl)
theorem m9_405 : Cond.instanceMethod yX5_cut ∈ wsL_law := wc_17 _ (List.mem_of_getElem? (i := 21) rfl)
theorem m9_406 : Cond.selects RX5 yX5_cut yX5_cut ∈ wsL_law := wc_17 _ (List.mem_of_getElem? (i := 22) rfl)
theorem m9_407 : Cond.code yX5_cut cX5_cut 5 (some .int) ∈ wsL_law := wc_17 _ (List.mem_of_getElem? (i := 23) rfl)
theorem m9_423 : Cond.methodLink RL 39 yX5_turn ∈ wsL_law := wc_18 _ (List.mem_of_getElem? (i := 15) rfl)
theorem m9_424 : Cond.instanceMethod yX5_turn ∈ wsL_law := wc_18 _ (List.mem_of_getElem? (i := 16) rfl)
theorem m9_425 : Cond.selects RX5 yX5_turn yX5_turn ∈ wsL_law := wc_18 _ (List.mem_of_getElem? (i := 17) rfl)
theorem m9_426 : Cond.code yX5_turn cX5_turn 3 (some .int) ∈ wsL_law := wc_18 _ (List.mem_of_getElem? (i := 18) rfl)
theorem m9_458 : Cond.methodLink RL 42 yX5_join ∈ wsL_law := wc_20 _ (List.mem_of_getElem? (i := 2) rfl)
theorem m9_459 : Cond.instanceMethod yX5_join ∈ wsL_law := wc_20 _ (List.mem_of_getElem? (i := 3) rfl)
theorem m9_460 : Cond.selects RX5 yX5_join yX5_join ∈ wsL_law := wc_20 _ (List.mem_of_getElem? (i := 4) rfl)
theorem m9_461 : Cond.code yX5_join cX5_join 5 (some .int) ∈ wsL_law := wc_20 _ (List.mem_of_getElem? (i := 5) rfl)
theorem m9_505 : Cond.methodLink RL 45 yX5_append ∈ wsL_law := wc_22 _ (List.mem_of_getElem? (i := 1) rfl)
theorem m9_506 : Cond.instanceMethod yX5_append ∈ wsL_law := wc_22 _ (List.mem_of_getElem? (i := 2) rfl)
theorem m9_507 : Cond.selects RX5 yX5_append yX5_append ∈ wsL_law := wc_22 _ (List.mem_of_getElem? (i := 3) rfl)
theorem m9_508 : Cond.code yX5_append cX5_append 2 (some .int) ∈ wsL_law := wc_22 _ (List.mem_of_getElem? (i := 4) rfl)
theorem m9_607 : Cond.methodLink RL 48 yX5_play ∈ wsL_law := wc_26 _ (List.mem_of_getElem? (i := 7) rfl)
theorem m9_608 : Cond.instanceMethod yX5_play ∈ wsL_law := wc_26 _ (List.mem_of_getElem? (i := 8) rfl)
theorem m9_609 : Cond.selects RX5 yX5_play yX5_play ∈ wsL_law := wc_26 _ (List.mem_of_getElem? (i := 9) rfl)
theorem m9_610 : Cond.code yX5_play cX5_play 5 (some .int) ∈ wsL_law := wc_26 _ (List.mem_of_getElem? (i := 10) rfl)
theorem m9_639 : Cond.methodLink RL 52 yX5_undo ∈ wsL_law := wc_27 _ (List.mem_of_getElem? (i := 15) rfl)
theorem m9_640 : Cond.instanceMethod yX5_undo ∈ wsL_law := wc_27 _ (List.mem_of_getElem? (i := 16) rfl)
theorem m9_641 : Cond.selects RX5 yX5_undo yX5_undo ∈ wsL_law := wc_27 _ (List.mem_of_getElem? (i := 17) rfl)
theorem m9_642 : Cond.code yX5_undo cX5_undo 1 (some .int) ∈ wsL_law := wc_27 _ (List.mem_of_getElem? (i := 18) rfl)
theorem m9_668 : Cond.methodLink RL 55 yX5_restore ∈ wsL_law := wc_28 _ (List.mem_of_getElem? (i := 20) rfl)
theorem m9_669 : Cond.instanceMethod yX5_restore ∈ wsL_law := wc_28 _ (List.mem_of_getElem? (i := 21) rfl)
theorem m9_670 : Cond.selects RX5 yX5_restore yX5_restore ∈ wsL_law := wc_28 _ (List.mem_of_getElem? (i := 22) rfl)
theorem m9_671 : Cond.code yX5_restore cX5_restore 1 (some .int) ∈ wsL_law := wc_28 _ (List.mem_of_getElem? (i := 23) rfl)
theorem m9_679 : Cond.methodLink RL 58 yX5_place ∈ wsL_law := wc_29 _ (List.mem_of_getElem? (i := 7) rfl)
theorem m9_680 : Cond.instanceMethod yX5_place ∈ wsL_law := wc_29 _ (List.mem_of_getElem? (i := 8) rfl)
theorem m9_681 : Cond.selects RX5 yX5_place yX5_place ∈ wsL_law := wc_29 _ (List.mem_of_getElem? (i := 9) rfl)
theorem m9_682 : Cond.code yX5_place cX5_place 4 (some .int) ∈ wsL_law := wc_29 _ (List.mem_of_getElem? (i := 10) rfl)
theorem m9_691 : Cond.methodLink RL 61 yX5_ropeOf ∈ wsL_law := wc_29 _ (List.mem_of_getElem? (i := 19) rfl)
theorem m9_692 : Cond.instanceMethod yX5_ropeOf ∈ wsL_law := wc_29 _ (List.mem_of_getElem? (i := 20) rfl)
theorem m9_693 : Cond.selects RX5 yX5_ropeOf yX5_ropeOf ∈ wsL_law := wc_29 _ (List.mem_of_getElem? (i := 21) rfl)
theorem m9_694 : Cond.code yX5_ropeOf cX5_ropeOf 4 (some .int) ∈ wsL_law := wc_29 _ (List.mem_of_getElem? (i := 22) rfl)
theorem m9_748 : Cond.methodLink RL 64 yX5_hueOf ∈ wsL_law := wc_32 _ (List.mem_of_getElem? (i := 4) rfl)
theorem m9_749 : Cond.instanceMethod yX5_hueOf ∈ wsL_law := wc_32 _ (List.mem_of_getElem? (i := 5) rfl)
theorem m9_750 : Cond.selects RX5 yX5_hueOf yX5_hueOf ∈ wsL_law := wc_32 _ (List.mem_of_getElem? (i := 6) rfl)
theorem m9_751 : Cond.code yX5_hueOf cX5_hueOf 5 (some .int) ∈ wsL_law := wc_32 _ (List.mem_of_getElem? (i := 7) rfl)
theorem m9_773 : Cond.methodLink RL 67 yX5_gapOf ∈ wsL_law := wc_33 _ (List.mem_of_getElem? (i := 5) rfl)
theorem m9_774 : Cond.instanceMethod yX5_gapOf ∈ wsL_law := wc_33 _ (List.mem_of_getElem? (i := 6) rfl)
theorem m9_775 : Cond.selects RX5 yX5_gapOf yX5_gapOf ∈ wsL_law := wc_33 _ (List.mem_of_getElem? (i := 7) rfl)
theorem m9_776 : Cond.code yX5_gapOf cX5_gapOf 2 (some .int) ∈ wsL_law := wc_33 _ (List.mem_of_getElem? (i := 8) rfl)
theorem m9_784 : Cond.methodLink RL 70 yX5_count ∈ wsL_law := wc_33 _ (List.mem_of_getElem? (i := 16) rfl)
theorem m9_785 : Cond.instanceMethod yX5_count ∈ wsL_law := wc_33 _ (List.mem_of_getElem? (i := 17) rfl)
theorem m9_786 : Cond.selects RX5 yX5_count yX5_count ∈ wsL_law := wc_33 _ (List.mem_of_getElem? (i := 18) rfl)
theorem m9_787 : Cond.code yX5_count cX5_count 2 (some .int) ∈ wsL_law := wc_33 _ (List.mem_of_getElem? (i := 19) rfl)
theorem m9_838 : Cond.methodLink RL 73 yX5_refusal ∈ wsL_law := wc_35 _ (List.mem_of_getElem? (i := 22) rfl)
theorem m9_839 : Cond.instanceMethod yX5_refusal ∈ wsL_law := wc_35 _ (List.mem_of_getElem? (i := 23) rfl)
theorem m9_840 : Cond.selects RX5 yX5_refusal yX5_refusal ∈ wsL_law := wc_36 _ (List.mem_of_getElem? (i := 0) rfl)
theorem m9_841 : Cond.code yX5_refusal cX5_refusal 5 (some .int) ∈ wsL_law := wc_36 _ (List.mem_of_getElem? (i := 1) rfl)
theorem m9_849 : Cond.methodLink RL 76 yX5_meeting ∈ wsL_law := wc_36 _ (List.mem_of_getElem? (i := 9) rfl)
theorem m9_850 : Cond.instanceMethod yX5_meeting ∈ wsL_law := wc_36 _ (List.mem_of_getElem? (i := 10) rfl)
theorem m9_851 : Cond.selects RX5 yX5_meeting yX5_meeting ∈ wsL_law := wc_36 _ (List.mem_of_getElem? (i := 11) rfl)
theorem m9_852 : Cond.code yX5_meeting cX5_meeting 5 (some .int) ∈ wsL_law := wc_36 _ (List.mem_of_getElem? (i := 12) rfl)
theorem m9_872 : Cond.methodLink RL 80 yX5_walked ∈ wsL_law := wc_37 _ (List.mem_of_getElem? (i := 8) rfl)
theorem m9_873 : Cond.instanceMethod yX5_walked ∈ wsL_law := wc_37 _ (List.mem_of_getElem? (i := 9) rfl)
theorem m9_874 : Cond.selects RX5 yX5_walked yX5_walked ∈ wsL_law := wc_37 _ (List.mem_of_getElem? (i := 10) rfl)
theorem m9_875 : Cond.code yX5_walked cX5_walked 5 (some .int) ∈ wsL_law := wc_37 _ (List.mem_of_getElem? (i := 11) rfl)
theorem m9_886 : Cond.methodLink RL 83 yX5_phases ∈ wsL_law := wc_37 _ (List.mem_of_getElem? (i := 22) rfl)
theorem m9_887 : Cond.instanceMethod yX5_phases ∈ wsL_law := wc_37 _ (List.mem_of_getElem? (i := 23) rfl)
theorem m9_888 : Cond.selects RX5 yX5_phases yX5_phases ∈ wsL_law := wc_38 _ (List.mem_of_getElem? (i := 0) rfl)
theorem m9_889 : Cond.code yX5_phases cX5_phases 5 (some .int) ∈ wsL_law := wc_38 _ (List.mem_of_getElem? (i := 1) rfl)
theorem m9_926 : Cond.methodLink RL 86 yX5_bestHue ∈ wsL_law := wc_39 _ (List.mem_of_getElem? (i := 14) rfl)
theorem m9_927 : Cond.instanceMethod yX5_bestHue ∈ wsL_law := wc_39 _ (List.mem_of_getElem? (i := 15) rfl)
theorem m9_928 : Cond.selects RX5 yX5_bestHue yX5_bestHue ∈ wsL_law := wc_39 _ (List.mem_of_getElem? (i := 16) rfl)
theorem m9_929 : Cond.code yX5_bestHue cX5_bestHue 2 (some .int) ∈ wsL_law := wc_39 _ (List.mem_of_getElem? (i := 17) rfl)
theorem m9_947 : Cond.methodLink RL 89 yX5_joining ∈ wsL_law := wc_40 _ (List.mem_of_getElem? (i := 11) rfl)
theorem m9_948 : Cond.instanceMethod yX5_joining ∈ wsL_law := wc_40 _ (List.mem_of_getElem? (i := 12) rfl)
theorem m9_949 : Cond.selects RX5 yX5_joining yX5_joining ∈ wsL_law := wc_40 _ (List.mem_of_getElem? (i := 13) rfl)
theorem m9_950 : Cond.code yX5_joining cX5_joining 5 (some .int) ∈ wsL_law := wc_40 _ (List.mem_of_getElem? (i := 14) rfl)
theorem m9_958 : Cond.methodLink RL 92 yX5_greatest ∈ wsL_law := wc_40 _ (List.mem_of_getElem? (i := 22) rfl)
theorem m9_959 : Cond.instanceMethod yX5_greatest ∈ wsL_law := wc_40 _ (List.mem_of_getElem? (i := 23) rfl)
theorem m9_960 : Cond.selects RX5 yX5_greatest yX5_greatest ∈ wsL_law := wc_41 _ (List.mem_of_getElem? (i := 0) rfl)
theorem m9_961 : Cond.code yX5_greatest cX5_greatest 2 (some .int) ∈ wsL_law := wc_41 _ (List.mem_of_getElem? (i := 1) rfl)
/-! THE LAW'S SMALL METHODS: the row of one long (out) lies beside the pure heap -/
def XO (g : GC) (o : Nat) (f : Nat → Int64) : va_W := [(o, .inl (g.2.2.2.2, 1, .inr (.inl f)))]
theorem AF_XO (g : GC) (o : Nat) (f f' : Nat → Int64) (h : PH) (sz : Nat) : AF (XO g o f) h sz = AF (XO g o f') h sz := by
  funext q
  apply propext
  unfold AF XO
  constructor
  · rintro (⟨e, hq⟩ | hq)
    · rw [List.mem_singleton] at hq
      cases hq
      exact Or.inl ⟨_, List.mem_singleton.mpr rfl⟩
    · exact Or.inr hq
  · rintro (⟨e, hq⟩ | hq)
    · rw [List.mem_singleton] at hq
      cases hq
      exact Or.inl ⟨_, List.mem_singleton.mpr rfl⟩
    · exact Or.inr hq
def NC (U : State) : Prop := ∀ E ∈ exns, ∀ F ∈ exns, E ≠ F → va_Nc E F U
theorem NC.moved {u U : State} (hvm : u.vm.Alike U.vm) (h : NC u) : NC U := fun E hE F hF hne => va_Nc.moved hvm (h E hE F hF hne)
def WPreW (l : Launch) (g : GC) (o : Nat) (f : Nat → Int64) (h : PH) (sz : Nat) (U : State) : Prop := WPreX l g (XO g o f) h sz U ∧ NC U
theorem WPreW.blind {l : Launch} {g : GC} {o : Nat} {f : Nat → Int64} {h : PH} {sz : Nat} {av : List Value} : FrameBlind (va_Pc av (WPreW l g o f h sz)) :=
  fun a U k mk q => ⟨q.1, (WPreX.blind a U k mk ⟨q.1, q.2.1⟩).2, NC.moved (u := U) (U := U.calling k mk a) (Vm.Alike.refl U.vm) q.2.2⟩
def QL (g : GC) (o : Nat) (f : Nat → Int64) (h : PH) (sz : Nat) (k : Int32) (h' : PH) (f' : Nat → Int64) : Array Value → State → Outcome → State → Prop := fun _ st oc t => (oc = .returned (some (.int k)) ∧ WW g (AF (XO g o f) h sz) (XO g o f') h' t.heap ∧ va_K g.1 vwCl (wty g) t) ∧ va_F (AF (XO g o f) h sz) st t
def CW (l : Launch) (y : MethodName) (b : ByteArray) (n : Nat) (hh : List (Nat × Nat × Nat × Nat)) (fr lo : Nat) (av : List Value) (o : Nat) (h : PH) (f : Nat → Int64) (k : Int32) (h' : PH) (f' : Nat → Int64) : Prop :=
  ∀ (g : GC) (sz : Nat), Met l y (Cond.codeWith y b n (some .int) hh :: wsL_law) ({ frames := fr, cells := 1, slots := 6, locals := lo } : Room) (va_Pc av (WPreW l g o f h sz)) (QL g o f h sz k h' f') 1 6 (AF (XO g o f) h sz)
theorem CW.of {l : Launch} {y : MethodName} {b : ByteArray} {n : Nat} {hh : List (Nat × Nat × Nat × Nat)} {fr lo : Nat} {av : List Value} {o : Nat} {h h' : PH} {f f' : Nat → Int64} {k : Int32} {own : String} (hown : own = y.cls) (hy : plainName y.cls = true) (hlen : (lg_sl av).length ≤ n)
    (body : ∀ (p : Program) (e : Env) (R : Room) (s : State) (m : MethodId) (args : Array Value) (below : List Frame) (meth : Method) (c : Code) (g : GC), R = ({ frames := fr, cells := 1, slots := 6, locals := lo } : Room) → Cx p s m args meth c b n own (some .int) g → TX l (AF (XO g o f) h s.heap.size) s s.heap → NC s → c.exceptionTable.toList = tableOf hh →
      G p l e R s m args below meth c n g (XO g o f) h 0 0 (MQ below (QL g o f h s.heap.size k h' f') args s 1 6 (AF (XO g o f) h s.heap.size)) 0 (lv_args 0 av) [] h) : CW l y b n hh fr lo av o h f k h' f' := by
  intro g sz
  refine va_MetW (cc := b) (maxL := n) (ret := some .int) (hh := hh) hy rfl ?_
  intro p e s m args below meth c s₁ B hml hv
  obtain ⟨rfl, ⟨⟨hsz, hW, hK⟩, hT⟩, hN⟩ := hv
  have hts := atoms_spec (ws := Cond.codeWith y b n (some .int) hh :: wsL_law) B.pre
  subst hsz
  have hl := lv_entry av (n := n) hlen
  rw [lg_entry_eq]
  exact body p e _ s m av.toArray below meth c g rfl ⟨B.exec, B.bytes, hml, B.returns, by rw [hown]; exact findClass_of_methodNamed B.named, fun w hw => hts w (List.mem_cons_of_mem _ hw), B.notSynchronized, hK⟩ hT hN (vx_table (x := y) B (hts _ List.mem_cons_self)) s.heap [] _ (hW.self _) va_S.rf hl

section GW9
variable {p : Program} {l : Launch} {e : Env} {R : Room} {s : State} {m : MethodId} {args : Array Value} {below : List Frame} {meth : Method} {c : Code} {n : Nat} {g : GC} {X : va_W} {h0 h : PH} {cells slots : Nat} {Q : State → Prop} {pc : Nat} {lv : List (Nat × Value)} {st : List Value} {b : ByteArray} {own : String} {ret : Option FieldType}
theorem G.lastX (C : Cx p s m args meth c b n own ret g) {o : Nat} {f : Nat → Int64} {x : Int64} (d : decode b pc = .ok (.lastore, 1)) (kk : G p l e R s m args below meth c n g (XO g o (vp_updL f 0 x)) h0 (cells) (slots) (Q) (pc + 1) lv (st) h) : G p l e R s m args below meth c n g (XO g o f) h0 (cells) (slots) (Q) (pc) lv (.long x :: .int 0 :: .ref o :: st) h := by
  intro H locs ls hW hS hl
  obtain ⟨L, F, h1, hP, hD⟩ := hW
  refine va_last C.1 C.2.1 C.2.2.2.2.2.2.2 hP hD hS 0 3 (cA := g.2.2.2.2) (n := 1) (f := f) rfl rfl (show vp_in 0 1 by unfold vp_in; decide) d (fun H1 locs1 p1 d1 s1 => ?_)
  have e9 := AF_XO g o f (vp_updL f 0 x) h0 s.heap.size
  refine kk H1 locs1 ls ⟨L, F, h1, p1, ?_⟩ ?_ hl
  · rw [← e9]; exact d1
  · rw [← e9]; exact s1
theorem G.lldX (C : Cx p s m args meth c b n own ret g) {o : Nat} {f : Nat → Int64} (d : decode b pc = .ok (.laload, 1)) (kk : G p l e R s m args below meth c n g (XO g o f) h0 (cells) (slots) (Q) (pc + 1) lv (.long (f 0) :: st) h) : G p l e R s m args below meth c n g (XO g o f) h0 (cells) (slots) (Q) (pc) lv (.int 0 :: .ref o :: st) h := by
  intro H locs ls hW hS hl
  have hW9 := hW
  obtain ⟨L, F, h1, hP, hD⟩ := hW
  exact va_lald C.1 C.2.1 C.2.2.2.2.2.2.2 hP 0 3 (cA := g.2.2.2.2) (n := 1) (f := f) rfl rfl (show vp_in 0 1 by unfold vp_in; decide) d (kk H locs ls hW9 hS hl)
theorem G.iretW (C : Cx p s m args meth c b n own (some .int) g) {o : Nat} {f f' : Nat → Int64} {k : Int32} (hcs : cells ≤ 1 ∧ slots ≤ 6) (d : decode b pc = .ok (.ireturn, 1)) : G p l e R s m args below meth c n g (XO g o f') h0 (cells) (slots) (MQ below (QL g o f h0 s.heap.size k h f') args s 1 6 (AF (XO g o f) h0 s.heap.size)) (pc) lv ([.int k]) h := by
  intro H locs ls hW hS hl
  have e9 := AF_XO g o f f' h0 s.heap.size
  rw [← e9] at hW hS
  refine W.widen (k := 1) (n := 6) hcs.1 hcs.2 ?_
  exact W.iret (v := k) C.1 C.2.1 C.2.2.2.1 (fun t ht hWm => ⟨⟨rfl, by rw [ht]; exact hW, va_K.moved hWm.alike C.2.2.2.2.2.2.2⟩, hS.F ht⟩) hS.2.2 d C.2.2.2.2.2.2.1
theorem G.callXc (C : Cx p s m args meth c b n own ret g) (TT : TX l (AF X h0 s.heap.size) s s.heap) {y : MethodName} {b' : ByteArray} {n' : Nat} {ret' : Option FieldType} {fr lo : Nat} {a ci : Nat} {As st0 : List Value} {CN : String} {T : u_T} {N idx : Nat} {r1 : RX} {E : String} {hx : PH} (cx : CX l y b' n' ret' fr lo (.ref a :: As) h r1) (hr1 : r1 = .error (E, hx)) (hRc : 1 ≤ R.cells ∧ 6 ≤ R.slots) (hk : kO h a ci) (hc : vwCl[ci]? = some (CN, T, N))
    (w1 : Cond.methodLink own idx y ∈ wsL_law) (w2 : Cond.instanceMethod y ∈ wsL_law) (w3 : Cond.selects CN y y ∈ wsL_law) (w4 : Cond.initialized CN ∈ wsL_law) (w5 : Cond.code y b' n' ret' ∈ wsL_law)
    (hd : y.cls = CN ∧ y.cls ≠ "java/lang/invoke/MethodHandle" ∧ y.cls ≠ "java/lang/invoke/VarHandle" ∧ (parseMethodDescriptor y.desc).map (fun d => d.parameters.length) = some As.length) (hR : fr + 1 ≤ R.frames ∧ 8 + (n' + 11) + lo ≤ R.locals)
    (h8 : (st.map fun v => v.category).sum ≤ 8) (hst : st0 = As.reverse ++ .ref a :: st) (d : decode b pc = .ok (.invokevirtual idx, 3))
    (pre : List ExceptionTableEntry) (x : ExceptionTableEntry) (suf : List ExceptionTableEntry) (hsplit : c.exceptionTable.toList = pre ++ x :: suf)
    (hpass : ∀ z ∈ pre, covers z pc = false ∨ (z.catchType ≠ 0 ∧ ∃ nm : String, Cond.classLink own z.catchType nm ∈ wsL_law ∧ va_Nc E nm s)) (hcov : covers x pc = true) (hct : x.catchType ≠ 0) (hlink : Cond.classLink own x.catchType E ∈ wsL_law) (hE : E ∈ exns)
    (kk : ∀ q9 : Nat, G p l e R s m args below meth c n g (X) h0 (0 + 1) (0 + 6) (Q) (x.handlerPc) lv ([.ref q9]) hx) : G p l e R s m args below meth c n g (X) h0 (0) (0) (Q) (pc) lv (st0) h := by
  subst hr1
  have hcs : 0 + 1 ≤ R.cells ∧ 0 + 6 ≤ R.slots := ⟨hRc.1, hRc.2⟩
  intro H locs ls hW hS hl T9 hT X9
  obtain ⟨fs, hfs⟩ := hk
  obtain ⟨ws, q0, hP, hD, hq, -⟩ := hW.at hfs
  have hsub := AF.sub hW hS.1
  have hr9 := vx_runV (p := p) (l := l) (e := e) (R := R) (s := s) (m := m) (args := args) (below := below) (meth := meth) (c := c) (H := H) (locs := locs) (cells := 0) (slots := 0) (g := F0 m pc ls st0) (As := As) (rest := st) (b := a) (C := CN) (n := As.length) ⟨C.1, C.2.1, C.2.2.1, C.2.2.2.2.1, C.2.2.2.2.2.1⟩ (cx g X H.size) (cwV As.length C.2.2.2.2.2.1 (good_call (ws := []) w1 w2 w3 w4 w5) rfl rfl rfl hd hR)
    ⟨WPreX.blind, va_recv C.2.2.2.2.2.2.2 hP hc hq, fun U hU hWU => ⟨rfl, ⟨by rw [hU], by rw [hU]; exact hW.sub (fun _ _ => trivial), va_K.moved hWU.alike C.2.2.2.2.2.2.2⟩, by rw [hU]; exact TX.warm hWU ((TT.kept hS.2.1).narrow hsub)⟩⟩ rfl rfl hl.1 hst (lv_room h8) d hcs T9 hT X9
  rcases hr9 with ⟨v, st₀, t, T', L, e0, X', hL, e1, e2, ⟨o1, h1, hr1, ⟨hv, hW1, hK1⟩, hz, hkk⟩, go⟩ | ⟨q9, st₀, t, T', L, E9, ce, e0, X', hL, e1, e2, ⟨hx1, hr1, ⟨hW1, hK1⟩, hz, hkk⟩, hce, hcv, hcl, go⟩
  · cases hr1
  · obtain ⟨rfl, rfl⟩ := Prod.mk.inj (Except.error.inj hr1)
    rw [e0] at hz hkk
    have s1 : va_S (AF X h0 s.heap.size) s.heap T'.heap (locs ++ L) := ⟨Nat.le_trans hS.1 (by rw [e1]; exact hz), fun q h1 h2 => by rw [e1, hkk q (Nat.lt_of_lt_of_le h1 hS.1) (fun z => h2 (hsub q z))]; exact hS.2.1 q h1 h2, fun q hq9 => by
        rcases List.mem_append.mp hq9 with h9 | h9
        · exact hS.2.2 q h9
        · exact hsub _ (hL q h9)⟩
    have hWn : WW g (AF X h0 s.heap.size) X hx T'.heap := by rw [e1]; exact hW1.sub hsub
    have k9 := vx_catch (p := p) (l := l) (e := e) (R := R) (s := s) (m := m) (args := args) (below := below) (meth := meth) (c := c) (H := T'.heap) (locs := locs ++ L) (cells := 0 + 1) (slots := 0 + 6) (Q := Q) (ls := ls) (rest := st) (pc := pc) (own := own) (name := E) (E := E) (ce := ce) (q := q9) C.2.2.2.2.1 pre x suf hsplit (fun z hz => (hpass z hz).imp id (fun w => ⟨w.1, w.2.choose, C.2.2.2.2.2.1 _ w.2.choose_spec.1, w.2.choose_spec.2⟩)) hcov hct (C.2.2.2.2.2.1 _ hlink) (va_Nw.use rfl (TT.2.2.2.2.1 E hE)) (by rw [e1]; exact hce) hcv hcl (kk q9 T'.heap (locs ++ L) ls hWn s1 hl)
    obtain ⟨t2, a1, b1⟩ := k9 T' rfl X'
    exact ⟨t2, go.trans a1, b1⟩
end GW9
set_option maxRecDepth 20000 in
set_option maxHeartbeats 4000000 in
theorem cwo_gap {l : Launch} {h : PH} {f : Nat → Int64} {x o : Nat} {p0 : Int32} {p1 : Int32} {r : (Int32 × PH)} (hf : f_X5_gap h x p0 p1 = some (.ok r)) : CW l yL_gap cL_gap 5 [(0, 10, 13, 13), (0, 10, 17, 15), (0, 10, 21, 17)] 8 134 [.ref (x), .int (p0), .int (p1), .ref (o)] o h f 0 r.2 (vp_updL f 0 (r.1).toInt64) := by
  refine CW.of (own := RL) rfl (by decide) (Nat.le_of_ble_eq_true rfl) ?_
  intro p e R s m args below meth c g hR C TT hN htab
  subst hR
  refine G.sub C [0, 1, 2, 3] (lv' := [(0, .ref (x)), (1, .int (p0)), (2, .int (p1)), (3, .ref (o))]) rfl ?_
  refine G.aload_n C 3 dL_gap_0 rfl rfl ?_
  refine G.iconst (v := 0) C dL_gap_1 (by decide) ?_
  refine G.aload_n C 0 dL_gap_2 rfl rfl ?_
  refine G.iload_n C 1 dL_gap_3 rfl rfl ?_
  refine G.iload_n C 2 dL_gap_4 rfl rfl ?_
  refine G.callXo C TT (st := [.int 0, .ref o]) (st2 := .int (r.1) :: [.int 0, .ref o]) (cx_X5_gap hf) rfl (ko_X5_gap hf) rfl m9_83 m9_84 m9_85 m9_2 m9_86 kd_X5_gap ⟨Nat.le_of_ble_eq_true rfl, Nat.le_of_ble_eq_true rfl⟩ (Nat.le_of_ble_eq_true rfl) rfl rfl dL_gap_5 ?_
  refine G.i2l C dL_gap_8 ?_
  refine G.lastX C dL_gap_9 ?_
  refine G.goto (tgt := 25) C dL_gap_10 (by decide) ?_
  refine G.iconst (v := 0) C dL_gap_25 (by decide) ?_
  exact G.iretW C ⟨Nat.le_of_ble_eq_true rfl, Nat.le_of_ble_eq_true rfl⟩ dL_gap_26
set_option maxRecDepth 20000 in
set_option maxHeartbeats 4000000 in
theorem cwe0_gap {l : Launch} {h : PH} {f : Nat → Int64} {x o : Nat} {p0 : Int32} {p1 : Int32} {hx : PH} (hf : f_X5_gap h x p0 p1 = some (.error (eIO, hx))) : CW l yL_gap cL_gap 5 [(0, 10, 13, 13), (0, 10, 17, 15), (0, 10, 21, 17)] 8 134 [.ref (x), .int (p0), .int (p1), .ref (o)] o h f 1 hx f := by
  refine CW.of (own := RL) rfl (by decide) (Nat.le_of_ble_eq_true rfl) ?_
  intro p e R s m args below meth c g hR C TT hN htab
  subst hR
  refine G.sub C [0, 1, 2, 3] (lv' := [(0, .ref (x)), (1, .int (p0)), (2, .int (p1)), (3, .ref (o))]) rfl ?_
  refine G.aload_n C 3 dL_gap_0 rfl rfl ?_
  refine G.iconst (v := 0) C dL_gap_1 (by decide) ?_
  refine G.aload_n C 0 dL_gap_2 rfl rfl ?_
  refine G.iload_n C 1 dL_gap_3 rfl rfl ?_
  refine G.iload_n C 2 dL_gap_4 rfl rfl ?_
  refine G.callXc C TT (st := [.int 0, .ref o]) (cx_X5_gap hf) rfl ⟨Nat.le_of_ble_eq_true rfl, Nat.le_of_ble_eq_true rfl⟩ (ko_X5_gap hf) rfl m9_83 m9_84 m9_85 m9_2 m9_86 kd_X5_gap ⟨Nat.le_of_ble_eq_true rfl, Nat.le_of_ble_eq_true rfl⟩ (Nat.le_of_ble_eq_true rfl) rfl dL_gap_5 [] ⟨0, 10, 13, 13⟩ [⟨0, 10, 17, 15⟩, ⟨0, 10, 21, 17⟩] htab (fun z hz => nomatch hz) (by decide) (by decide) m9_80 (by decide +kernel) (fun q9 => ?_)
  refine G.astore (lv' := [(4, .ref (q9)), (0, .ref (x)), (1, .int (p0)), (2, .int (p1)), (3, .ref (o))]) C dL_gap_13 (by decide) rfl ?_
  refine G.iconst (v := 1) C dL_gap_15 (by decide) ?_
  exact G.iretW C ⟨Nat.le_of_ble_eq_true rfl, Nat.le_of_ble_eq_true rfl⟩ dL_gap_16
set_option maxRecDepth 20000 in
set_option maxHeartbeats 4000000 in
theorem cwe1_gap {l : Launch} {h : PH} {f : Nat → Int64} {x o : Nat} {p0 : Int32} {p1 : Int32} {hx : PH} (hf : f_X5_gap h x p0 p1 = some (.error (eIA, hx))) : CW l yL_gap cL_gap 5 [(0, 10, 13, 13), (0, 10, 17, 15), (0, 10, 21, 17)] 8 134 [.ref (x), .int (p0), .int (p1), .ref (o)] o h f 2 hx f := by
  refine CW.of (own := RL) rfl (by decide) (Nat.le_of_ble_eq_true rfl) ?_
  intro p e R s m args below meth c g hR C TT hN htab
  subst hR
  refine G.sub C [0, 1, 2, 3] (lv' := [(0, .ref (x)), (1, .int (p0)), (2, .int (p1)), (3, .ref (o))]) rfl ?_
  refine G.aload_n C 3 dL_gap_0 rfl rfl ?_
  refine G.iconst (v := 0) C dL_gap_1 (by decide) ?_
  refine G.aload_n C 0 dL_gap_2 rfl rfl ?_
  refine G.iload_n C 1 dL_gap_3 rfl rfl ?_
  refine G.iload_n C 2 dL_gap_4 rfl rfl ?_
  refine G.callXc C TT (st := [.int 0, .ref o]) (cx_X5_gap hf) rfl ⟨Nat.le_of_ble_eq_true rfl, Nat.le_of_ble_eq_true rfl⟩ (ko_X5_gap hf) rfl m9_83 m9_84 m9_85 m9_2 m9_86 kd_X5_gap ⟨Nat.le_of_ble_eq_true rfl, Nat.le_of_ble_eq_true rfl⟩ (Nat.le_of_ble_eq_true rfl) rfl dL_gap_5 [⟨0, 10, 13, 13⟩] ⟨0, 10, 17, 15⟩ [⟨0, 10, 21, 17⟩] htab (fun z hz => by rw [List.mem_singleton.mp hz]; exact Or.inr ⟨by decide, eIO, m9_80, hN _ (by decide +kernel) _ (by decide +kernel) (by decide +kernel)⟩) (by decide) (by decide) m9_81 (by decide +kernel) (fun q9 => ?_)
  refine G.astore (lv' := [(4, .ref (q9)), (0, .ref (x)), (1, .int (p0)), (2, .int (p1)), (3, .ref (o))]) C dL_gap_17 (by decide) rfl ?_
  refine G.iconst (v := 2) C dL_gap_19 (by decide) ?_
  exact G.iretW C ⟨Nat.le_of_ble_eq_true rfl, Nat.le_of_ble_eq_true rfl⟩ dL_gap_20
set_option maxRecDepth 20000 in
set_option maxHeartbeats 4000000 in
theorem cwe2_gap {l : Launch} {h : PH} {f : Nat → Int64} {x o : Nat} {p0 : Int32} {p1 : Int32} {hx : PH} (hf : f_X5_gap h x p0 p1 = some (.error (eIS, hx))) : CW l yL_gap cL_gap 5 [(0, 10, 13, 13), (0, 10, 17, 15), (0, 10, 21, 17)] 8 134 [.ref (x), .int (p0), .int (p1), .ref (o)] o h f 3 hx f := by
  refine CW.of (own := RL) rfl (by decide) (Nat.le_of_ble_eq_true rfl) ?_
  intro p e R s m args below meth c g hR C TT hN htab
  subst hR
  refine G.sub C [0, 1, 2, 3] (lv' := [(0, .ref (x)), (1, .int (p0)), (2, .int (p1)), (3, .ref (o))]) rfl ?_
  refine G.aload_n C 3 dL_gap_0 rfl rfl ?_
  refine G.iconst (v := 0) C dL_gap_1 (by decide) ?_
  refine G.aload_n C 0 dL_gap_2 rfl rfl ?_
  refine G.iload_n C 1 dL_gap_3 rfl rfl ?_
  refine G.iload_n C 2 dL_gap_4 rfl rfl ?_
  refine G.callXc C TT (st := [.int 0, .ref o]) (cx_X5_gap hf) rfl ⟨Nat.le_of_ble_eq_true rfl, Nat.le_of_ble_eq_true rfl⟩ (ko_X5_gap hf) rfl m9_83 m9_84 m9_85 m9_2 m9_86 kd_X5_gap ⟨Nat.le_of_ble_eq_true rfl, Nat.le_of_ble_eq_true rfl⟩ (Nat.le_of_ble_eq_true rfl) rfl dL_gap_5 [⟨0, 10, 13, 13⟩, ⟨0, 10, 17, 15⟩] ⟨0, 10, 21, 17⟩ [] htab (fun z hz => by rcases List.mem_cons.mp hz with rfl | hz; exact Or.inr ⟨by decide, eIO, m9_80, hN _ (by decide +kernel) _ (by decide +kernel) (by decide +kernel)⟩; rw [List.mem_singleton.mp hz]; exact Or.inr ⟨by decide, eIA, m9_81, hN _ (by decide +kernel) _ (by decide +kernel) (by decide +kernel)⟩) (by decide) (by decide) m9_82 (by decide +kernel) (fun q9 => ?_)
  refine G.astore (lv' := [(4, .ref (q9)), (0, .ref (x)), (1, .int (p0)), (2, .int (p1)), (3, .ref (o))]) C dL_gap_21 (by decide) rfl ?_
  refine G.iconst (v := 3) C dL_gap_23 (by decide) ?_
  exact G.iretW C ⟨Nat.le_of_ble_eq_true rfl, Nat.le_of_ble_eq_true rfl⟩ dL_gap_24
set_option maxRecDepth 20000 in
set_option maxHeartbeats 4000000 in
theorem cwo_rope {l : Launch} {h : PH} {f : Nat → Int64} {x o : Nat} {p0 : Int32} {r : (Int32 × PH)} (hf : f_X5_rope h x p0 = some (.ok r)) : CW l yL_rope cL_rope 4 [(0, 9, 12, 15), (0, 9, 15, 17)] 8 132 [.ref (x), .int (p0), .ref (o)] o h f 0 r.2 (vp_updL f 0 (r.1).toInt64) := by
  refine CW.of (own := RL) rfl (by decide) (Nat.le_of_ble_eq_true rfl) ?_
  intro p e R s m args below meth c g hR C TT hN htab
  subst hR
  refine G.sub C [0, 1, 2] (lv' := [(0, .ref (x)), (1, .int (p0)), (2, .ref (o))]) rfl ?_
  refine G.aload_n C 2 dL_rope_0 rfl rfl ?_
  refine G.iconst (v := 0) C dL_rope_1 (by decide) ?_
  refine G.aload_n C 0 dL_rope_2 rfl rfl ?_
  refine G.iload_n C 1 dL_rope_3 rfl rfl ?_
  refine G.callXo C TT (st := [.int 0, .ref o]) (st2 := .int (r.1) :: [.int 0, .ref o]) (cx_X5_rope hf) rfl (ko_X5_rope hf) rfl m9_179 m9_180 m9_181 m9_2 m9_182 kd_X5_rope ⟨Nat.le_of_ble_eq_true rfl, Nat.le_of_ble_eq_true rfl⟩ (Nat.le_of_ble_eq_true rfl) rfl rfl dL_rope_4 ?_
  refine G.i2l C dL_rope_7 ?_
  refine G.lastX C dL_rope_8 ?_
  refine G.goto (tgt := 18) C dL_rope_9 (by decide) ?_
  refine G.iconst (v := 0) C dL_rope_18 (by decide) ?_
  exact G.iretW C ⟨Nat.le_of_ble_eq_true rfl, Nat.le_of_ble_eq_true rfl⟩ dL_rope_19
set_option maxRecDepth 20000 in
set_option maxHeartbeats 4000000 in
theorem cwe0_rope {l : Launch} {h : PH} {f : Nat → Int64} {x o : Nat} {p0 : Int32} {hx : PH} (hf : f_X5_rope h x p0 = some (.error (eIA, hx))) : CW l yL_rope cL_rope 4 [(0, 9, 12, 15), (0, 9, 15, 17)] 8 132 [.ref (x), .int (p0), .ref (o)] o h f 1 hx f := by
  refine CW.of (own := RL) rfl (by decide) (Nat.le_of_ble_eq_true rfl) ?_
  intro p e R s m args below meth c g hR C TT hN htab
  subst hR
  refine G.sub C [0, 1, 2] (lv' := [(0, .ref (x)), (1, .int (p0)), (2, .ref (o))]) rfl ?_
  refine G.aload_n C 2 dL_rope_0 rfl rfl ?_
  refine G.iconst (v := 0) C dL_rope_1 (by decide) ?_
  refine G.aload_n C 0 dL_rope_2 rfl rfl ?_
  refine G.iload_n C 1 dL_rope_3 rfl rfl ?_
  refine G.callXc C TT (st := [.int 0, .ref o]) (cx_X5_rope hf) rfl ⟨Nat.le_of_ble_eq_true rfl, Nat.le_of_ble_eq_true rfl⟩ (ko_X5_rope hf) rfl m9_179 m9_180 m9_181 m9_2 m9_182 kd_X5_rope ⟨Nat.le_of_ble_eq_true rfl, Nat.le_of_ble_eq_true rfl⟩ (Nat.le_of_ble_eq_true rfl) rfl dL_rope_4 [] ⟨0, 9, 12, 15⟩ [⟨0, 9, 15, 17⟩] htab (fun z hz => nomatch hz) (by decide) (by decide) m9_81 (by decide +kernel) (fun q9 => ?_)
  refine G.astore_n (lv' := [(3, .ref (q9)), (0, .ref (x)), (1, .int (p0)), (2, .ref (o))]) C dL_rope_12 rfl (by decide) rfl ?_
  refine G.iconst (v := 1) C dL_rope_13 (by decide) ?_
  exact G.iretW C ⟨Nat.le_of_ble_eq_true rfl, Nat.le_of_ble_eq_true rfl⟩ dL_rope_14
set_option maxRecDepth 20000 in
set_option maxHeartbeats 4000000 in
theorem cwe1_rope {l : Launch} {h : PH} {f : Nat → Int64} {x o : Nat} {p0 : Int32} {hx : PH} (hf : f_X5_rope h x p0 = some (.error (eIS, hx))) : CW l yL_rope cL_rope 4 [(0, 9, 12, 15), (0, 9, 15, 17)] 8 132 [.ref (x), .int (p0), .ref (o)] o h f 2 hx f := by
  refine CW.of (own := RL) rfl (by decide) (Nat.le_of_ble_eq_true rfl) ?_
  intro p e R s m args below meth c g hR C TT hN htab
  subst hR
  refine G.sub C [0, 1, 2] (lv' := [(0, .ref (x)), (1, .int (p0)), (2, .ref (o))]) rfl ?_
  refine G.aload_n C 2 dL_rope_0 rfl rfl ?_
  refine G.iconst (v := 0) C dL_rope_1 (by decide) ?_
  refine G.aload_n C 0 dL_rope_2 rfl rfl ?_
  refine G.iload_n C 1 dL_rope_3 rfl rfl ?_
  refine G.callXc C TT (st := [.int 0, .ref o]) (cx_X5_rope hf) rfl ⟨Nat.le_of_ble_eq_true rfl, Nat.le_of_ble_eq_true rfl⟩ (ko_X5_rope hf) rfl m9_179 m9_180 m9_181 m9_2 m9_182 kd_X5_rope ⟨Nat.le_of_ble_eq_true rfl, Nat.le_of_ble_eq_true rfl⟩ (Nat.le_of_ble_eq_true rfl) rfl dL_rope_4 [⟨0, 9, 12, 15⟩] ⟨0, 9, 15, 17⟩ [] htab (fun z hz => by rw [List.mem_singleton.mp hz]; exact Or.inr ⟨by decide, eIA, m9_81, hN _ (by decide +kernel) _ (by decide +kernel) (by decide +kernel)⟩) (by decide) (by decide) m9_82 (by decide +kernel) (fun q9 => ?_)
  refine G.astore_n (lv' := [(3, .ref (q9)), (0, .ref (x)), (1, .int (p0)), (2, .ref (o))]) C dL_rope_15 rfl (by decide) rfl ?_
  refine G.iconst (v := 2) C dL_rope_16 (by decide) ?_
  exact G.iretW C ⟨Nat.le_of_ble_eq_true rfl, Nat.le_of_ble_eq_true rfl⟩ dL_rope_17
set_option maxRecDepth 20000 in
set_option maxHeartbeats 4000000 in
theorem cwo_drop {l : Launch} {h : PH} {f : Nat → Int64} {x o : Nat} {p0 : Int32} {r : (Int32 × PH)} (hf : f_X5_drop h x p0 = some (.ok r)) : CW l yL_drop cL_drop 4 [(0, 9, 12, 13)] 8 133 [.ref (x), .int (p0), .ref (o)] o h f 0 r.2 (vp_updL f 0 (r.1).toInt64) := by
  refine CW.of (own := RL) rfl (by decide) (Nat.le_of_ble_eq_true rfl) ?_
  intro p e R s m args below meth c g hR C TT hN htab
  subst hR
  refine G.sub C [0, 1, 2] (lv' := [(0, .ref (x)), (1, .int (p0)), (2, .ref (o))]) rfl ?_
  refine G.aload_n C 2 dL_drop_0 rfl rfl ?_
  refine G.iconst (v := 0) C dL_drop_1 (by decide) ?_
  refine G.aload_n C 0 dL_drop_2 rfl rfl ?_
  refine G.iload_n C 1 dL_drop_3 rfl rfl ?_
  refine G.callXo C TT (st := [.int 0, .ref o]) (st2 := .int (r.1) :: [.int 0, .ref o]) (cx_X5_drop hf) rfl (ko_X5_drop hf) rfl m9_225 m9_226 m9_227 m9_2 m9_228 kd_X5_drop ⟨Nat.le_of_ble_eq_true rfl, Nat.le_of_ble_eq_true rfl⟩ (Nat.le_of_ble_eq_true rfl) rfl rfl dL_drop_4 ?_
  refine G.i2l C dL_drop_7 ?_
  refine G.lastX C dL_drop_8 ?_
  refine G.goto (tgt := 15) C dL_drop_9 (by decide) ?_
  refine G.iconst (v := 0) C dL_drop_15 (by decide) ?_
  exact G.iretW C ⟨Nat.le_of_ble_eq_true rfl, Nat.le_of_ble_eq_true rfl⟩ dL_drop_16
set_option maxRecDepth 20000 in
set_option maxHeartbeats 4000000 in
theorem cwe0_drop {l : Launch} {h : PH} {f : Nat → Int64} {x o : Nat} {p0 : Int32} {hx : PH} (hf : f_X5_drop h x p0 = some (.error (eIO, hx))) : CW l yL_drop cL_drop 4 [(0, 9, 12, 13)] 8 133 [.ref (x), .int (p0), .ref (o)] o h f 1 hx f := by
  refine CW.of (own := RL) rfl (by decide) (Nat.le_of_ble_eq_true rfl) ?_
  intro p e R s m args below meth c g hR C TT hN htab
  subst hR
  refine G.sub C [0, 1, 2] (lv' := [(0, .ref (x)), (1, .int (p0)), (2, .ref (o))]) rfl ?_
  refine G.aload_n C 2 dL_drop_0 rfl rfl ?_
  refine G.iconst (v := 0) C dL_drop_1 (by decide) ?_
  refine G.aload_n C 0 dL_drop_2 rfl rfl ?_
  refine G.iload_n C 1 dL_drop_3 rfl rfl ?_
  refine G.callXc C TT (st := [.int 0, .ref o]) (cx_X5_drop hf) rfl ⟨Nat.le_of_ble_eq_true rfl, Nat.le_of_ble_eq_true rfl⟩ (ko_X5_drop hf) rfl m9_225 m9_226 m9_227 m9_2 m9_228 kd_X5_drop ⟨Nat.le_of_ble_eq_true rfl, Nat.le_of_ble_eq_true rfl⟩ (Nat.le_of_ble_eq_true rfl) rfl dL_drop_4 [] ⟨0, 9, 12, 13⟩ [] htab (fun z hz => nomatch hz) (by decide) (by decide) m9_80 (by decide +kernel) (fun q9 => ?_)
  refine G.astore_n (lv' := [(3, .ref (q9)), (0, .ref (x)), (1, .int (p0)), (2, .ref (o))]) C dL_drop_12 rfl (by decide) rfl ?_
  refine G.iconst (v := 1) C dL_drop_13 (by decide) ?_
  exact G.iretW C ⟨Nat.le_of_ble_eq_true rfl, Nat.le_of_ble_eq_true rfl⟩ dL_drop_14
set_option maxRecDepth 20000 in
set_option maxHeartbeats 4000000 in
theorem cwo_lay {l : Launch} {h : PH} {f : Nat → Int64} {x o : Nat} {p0 : Int32} {p1 : Int32} {p2 : Int32} {r : (Int32 × PH)} (hf : f_X5_lay h x p0 p1 p2 = some (.ok r)) : CW l yL_lay cL_lay 6 [(0, 12, 15, 13), (0, 12, 19, 15), (0, 12, 23, 17)] 8 136 [.ref (x), .int (p0), .int (p1), .int (p2), .ref (o)] o h f 0 r.2 (vp_updL f 0 (r.1).toInt64) := by
  refine CW.of (own := RL) rfl (by decide) (Nat.le_of_ble_eq_true rfl) ?_
  intro p e R s m args below meth c g hR C TT hN htab
  subst hR
  refine G.sub C [0, 1, 2, 3, 4] (lv' := [(0, .ref (x)), (1, .int (p0)), (2, .int (p1)), (3, .int (p2)), (4, .ref (o))]) rfl ?_
  refine G.aload C 4 dL_lay_0 rfl ?_
  refine G.iconst (v := 0) C dL_lay_2 (by decide) ?_
  refine G.aload_n C 0 dL_lay_3 rfl rfl ?_
  refine G.iload_n C 1 dL_lay_4 rfl rfl ?_
  refine G.iload_n C 2 dL_lay_5 rfl rfl ?_
  refine G.iload_n C 3 dL_lay_6 rfl rfl ?_
  refine G.callXo C TT (st := [.int 0, .ref o]) (st2 := .int (r.1) :: [.int 0, .ref o]) (cx_X5_lay hf) rfl (ko_X5_lay hf) rfl m9_253 m9_254 m9_255 m9_2 m9_256 kd_X5_lay ⟨Nat.le_of_ble_eq_true rfl, Nat.le_of_ble_eq_true rfl⟩ (Nat.le_of_ble_eq_true rfl) rfl rfl dL_lay_7 ?_
  refine G.i2l C dL_lay_10 ?_
  refine G.lastX C dL_lay_11 ?_
  refine G.goto (tgt := 27) C dL_lay_12 (by decide) ?_
  refine G.iconst (v := 0) C dL_lay_27 (by decide) ?_
  exact G.iretW C ⟨Nat.le_of_ble_eq_true rfl, Nat.le_of_ble_eq_true rfl⟩ dL_lay_28
set_option maxRecDepth 20000 in
set_option maxHeartbeats 4000000 in
theorem cwe0_lay {l : Launch} {h : PH} {f : Nat → Int64} {x o : Nat} {p0 : Int32} {p1 : Int32} {p2 : Int32} {hx : PH} (hf : f_X5_lay h x p0 p1 p2 = some (.error (eIO, hx))) : CW l yL_lay cL_lay 6 [(0, 12, 15, 13), (0, 12, 19, 15), (0, 12, 23, 17)] 8 136 [.ref (x), .int (p0), .int (p1), .int (p2), .ref (o)] o h f 1 hx f := by
  refine CW.of (own := RL) rfl (by decide) (Nat.le_of_ble_eq_true rfl) ?_
  intro p e R s m args below meth c g hR C TT hN htab
  subst hR
  refine G.sub C [0, 1, 2, 3, 4] (lv' := [(0, .ref (x)), (1, .int (p0)), (2, .int (p1)), (3, .int (p2)), (4, .ref (o))]) rfl ?_
  refine G.aload C 4 dL_lay_0 rfl ?_
  refine G.iconst (v := 0) C dL_lay_2 (by decide) ?_
  refine G.aload_n C 0 dL_lay_3 rfl rfl ?_
  refine G.iload_n C 1 dL_lay_4 rfl rfl ?_
  refine G.iload_n C 2 dL_lay_5 rfl rfl ?_
  refine G.iload_n C 3 dL_lay_6 rfl rfl ?_
  refine G.callXc C TT (st := [.int 0, .ref o]) (cx_X5_lay hf) rfl ⟨Nat.le_of_ble_eq_true rfl, Nat.le_of_ble_eq_true rfl⟩ (ko_X5_lay hf) rfl m9_253 m9_254 m9_255 m9_2 m9_256 kd_X5_lay ⟨Nat.le_of_ble_eq_true rfl, Nat.le_of_ble_eq_true rfl⟩ (Nat.le_of_ble_eq_true rfl) rfl dL_lay_7 [] ⟨0, 12, 15, 13⟩ [⟨0, 12, 19, 15⟩, ⟨0, 12, 23, 17⟩] htab (fun z hz => nomatch hz) (by decide) (by decide) m9_80 (by decide +kernel) (fun q9 => ?_)
  refine G.astore (lv' := [(5, .ref (q9)), (0, .ref (x)), (1, .int (p0)), (2, .int (p1)), (3, .int (p2)), (4, .ref (o))]) C dL_lay_15 (by decide) rfl ?_
  refine G.iconst (v := 1) C dL_lay_17 (by decide) ?_
  exact G.iretW C ⟨Nat.le_of_ble_eq_true rfl, Nat.le_of_ble_eq_true rfl⟩ dL_lay_18
set_option maxRecDepth 20000 in
set_option maxHeartbeats 4000000 in
theorem cwe1_lay {l : Launch} {h : PH} {f : Nat → Int64} {x o : Nat} {p0 : Int32} {p1 : Int32} {p2 : Int32} {hx : PH} (hf : f_X5_lay h x p0 p1 p2 = some (.error (eIA, hx))) : CW l yL_lay cL_lay 6 [(0, 12, 15, 13), (0, 12, 19, 15), (0, 12, 23, 17)] 8 136 [.ref (x), .int (p0), .int (p1), .int (p2), .ref (o)] o h f 2 hx f := by
  refine CW.of (own := RL) rfl (by decide) (Nat.le_of_ble_eq_true rfl) ?_
  intro p e R s m args below meth c g hR C TT hN htab
  subst hR
  refine G.sub C [0, 1, 2, 3, 4] (lv' := [(0, .ref (x)), (1, .int (p0)), (2, .int (p1)), (3, .int (p2)), (4, .ref (o))]) rfl ?_
  refine G.aload C 4 dL_lay_0 rfl ?_
  refine G.iconst (v := 0) C dL_lay_2 (by decide) ?_
  refine G.aload_n C 0 dL_lay_3 rfl rfl ?_
  refine G.iload_n C 1 dL_lay_4 rfl rfl ?_
  refine G.iload_n C 2 dL_lay_5 rfl rfl ?_
  refine G.iload_n C 3 dL_lay_6 rfl rfl ?_
  refine G.callXc C TT (st := [.int 0, .ref o]) (cx_X5_lay hf) rfl ⟨Nat.le_of_ble_eq_true rfl, Nat.le_of_ble_eq_true rfl⟩ (ko_X5_lay hf) rfl m9_253 m9_254 m9_255 m9_2 m9_256 kd_X5_lay ⟨Nat.le_of_ble_eq_true rfl, Nat.le_of_ble_eq_true rfl⟩ (Nat.le_of_ble_eq_true rfl) rfl dL_lay_7 [⟨0, 12, 15, 13⟩] ⟨0, 12, 19, 15⟩ [⟨0, 12, 23, 17⟩] htab (fun z hz => by rw [List.mem_singleton.mp hz]; exact Or.inr ⟨by decide, eIO, m9_80, hN _ (by decide +kernel) _ (by decide +kernel) (by decide +kernel)⟩) (by decide) (by decide) m9_81 (by decide +kernel) (fun q9 => ?_)
  refine G.astore (lv' := [(5, .ref (q9)), (0, .ref (x)), (1, .int (p0)), (2, .int (p1)), (3, .int (p2)), (4, .ref (o))]) C dL_lay_19 (by decide) rfl ?_
  refine G.iconst (v := 2) C dL_lay_21 (by decide) ?_
  exact G.iretW C ⟨Nat.le_of_ble_eq_true rfl, Nat.le_of_ble_eq_true rfl⟩ dL_lay_22
set_option maxRecDepth 20000 in
set_option maxHeartbeats 4000000 in
theorem cwe2_lay {l : Launch} {h : PH} {f : Nat → Int64} {x o : Nat} {p0 : Int32} {p1 : Int32} {p2 : Int32} {hx : PH} (hf : f_X5_lay h x p0 p1 p2 = some (.error (eIS, hx))) : CW l yL_lay cL_lay 6 [(0, 12, 15, 13), (0, 12, 19, 15), (0, 12, 23, 17)] 8 136 [.ref (x), .int (p0), .int (p1), .int (p2), .ref (o)] o h f 3 hx f := by
  refine CW.of (own := RL) rfl (by decide) (Nat.le_of_ble_eq_true rfl) ?_
  intro p e R s m args below meth c g hR C TT hN htab
  subst hR
  refine G.sub C [0, 1, 2, 3, 4] (lv' := [(0, .ref (x)), (1, .int (p0)), (2, .int (p1)), (3, .int (p2)), (4, .ref (o))]) rfl ?_
  refine G.aload C 4 dL_lay_0 rfl ?_
  refine G.iconst (v := 0) C dL_lay_2 (by decide) ?_
  refine G.aload_n C 0 dL_lay_3 rfl rfl ?_
  refine G.iload_n C 1 dL_lay_4 rfl rfl ?_
  refine G.iload_n C 2 dL_lay_5 rfl rfl ?_
  refine G.iload_n C 3 dL_lay_6 rfl rfl ?_
  refine G.callXc C TT (st := [.int 0, .ref o]) (cx_X5_lay hf) rfl ⟨Nat.le_of_ble_eq_true rfl, Nat.le_of_ble_eq_true rfl⟩ (ko_X5_lay hf) rfl m9_253 m9_254 m9_255 m9_2 m9_256 kd_X5_lay ⟨Nat.le_of_ble_eq_true rfl, Nat.le_of_ble_eq_true rfl⟩ (Nat.le_of_ble_eq_true rfl) rfl dL_lay_7 [⟨0, 12, 15, 13⟩, ⟨0, 12, 19, 15⟩] ⟨0, 12, 23, 17⟩ [] htab (fun z hz => by rcases List.mem_cons.mp hz with rfl | hz; exact Or.inr ⟨by decide, eIO, m9_80, hN _ (by decide +kernel) _ (by decide +kernel) (by decide +kernel)⟩; rw [List.mem_singleton.mp hz]; exact Or.inr ⟨by decide, eIA, m9_81, hN _ (by decide +kernel) _ (by decide +kernel) (by decide +kernel)⟩) (by decide) (by decide) m9_82 (by decide +kernel) (fun q9 => ?_)
  refine G.astore (lv' := [(5, .ref (q9)), (0, .ref (x)), (1, .int (p0)), (2, .int (p1)), (3, .int (p2)), (4, .ref (o))]) C dL_lay_23 (by decide) rfl ?_
  refine G.iconst (v := 3) C dL_lay_25 (by decide) ?_
  exact G.iretW C ⟨Nat.le_of_ble_eq_true rfl, Nat.le_of_ble_eq_true rfl⟩ dL_lay_26
set_option maxRecDepth 20000 in
set_option maxHeartbeats 4000000 in
theorem cwo_take {l : Launch} {h : PH} {f : Nat → Int64} {x o : Nat} {p0 : Int32} {p1 : Int32} {r : (Int32 × PH)} (hf : f_X5_take h x p0 p1 = some (.ok r)) : CW l yL_take cL_take 5 [(0, 10, 13, 13), (0, 10, 17, 17)] 8 135 [.ref (x), .int (p0), .int (p1), .ref (o)] o h f 0 r.2 (vp_updL f 0 (r.1).toInt64) := by
  refine CW.of (own := RL) rfl (by decide) (Nat.le_of_ble_eq_true rfl) ?_
  intro p e R s m args below meth c g hR C TT hN htab
  subst hR
  refine G.sub C [0, 1, 2, 3] (lv' := [(0, .ref (x)), (1, .int (p0)), (2, .int (p1)), (3, .ref (o))]) rfl ?_
  refine G.aload_n C 3 dL_take_0 rfl rfl ?_
  refine G.iconst (v := 0) C dL_take_1 (by decide) ?_
  refine G.aload_n C 0 dL_take_2 rfl rfl ?_
  refine G.iload_n C 1 dL_take_3 rfl rfl ?_
  refine G.iload_n C 2 dL_take_4 rfl rfl ?_
  refine G.callXo C TT (st := [.int 0, .ref o]) (st2 := .int (r.1) :: [.int 0, .ref o]) (cx_X5_take hf) rfl (ko_X5_take hf) rfl m9_318 m9_319 m9_320 m9_2 m9_321 kd_X5_take ⟨Nat.le_of_ble_eq_true rfl, Nat.le_of_ble_eq_true rfl⟩ (Nat.le_of_ble_eq_true rfl) rfl rfl dL_take_5 ?_
  refine G.i2l C dL_take_8 ?_
  refine G.lastX C dL_take_9 ?_
  refine G.goto (tgt := 21) C dL_take_10 (by decide) ?_
  refine G.iconst (v := 0) C dL_take_21 (by decide) ?_
  exact G.iretW C ⟨Nat.le_of_ble_eq_true rfl, Nat.le_of_ble_eq_true rfl⟩ dL_take_22
set_option maxRecDepth 20000 in
set_option maxHeartbeats 4000000 in
theorem cwe0_take {l : Launch} {h : PH} {f : Nat → Int64} {x o : Nat} {p0 : Int32} {p1 : Int32} {hx : PH} (hf : f_X5_take h x p0 p1 = some (.error (eIO, hx))) : CW l yL_take cL_take 5 [(0, 10, 13, 13), (0, 10, 17, 17)] 8 135 [.ref (x), .int (p0), .int (p1), .ref (o)] o h f 1 hx f := by
  refine CW.of (own := RL) rfl (by decide) (Nat.le_of_ble_eq_true rfl) ?_
  intro p e R s m args below meth c g hR C TT hN htab
  subst hR
  refine G.sub C [0, 1, 2, 3] (lv' := [(0, .ref (x)), (1, .int (p0)), (2, .int (p1)), (3, .ref (o))]) rfl ?_
  refine G.aload_n C 3 dL_take_0 rfl rfl ?_
  refine G.iconst (v := 0) C dL_take_1 (by decide) ?_
  refine G.aload_n C 0 dL_take_2 rfl rfl ?_
  refine G.iload_n C 1 dL_take_3 rfl rfl ?_
  refine G.iload_n C 2 dL_take_4 rfl rfl ?_
  refine G.callXc C TT (st := [.int 0, .ref o]) (cx_X5_take hf) rfl ⟨Nat.le_of_ble_eq_true rfl, Nat.le_of_ble_eq_true rfl⟩ (ko_X5_take hf) rfl m9_318 m9_319 m9_320 m9_2 m9_321 kd_X5_take ⟨Nat.le_of_ble_eq_true rfl, Nat.le_of_ble_eq_true rfl⟩ (Nat.le_of_ble_eq_true rfl) rfl dL_take_5 [] ⟨0, 10, 13, 13⟩ [⟨0, 10, 17, 17⟩] htab (fun z hz => nomatch hz) (by decide) (by decide) m9_80 (by decide +kernel) (fun q9 => ?_)
  refine G.astore (lv' := [(4, .ref (q9)), (0, .ref (x)), (1, .int (p0)), (2, .int (p1)), (3, .ref (o))]) C dL_take_13 (by decide) rfl ?_
  refine G.iconst (v := 1) C dL_take_15 (by decide) ?_
  exact G.iretW C ⟨Nat.le_of_ble_eq_true rfl, Nat.le_of_ble_eq_true rfl⟩ dL_take_16
set_option maxRecDepth 20000 in
set_option maxHeartbeats 4000000 in
theorem cwe1_take {l : Launch} {h : PH} {f : Nat → Int64} {x o : Nat} {p0 : Int32} {p1 : Int32} {hx : PH} (hf : f_X5_take h x p0 p1 = some (.error (eIS, hx))) : CW l yL_take cL_take 5 [(0, 10, 13, 13), (0, 10, 17, 17)] 8 135 [.ref (x), .int (p0), .int (p1), .ref (o)] o h f 2 hx f := by
  refine CW.of (own := RL) rfl (by decide) (Nat.le_of_ble_eq_true rfl) ?_
  intro p e R s m args below meth c g hR C TT hN htab
  subst hR
  refine G.sub C [0, 1, 2, 3] (lv' := [(0, .ref (x)), (1, .int (p0)), (2, .int (p1)), (3, .ref (o))]) rfl ?_
  refine G.aload_n C 3 dL_take_0 rfl rfl ?_
  refine G.iconst (v := 0) C dL_take_1 (by decide) ?_
  refine G.aload_n C 0 dL_take_2 rfl rfl ?_
  refine G.iload_n C 1 dL_take_3 rfl rfl ?_
  refine G.iload_n C 2 dL_take_4 rfl rfl ?_
  refine G.callXc C TT (st := [.int 0, .ref o]) (cx_X5_take hf) rfl ⟨Nat.le_of_ble_eq_true rfl, Nat.le_of_ble_eq_true rfl⟩ (ko_X5_take hf) rfl m9_318 m9_319 m9_320 m9_2 m9_321 kd_X5_take ⟨Nat.le_of_ble_eq_true rfl, Nat.le_of_ble_eq_true rfl⟩ (Nat.le_of_ble_eq_true rfl) rfl dL_take_5 [⟨0, 10, 13, 13⟩] ⟨0, 10, 17, 17⟩ [] htab (fun z hz => by rw [List.mem_singleton.mp hz]; exact Or.inr ⟨by decide, eIO, m9_80, hN _ (by decide +kernel) _ (by decide +kernel) (by decide +kernel)⟩) (by decide) (by decide) m9_82 (by decide +kernel) (fun q9 => ?_)
  refine G.astore (lv' := [(4, .ref (q9)), (0, .ref (x)), (1, .int (p0)), (2, .int (p1)), (3, .ref (o))]) C dL_take_17 (by decide) rfl ?_
  refine G.iconst (v := 2) C dL_take_19 (by decide) ?_
  exact G.iretW C ⟨Nat.le_of_ble_eq_true rfl, Nat.le_of_ble_eq_true rfl⟩ dL_take_20
set_option maxRecDepth 20000 in
set_option maxHeartbeats 4000000 in
theorem cwo_stretch {l : Launch} {h : PH} {f : Nat → Int64} {x o : Nat} {p0 : Int32} {p1 : Int32} {r : (Int32 × PH)} (hf : f_X5_stretch h x p0 p1 = some (.ok r)) : CW l yL_stretch cL_stretch 5 [(0, 10, 13, 13), (0, 10, 17, 15), (0, 10, 21, 17)] 8 136 [.ref (x), .int (p0), .int (p1), .ref (o)] o h f 0 r.2 (vp_updL f 0 (r.1).toInt64) := by
  refine CW.of (own := RL) rfl (by decide) (Nat.le_of_ble_eq_true rfl) ?_
  intro p e R s m args below meth c g hR C TT hN htab
  subst hR
  refine G.sub C [0, 1, 2, 3] (lv' := [(0, .ref (x)), (1, .int (p0)), (2, .int (p1)), (3, .ref (o))]) rfl ?_
  refine G.aload_n C 3 dL_stretch_0 rfl rfl ?_
  refine G.iconst (v := 0) C dL_stretch_1 (by decide) ?_
  refine G.aload_n C 0 dL_stretch_2 rfl rfl ?_
  refine G.iload_n C 1 dL_stretch_3 rfl rfl ?_
  refine G.iload_n C 2 dL_stretch_4 rfl rfl ?_
  refine G.callXo C TT (st := [.int 0, .ref o]) (st2 := .int (r.1) :: [.int 0, .ref o]) (cx_X5_stretch hf) rfl (ko_X5_stretch hf) rfl m9_346 m9_347 m9_348 m9_2 m9_349 kd_X5_stretch ⟨Nat.le_of_ble_eq_true rfl, Nat.le_of_ble_eq_true rfl⟩ (Nat.le_of_ble_eq_true rfl) rfl rfl dL_stretch_5 ?_
  refine G.i2l C dL_stretch_8 ?_
  refine G.lastX C dL_stretch_9 ?_
  refine G.goto (tgt := 25) C dL_stretch_10 (by decide) ?_
  refine G.iconst (v := 0) C dL_stretch_25 (by decide) ?_
  exact G.iretW C ⟨Nat.le_of_ble_eq_true rfl, Nat.le_of_ble_eq_true rfl⟩ dL_stretch_26
set_option maxRecDepth 20000 in
set_option maxHeartbeats 4000000 in
theorem cwe0_stretch {l : Launch} {h : PH} {f : Nat → Int64} {x o : Nat} {p0 : Int32} {p1 : Int32} {hx : PH} (hf : f_X5_stretch h x p0 p1 = some (.error (eIO, hx))) : CW l yL_stretch cL_stretch 5 [(0, 10, 13, 13), (0, 10, 17, 15), (0, 10, 21, 17)] 8 136 [.ref (x), .int (p0), .int (p1), .ref (o)] o h f 1 hx f := by
  refine CW.of (own := RL) rfl (by decide) (Nat.le_of_ble_eq_true rfl) ?_
  intro p e R s m args below meth c g hR C TT hN htab
  subst hR
  refine G.sub C [0, 1, 2, 3] (lv' := [(0, .ref (x)), (1, .int (p0)), (2, .int (p1)), (3, .ref (o))]) rfl ?_
  refine G.aload_n C 3 dL_stretch_0 rfl rfl ?_
  refine G.iconst (v := 0) C dL_stretch_1 (by decide) ?_
  refine G.aload_n C 0 dL_stretch_2 rfl rfl ?_
  refine G.iload_n C 1 dL_stretch_3 rfl rfl ?_
  refine G.iload_n C 2 dL_stretch_4 rfl rfl ?_
  refine G.callXc C TT (st := [.int 0, .ref o]) (cx_X5_stretch hf) rfl ⟨Nat.le_of_ble_eq_true rfl, Nat.le_of_ble_eq_true rfl⟩ (ko_X5_stretch hf) rfl m9_346 m9_347 m9_348 m9_2 m9_349 kd_X5_stretch ⟨Nat.le_of_ble_eq_true rfl, Nat.le_of_ble_eq_true rfl⟩ (Nat.le_of_ble_eq_true rfl) rfl dL_stretch_5 [] ⟨0, 10, 13, 13⟩ [⟨0, 10, 17, 15⟩, ⟨0, 10, 21, 17⟩] htab (fun z hz => nomatch hz) (by decide) (by decide) m9_80 (by decide +kernel) (fun q9 => ?_)
  refine G.astore (lv' := [(4, .ref (q9)), (0, .ref (x)), (1, .int (p0)), (2, .int (p1)), (3, .ref (o))]) C dL_stretch_13 (by decide) rfl ?_
  refine G.iconst (v := 1) C dL_stretch_15 (by decide) ?_
  exact G.iretW C ⟨Nat.le_of_ble_eq_true rfl, Nat.le_of_ble_eq_true rfl⟩ dL_stretch_16
set_option maxRecDepth 20000 in
set_option maxHeartbeats 4000000 in
theorem cwe1_stretch {l : Launch} {h : PH} {f : Nat → Int64} {x o : Nat} {p0 : Int32} {p1 : Int32} {hx : PH} (hf : f_X5_stretch h x p0 p1 = some (.error (eIA, hx))) : CW l yL_stretch cL_stretch 5 [(0, 10, 13, 13), (0, 10, 17, 15), (0, 10, 21, 17)] 8 136 [.ref (x), .int (p0), .int (p1), .ref (o)] o h f 2 hx f := by
  refine CW.of (own := RL) rfl (by decide) (Nat.le_of_ble_eq_true rfl) ?_
  intro p e R s m args below meth c g hR C TT hN htab
  subst hR
  refine G.sub C [0, 1, 2, 3] (lv' := [(0, .ref (x)), (1, .int (p0)), (2, .int (p1)), (3, .ref (o))]) rfl ?_
  refine G.aload_n C 3 dL_stretch_0 rfl rfl ?_
  refine G.iconst (v := 0) C dL_stretch_1 (by decide) ?_
  refine G.aload_n C 0 dL_stretch_2 rfl rfl ?_
  refine G.iload_n C 1 dL_stretch_3 rfl rfl ?_
  refine G.iload_n C 2 dL_stretch_4 rfl rfl ?_
  refine G.callXc C TT (st := [.int 0, .ref o]) (cx_X5_stretch hf) rfl ⟨Nat.le_of_ble_eq_true rfl, Nat.le_of_ble_eq_true rfl⟩ (ko_X5_stretch hf) rfl m9_346 m9_347 m9_348 m9_2 m9_349 kd_X5_stretch ⟨Nat.le_of_ble_eq_true rfl, Nat.le_of_ble_eq_true rfl⟩ (Nat.le_of_ble_eq_true rfl) rfl dL_stretch_5 [⟨0, 10, 13, 13⟩] ⟨0, 10, 17, 15⟩ [⟨0, 10, 21, 17⟩] htab (fun z hz => by rw [List.mem_singleton.mp hz]; exact Or.inr ⟨by decide, eIO, m9_80, hN _ (by decide +kernel) _ (by decide +kernel) (by decide +kernel)⟩) (by decide) (by decide) m9_81 (by decide +kernel) (fun q9 => ?_)
  refine G.astore (lv' := [(4, .ref (q9)), (0, .ref (x)), (1, .int (p0)), (2, .int (p1)), (3, .ref (o))]) C dL_stretch_17 (by decide) rfl ?_
  refine G.iconst (v := 2) C dL_stretch_19 (by decide) ?_
  exact G.iretW C ⟨Nat.le_of_ble_eq_true rfl, Nat.le_of_ble_eq_true rfl⟩ dL_stretch_20
set_option maxRecDepth 20000 in
set_option maxHeartbeats 4000000 in
theorem cwe2_stretch {l : Launch} {h : PH} {f : Nat → Int64} {x o : Nat} {p0 : Int32} {p1 : Int32} {hx : PH} (hf : f_X5_stretch h x p0 p1 = some (.error (eIS, hx))) : CW l yL_stretch cL_stretch 5 [(0, 10, 13, 13), (0, 10, 17, 15), (0, 10, 21, 17)] 8 136 [.ref (x), .int (p0), .int (p1), .ref (o)] o h f 3 hx f := by
  refine CW.of (own := RL) rfl (by decide) (Nat.le_of_ble_eq_true rfl) ?_
  intro p e R s m args below meth c g hR C TT hN htab
  subst hR
  refine G.sub C [0, 1, 2, 3] (lv' := [(0, .ref (x)), (1, .int (p0)), (2, .int (p1)), (3, .ref (o))]) rfl ?_
  refine G.aload_n C 3 dL_stretch_0 rfl rfl ?_
  refine G.iconst (v := 0) C dL_stretch_1 (by decide) ?_
  refine G.aload_n C 0 dL_stretch_2 rfl rfl ?_
  refine G.iload_n C 1 dL_stretch_3 rfl rfl ?_
  refine G.iload_n C 2 dL_stretch_4 rfl rfl ?_
  refine G.callXc C TT (st := [.int 0, .ref o]) (cx_X5_stretch hf) rfl ⟨Nat.le_of_ble_eq_true rfl, Nat.le_of_ble_eq_true rfl⟩ (ko_X5_stretch hf) rfl m9_346 m9_347 m9_348 m9_2 m9_349 kd_X5_stretch ⟨Nat.le_of_ble_eq_true rfl, Nat.le_of_ble_eq_true rfl⟩ (Nat.le_of_ble_eq_true rfl) rfl dL_stretch_5 [⟨0, 10, 13, 13⟩, ⟨0, 10, 17, 15⟩] ⟨0, 10, 21, 17⟩ [] htab (fun z hz => by rcases List.mem_cons.mp hz with rfl | hz; exact Or.inr ⟨by decide, eIO, m9_80, hN _ (by decide +kernel) _ (by decide +kernel) (by decide +kernel)⟩; rw [List.mem_singleton.mp hz]; exact Or.inr ⟨by decide, eIA, m9_81, hN _ (by decide +kernel) _ (by decide +kernel) (by decide +kernel)⟩) (by decide) (by decide) m9_82 (by decide +kernel) (fun q9 => ?_)
  refine G.astore (lv' := [(4, .ref (q9)), (0, .ref (x)), (1, .int (p0)), (2, .int (p1)), (3, .ref (o))]) C dL_stretch_21 (by decide) rfl ?_
  refine G.iconst (v := 3) C dL_stretch_23 (by decide) ?_
  exact G.iretW C ⟨Nat.le_of_ble_eq_true rfl, Nat.le_of_ble_eq_true rfl⟩ dL_stretch_24
set_option maxRecDepth 20000 in
set_option maxHeartbeats 4000000 in
theorem cwo_cut {l : Launch} {h : PH} {f : Nat → Int64} {x o : Nat} {p0 : Int32} {p1 : Int32} {r : (Int32 × PH)} (hf : f_X5_cut h x p0 p1 = some (.ok r)) : CW l yL_cut cL_cut 5 [(0, 10, 13, 13), (0, 10, 17, 15), (0, 10, 21, 17)] 8 136 [.ref (x), .int (p0), .int (p1), .ref (o)] o h f 0 r.2 (vp_updL f 0 (r.1).toInt64) := by
  refine CW.of (own := RL) rfl (by decide) (Nat.le_of_ble_eq_true rfl) ?_
  intro p e R s m args below meth c g hR C TT hN htab
  subst hR
  refine G.sub C [0, 1, 2, 3] (lv' := [(0, .ref (x)), (1, .int (p0)), (2, .int (p1)), (3, .ref (o))]) rfl ?_
  refine G.aload_n C 3 dL_cut_0 rfl rfl ?_
  refine G.iconst (v := 0) C dL_cut_1 (by decide) ?_
  refine G.aload_n C 0 dL_cut_2 rfl rfl ?_
  refine G.iload_n C 1 dL_cut_3 rfl rfl ?_
  refine G.iload_n C 2 dL_cut_4 rfl rfl ?_
  refine G.callXo C TT (st := [.int 0, .ref o]) (st2 := .int (r.1) :: [.int 0, .ref o]) (cx_X5_cut hf) rfl (ko_X5_cut hf) rfl m9_404 m9_405 m9_406 m9_2 m9_407 kd_X5_cut ⟨Nat.le_of_ble_eq_true rfl, Nat.le_of_ble_eq_true rfl⟩ (Nat.le_of_ble_eq_true rfl) rfl rfl dL_cut_5 ?_
  refine G.i2l C dL_cut_8 ?_
  refine G.lastX C dL_cut_9 ?_
  refine G.goto (tgt := 25) C dL_cut_10 (by decide) ?_
  refine G.iconst (v := 0) C dL_cut_25 (by decide) ?_
  exact G.iretW C ⟨Nat.le_of_ble_eq_true rfl, Nat.le_of_ble_eq_true rfl⟩ dL_cut_26
set_option maxRecDepth 20000 in
set_option maxHeartbeats 4000000 in
theorem cwe0_cut {l : Launch} {h : PH} {f : Nat → Int64} {x o : Nat} {p0 : Int32} {p1 : Int32} {hx : PH} (hf : f_X5_cut h x p0 p1 = some (.error (eIO, hx))) : CW l yL_cut cL_cut 5 [(0, 10, 13, 13), (0, 10, 17, 15), (0, 10, 21, 17)] 8 136 [.ref (x), .int (p0), .int (p1), .ref (o)] o h f 1 hx f := by
  refine CW.of (own := RL) rfl (by decide) (Nat.le_of_ble_eq_true rfl) ?_
  intro p e R s m args below meth c g hR C TT hN htab
  subst hR
  refine G.sub C [0, 1, 2, 3] (lv' := [(0, .ref (x)), (1, .int (p0)), (2, .int (p1)), (3, .ref (o))]) rfl ?_
  refine G.aload_n C 3 dL_cut_0 rfl rfl ?_
  refine G.iconst (v := 0) C dL_cut_1 (by decide) ?_
  refine G.aload_n C 0 dL_cut_2 rfl rfl ?_
  refine G.iload_n C 1 dL_cut_3 rfl rfl ?_
  refine G.iload_n C 2 dL_cut_4 rfl rfl ?_
  refine G.callXc C TT (st := [.int 0, .ref o]) (cx_X5_cut hf) rfl ⟨Nat.le_of_ble_eq_true rfl, Nat.le_of_ble_eq_true rfl⟩ (ko_X5_cut hf) rfl m9_404 m9_405 m9_406 m9_2 m9_407 kd_X5_cut ⟨Nat.le_of_ble_eq_true rfl, Nat.le_of_ble_eq_true rfl⟩ (Nat.le_of_ble_eq_true rfl) rfl dL_cut_5 [] ⟨0, 10, 13, 13⟩ [⟨0, 10, 17, 15⟩, ⟨0, 10, 21, 17⟩] htab (fun z hz => nomatch hz) (by decide) (by decide) m9_80 (by decide +kernel) (fun q9 => ?_)
  refine G.astore (lv' := [(4, .ref (q9)), (0, .ref (x)), (1, .int (p0)), (2, .int (p1)), (3, .ref (o))]) C dL_cut_13 (by decide) rfl ?_
  refine G.iconst (v := 1) C dL_cut_15 (by decide) ?_
  exact G.iretW C ⟨Nat.le_of_ble_eq_true rfl, Nat.le_of_ble_eq_true rfl⟩ dL_cut_16
set_option maxRecDepth 20000 in
set_option maxHeartbeats 4000000 in
theorem cwe1_cut {l : Launch} {h : PH} {f : Nat → Int64} {x o : Nat} {p0 : Int32} {p1 : Int32} {hx : PH} (hf : f_X5_cut h x p0 p1 = some (.error (eIA, hx))) : CW l yL_cut cL_cut 5 [(0, 10, 13, 13), (0, 10, 17, 15), (0, 10, 21, 17)] 8 136 [.ref (x), .int (p0), .int (p1), .ref (o)] o h f 2 hx f := by
  refine CW.of (own := RL) rfl (by decide) (Nat.le_of_ble_eq_true rfl) ?_
  intro p e R s m args below meth c g hR C TT hN htab
  subst hR
  refine G.sub C [0, 1, 2, 3] (lv' := [(0, .ref (x)), (1, .int (p0)), (2, .int (p1)), (3, .ref (o))]) rfl ?_
  refine G.aload_n C 3 dL_cut_0 rfl rfl ?_
  refine G.iconst (v := 0) C dL_cut_1 (by decide) ?_
  refine G.aload_n C 0 dL_cut_2 rfl rfl ?_
  refine G.iload_n C 1 dL_cut_3 rfl rfl ?_
  refine G.iload_n C 2 dL_cut_4 rfl rfl ?_
  refine G.callXc C TT (st := [.int 0, .ref o]) (cx_X5_cut hf) rfl ⟨Nat.le_of_ble_eq_true rfl, Nat.le_of_ble_eq_true rfl⟩ (ko_X5_cut hf) rfl m9_404 m9_405 m9_406 m9_2 m9_407 kd_X5_cut ⟨Nat.le_of_ble_eq_true rfl, Nat.le_of_ble_eq_true rfl⟩ (Nat.le_of_ble_eq_true rfl) rfl dL_cut_5 [⟨0, 10, 13, 13⟩] ⟨0, 10, 17, 15⟩ [⟨0, 10, 21, 17⟩] htab (fun z hz => by rw [List.mem_singleton.mp hz]; exact Or.inr ⟨by decide, eIO, m9_80, hN _ (by decide +kernel) _ (by decide +kernel) (by decide +kernel)⟩) (by decide) (by decide) m9_81 (by decide +kernel) (fun q9 => ?_)
  refine G.astore (lv' := [(4, .ref (q9)), (0, .ref (x)), (1, .int (p0)), (2, .int (p1)), (3, .ref (o))]) C dL_cut_17 (by decide) rfl ?_
  refine G.iconst (v := 2) C dL_cut_19 (by decide) ?_
  exact G.iretW C ⟨Nat.le_of_ble_eq_true rfl, Nat.le_of_ble_eq_true rfl⟩ dL_cut_20
set_option maxRecDepth 20000 in
set_option maxHeartbeats 4000000 in
theorem cwe2_cut {l : Launch} {h : PH} {f : Nat → Int64} {x o : Nat} {p0 : Int32} {p1 : Int32} {hx : PH} (hf : f_X5_cut h x p0 p1 = some (.error (eIS, hx))) : CW l yL_cut cL_cut 5 [(0, 10, 13, 13), (0, 10, 17, 15), (0, 10, 21, 17)] 8 136 [.ref (x), .int (p0), .int (p1), .ref (o)] o h f 3 hx f := by
  refine CW.of (own := RL) rfl (by decide) (Nat.le_of_ble_eq_true rfl) ?_
  intro p e R s m args below meth c g hR C TT hN htab
  subst hR
  refine G.sub C [0, 1, 2, 3] (lv' := [(0, .ref (x)), (1, .int (p0)), (2, .int (p1)), (3, .ref (o))]) rfl ?_
  refine G.aload_n C 3 dL_cut_0 rfl rfl ?_
  refine G.iconst (v := 0) C dL_cut_1 (by decide) ?_
  refine G.aload_n C 0 dL_cut_2 rfl rfl ?_
  refine G.iload_n C 1 dL_cut_3 rfl rfl ?_
  refine G.iload_n C 2 dL_cut_4 rfl rfl ?_
  refine G.callXc C TT (st := [.int 0, .ref o]) (cx_X5_cut hf) rfl ⟨Nat.le_of_ble_eq_true rfl, Nat.le_of_ble_eq_true rfl⟩ (ko_X5_cut hf) rfl m9_404 m9_405 m9_406 m9_2 m9_407 kd_X5_cut ⟨Nat.le_of_ble_eq_true rfl, Nat.le_of_ble_eq_true rfl⟩ (Nat.le_of_ble_eq_true rfl) rfl dL_cut_5 [⟨0, 10, 13, 13⟩, ⟨0, 10, 17, 15⟩] ⟨0, 10, 21, 17⟩ [] htab (fun z hz => by rcases List.mem_cons.mp hz with rfl | hz; exact Or.inr ⟨by decide, eIO, m9_80, hN _ (by decide +kernel) _ (by decide +kernel) (by decide +kernel)⟩; rw [List.mem_singleton.mp hz]; exact Or.inr ⟨by decide, eIA, m9_81, hN _ (by decide +kernel) _ (by decide +kernel) (by decide +kernel)⟩) (by decide) (by decide) m9_82 (by decide +kernel) (fun q9 => ?_)
  refine G.astore (lv' := [(4, .ref (q9)), (0, .ref (x)), (1, .int (p0)), (2, .int (p1)), (3, .ref (o))]) C dL_cut_21 (by decide) rfl ?_
  refine G.iconst (v := 3) C dL_cut_23 (by decide) ?_
  exact G.iretW C ⟨Nat.le_of_ble_eq_true rfl, Nat.le_of_ble_eq_true rfl⟩ dL_cut_24
set_option maxRecDepth 20000 in
set_option maxHeartbeats 4000000 in
theorem cwo_turn {l : Launch} {h : PH} {f : Nat → Int64} {x o : Nat} {p0 : Int32} {r : (Int32 × PH)} (hf : f_X5_turn h x p0 = some (.ok r)) : CW l yL_turn cL_turn 4 [(0, 9, 12, 13)] 8 134 [.ref (x), .int (p0), .ref (o)] o h f 0 r.2 (vp_updL f 0 (r.1).toInt64) := by
  refine CW.of (own := RL) rfl (by decide) (Nat.le_of_ble_eq_true rfl) ?_
  intro p e R s m args below meth c g hR C TT hN htab
  subst hR
  refine G.sub C [0, 1, 2] (lv' := [(0, .ref (x)), (1, .int (p0)), (2, .ref (o))]) rfl ?_
  refine G.aload_n C 2 dL_turn_0 rfl rfl ?_
  refine G.iconst (v := 0) C dL_turn_1 (by decide) ?_
  refine G.aload_n C 0 dL_turn_2 rfl rfl ?_
  refine G.iload_n C 1 dL_turn_3 rfl rfl ?_
  refine G.callXo C TT (st := [.int 0, .ref o]) (st2 := .int (r.1) :: [.int 0, .ref o]) (cx_X5_turn hf) rfl (ko_X5_turn hf) rfl m9_423 m9_424 m9_425 m9_2 m9_426 kd_X5_turn ⟨Nat.le_of_ble_eq_true rfl, Nat.le_of_ble_eq_true rfl⟩ (Nat.le_of_ble_eq_true rfl) rfl rfl dL_turn_4 ?_
  refine G.i2l C dL_turn_7 ?_
  refine G.lastX C dL_turn_8 ?_
  refine G.goto (tgt := 15) C dL_turn_9 (by decide) ?_
  refine G.iconst (v := 0) C dL_turn_15 (by decide) ?_
  exact G.iretW C ⟨Nat.le_of_ble_eq_true rfl, Nat.le_of_ble_eq_true rfl⟩ dL_turn_16
set_option maxRecDepth 20000 in
set_option maxHeartbeats 4000000 in
theorem cwe0_turn {l : Launch} {h : PH} {f : Nat → Int64} {x o : Nat} {p0 : Int32} {hx : PH} (hf : f_X5_turn h x p0 = some (.error (eIO, hx))) : CW l yL_turn cL_turn 4 [(0, 9, 12, 13)] 8 134 [.ref (x), .int (p0), .ref (o)] o h f 1 hx f := by
  refine CW.of (own := RL) rfl (by decide) (Nat.le_of_ble_eq_true rfl) ?_
  intro p e R s m args below meth c g hR C TT hN htab
  subst hR
  refine G.sub C [0, 1, 2] (lv' := [(0, .ref (x)), (1, .int (p0)), (2, .ref (o))]) rfl ?_
  refine G.aload_n C 2 dL_turn_0 rfl rfl ?_
  refine G.iconst (v := 0) C dL_turn_1 (by decide) ?_
  refine G.aload_n C 0 dL_turn_2 rfl rfl ?_
  refine G.iload_n C 1 dL_turn_3 rfl rfl ?_
  refine G.callXc C TT (st := [.int 0, .ref o]) (cx_X5_turn hf) rfl ⟨Nat.le_of_ble_eq_true rfl, Nat.le_of_ble_eq_true rfl⟩ (ko_X5_turn hf) rfl m9_423 m9_424 m9_425 m9_2 m9_426 kd_X5_turn ⟨Nat.le_of_ble_eq_true rfl, Nat.le_of_ble_eq_true rfl⟩ (Nat.le_of_ble_eq_true rfl) rfl dL_turn_4 [] ⟨0, 9, 12, 13⟩ [] htab (fun z hz => nomatch hz) (by decide) (by decide) m9_80 (by decide +kernel) (fun q9 => ?_)
  refine G.astore_n (lv' := [(3, .ref (q9)), (0, .ref (x)), (1, .int (p0)), (2, .ref (o))]) C dL_turn_12 rfl (by decide) rfl ?_
  refine G.iconst (v := 1) C dL_turn_13 (by decide) ?_
  exact G.iretW C ⟨Nat.le_of_ble_eq_true rfl, Nat.le_of_ble_eq_true rfl⟩ dL_turn_14
set_option maxRecDepth 20000 in
set_option maxHeartbeats 4000000 in
theorem cwo_join {l : Launch} {h : PH} {f : Nat → Int64} {x o : Nat} {p0 : Int32} {p1 : Int32} {r : (Int32 × PH)} (hf : f_X5_join h x p0 p1 = some (.ok r)) : CW l yL_join cL_join 5 [(0, 10, 13, 13), (0, 10, 17, 17)] 8 146 [.ref (x), .int (p0), .int (p1), .ref (o)] o h f 0 r.2 (vp_updL f 0 (r.1).toInt64) := by
  refine CW.of (own := RL) rfl (by decide) (Nat.le_of_ble_eq_true rfl) ?_
  intro p e R s m args below meth c g hR C TT hN htab
  subst hR
  refine G.sub C [0, 1, 2, 3] (lv' := [(0, .ref (x)), (1, .int (p0)), (2, .int (p1)), (3, .ref (o))]) rfl ?_
  refine G.aload_n C 3 dL_join_0 rfl rfl ?_
  refine G.iconst (v := 0) C dL_join_1 (by decide) ?_
  refine G.aload_n C 0 dL_join_2 rfl rfl ?_
  refine G.iload_n C 1 dL_join_3 rfl rfl ?_
  refine G.iload_n C 2 dL_join_4 rfl rfl ?_
  refine G.callXo C TT (st := [.int 0, .ref o]) (st2 := .int (r.1) :: [.int 0, .ref o]) (cx_X5_join hf) rfl (ko_X5_join hf) rfl m9_458 m9_459 m9_460 m9_2 m9_461 kd_X5_join ⟨Nat.le_of_ble_eq_true rfl, Nat.le_of_ble_eq_true rfl⟩ (Nat.le_of_ble_eq_true rfl) rfl rfl dL_join_5 ?_
  refine G.i2l C dL_join_8 ?_
  refine G.lastX C dL_join_9 ?_
  refine G.goto (tgt := 21) C dL_join_10 (by decide) ?_
  refine G.iconst (v := 0) C dL_join_21 (by decide) ?_
  exact G.iretW C ⟨Nat.le_of_ble_eq_true rfl, Nat.le_of_ble_eq_true rfl⟩ dL_join_22
set_option maxRecDepth 20000 in
set_option maxHeartbeats 4000000 in
theorem cwe0_join {l : Launch} {h : PH} {f : Nat → Int64} {x o : Nat} {p0 : Int32} {p1 : Int32} {hx : PH} (hf : f_X5_join h x p0 p1 = some (.error (eIO, hx))) : CW l yL_join cL_join 5 [(0, 10, 13, 13), (0, 10, 17, 17)] 8 146 [.ref (x), .int (p0), .int (p1), .ref (o)] o h f 1 hx f := by
  refine CW.of (own := RL) rfl (by decide) (Nat.le_of_ble_eq_true rfl) ?_
  intro p e R s m args below meth c g hR C TT hN htab
  subst hR
  refine G.sub C [0, 1, 2, 3] (lv' := [(0, .ref (x)), (1, .int (p0)), (2, .int (p1)), (3, .ref (o))]) rfl ?_
  refine G.aload_n C 3 dL_join_0 rfl rfl ?_
  refine G.iconst (v := 0) C dL_join_1 (by decide) ?_
  refine G.aload_n C 0 dL_join_2 rfl rfl ?_
  refine G.iload_n C 1 dL_join_3 rfl rfl ?_
  refine G.iload_n C 2 dL_join_4 rfl rfl ?_
  refine G.callXc C TT (st := [.int 0, .ref o]) (cx_X5_join hf) rfl ⟨Nat.le_of_ble_eq_true rfl, Nat.le_of_ble_eq_true rfl⟩ (ko_X5_join hf) rfl m9_458 m9_459 m9_460 m9_2 m9_461 kd_X5_join ⟨Nat.le_of_ble_eq_true rfl, Nat.le_of_ble_eq_true rfl⟩ (Nat.le_of_ble_eq_true rfl) rfl dL_join_5 [] ⟨0, 10, 13, 13⟩ [⟨0, 10, 17, 17⟩] htab (fun z hz => nomatch hz) (by decide) (by decide) m9_80 (by decide +kernel) (fun q9 => ?_)
  refine G.astore (lv' := [(4, .ref (q9)), (0, .ref (x)), (1, .int (p0)), (2, .int (p1)), (3, .ref (o))]) C dL_join_13 (by decide) rfl ?_
  refine G.iconst (v := 1) C dL_join_15 (by decide) ?_
  exact G.iretW C ⟨Nat.le_of_ble_eq_true rfl, Nat.le_of_ble_eq_true rfl⟩ dL_join_16
set_option maxRecDepth 20000 in
set_option maxHeartbeats 4000000 in
theorem cwe1_join {l : Launch} {h : PH} {f : Nat → Int64} {x o : Nat} {p0 : Int32} {p1 : Int32} {hx : PH} (hf : f_X5_join h x p0 p1 = some (.error (eIS, hx))) : CW l yL_join cL_join 5 [(0, 10, 13, 13), (0, 10, 17, 17)] 8 146 [.ref (x), .int (p0), .int (p1), .ref (o)] o h f 2 hx f := by
  refine CW.of (own := RL) rfl (by decide) (Nat.le_of_ble_eq_true rfl) ?_
  intro p e R s m args below meth c g hR C TT hN htab
  subst hR
  refine G.sub C [0, 1, 2, 3] (lv' := [(0, .ref (x)), (1, .int (p0)), (2, .int (p1)), (3, .ref (o))]) rfl ?_
  refine G.aload_n C 3 dL_join_0 rfl rfl ?_
  refine G.iconst (v := 0) C dL_join_1 (by decide) ?_
  refine G.aload_n C 0 dL_join_2 rfl rfl ?_
  refine G.iload_n C 1 dL_join_3 rfl rfl ?_
  refine G.iload_n C 2 dL_join_4 rfl rfl ?_
  refine G.callXc C TT (st := [.int 0, .ref o]) (cx_X5_join hf) rfl ⟨Nat.le_of_ble_eq_true rfl, Nat.le_of_ble_eq_true rfl⟩ (ko_X5_join hf) rfl m9_458 m9_459 m9_460 m9_2 m9_461 kd_X5_join ⟨Nat.le_of_ble_eq_true rfl, Nat.le_of_ble_eq_true rfl⟩ (Nat.le_of_ble_eq_true rfl) rfl dL_join_5 [⟨0, 10, 13, 13⟩] ⟨0, 10, 17, 17⟩ [] htab (fun z hz => by rw [List.mem_singleton.mp hz]; exact Or.inr ⟨by decide, eIO, m9_80, hN _ (by decide +kernel) _ (by decide +kernel) (by decide +kernel)⟩) (by decide) (by decide) m9_82 (by decide +kernel) (fun q9 => ?_)
  refine G.astore (lv' := [(4, .ref (q9)), (0, .ref (x)), (1, .int (p0)), (2, .int (p1)), (3, .ref (o))]) C dL_join_17 (by decide) rfl ?_
  refine G.iconst (v := 2) C dL_join_19 (by decide) ?_
  exact G.iretW C ⟨Nat.le_of_ble_eq_true rfl, Nat.le_of_ble_eq_true rfl⟩ dL_join_20
set_option maxRecDepth 20000 in
set_option maxHeartbeats 4000000 in
theorem cwo_append {l : Launch} {h : PH} {f : Nat → Int64} {x o : Nat} {p0 : Int32} {r : (Int32 × PH)} (hf : f_X5_append h x p0 = some (.ok r)) : CW l yL_append cL_append 4 [(0, 9, 12, 15), (0, 9, 15, 17)] 7 111 [.ref (x), .int (p0), .ref (o)] o h f 0 r.2 (vp_updL f 0 (r.1).toInt64) := by
  refine CW.of (own := RL) rfl (by decide) (Nat.le_of_ble_eq_true rfl) ?_
  intro p e R s m args below meth c g hR C TT hN htab
  subst hR
  refine G.sub C [0, 1, 2] (lv' := [(0, .ref (x)), (1, .int (p0)), (2, .ref (o))]) rfl ?_
  refine G.aload_n C 2 dL_append_0 rfl rfl ?_
  refine G.iconst (v := 0) C dL_append_1 (by decide) ?_
  refine G.aload_n C 0 dL_append_2 rfl rfl ?_
  refine G.iload_n C 1 dL_append_3 rfl rfl ?_
  refine G.callXo C TT (st := [.int 0, .ref o]) (st2 := .int (r.1) :: [.int 0, .ref o]) (cx_X5_append hf) rfl (ko_X5_append hf) rfl m9_505 m9_506 m9_507 m9_2 m9_508 kd_X5_append ⟨Nat.le_of_ble_eq_true rfl, Nat.le_of_ble_eq_true rfl⟩ (Nat.le_of_ble_eq_true rfl) rfl rfl dL_append_4 ?_
  refine G.i2l C dL_append_7 ?_
  refine G.lastX C dL_append_8 ?_
  refine G.goto (tgt := 18) C dL_append_9 (by decide) ?_
  refine G.iconst (v := 0) C dL_append_18 (by decide) ?_
  exact G.iretW C ⟨Nat.le_of_ble_eq_true rfl, Nat.le_of_ble_eq_true rfl⟩ dL_append_19
set_option maxRecDepth 20000 in
set_option maxHeartbeats 4000000 in
theorem cwe0_append {l : Launch} {h : PH} {f : Nat → Int64} {x o : Nat} {p0 : Int32} {hx : PH} (hf : f_X5_append h x p0 = some (.error (eIA, hx))) : CW l yL_append cL_append 4 [(0, 9, 12, 15), (0, 9, 15, 17)] 7 111 [.ref (x), .int (p0), .ref (o)] o h f 1 hx f := by
  refine CW.of (own := RL) rfl (by decide) (Nat.le_of_ble_eq_true rfl) ?_
  intro p e R s m args below meth c g hR C TT hN htab
  subst hR
  refine G.sub C [0, 1, 2] (lv' := [(0, .ref (x)), (1, .int (p0)), (2, .ref (o))]) rfl ?_
  refine G.aload_n C 2 dL_append_0 rfl rfl ?_
  refine G.iconst (v := 0) C dL_append_1 (by decide) ?_
  refine G.aload_n C 0 dL_append_2 rfl rfl ?_
  refine G.iload_n C 1 dL_append_3 rfl rfl ?_
  refine G.callXc C TT (st := [.int 0, .ref o]) (cx_X5_append hf) rfl ⟨Nat.le_of_ble_eq_true rfl, Nat.le_of_ble_eq_true rfl⟩ (ko_X5_append hf) rfl m9_505 m9_506 m9_507 m9_2 m9_508 kd_X5_append ⟨Nat.le_of_ble_eq_true rfl, Nat.le_of_ble_eq_true rfl⟩ (Nat.le_of_ble_eq_true rfl) rfl dL_append_4 [] ⟨0, 9, 12, 15⟩ [⟨0, 9, 15, 17⟩] htab (fun z hz => nomatch hz) (by decide) (by decide) m9_81 (by decide +kernel) (fun q9 => ?_)
  refine G.astore_n (lv' := [(3, .ref (q9)), (0, .ref (x)), (1, .int (p0)), (2, .ref (o))]) C dL_append_12 rfl (by decide) rfl ?_
  refine G.iconst (v := 1) C dL_append_13 (by decide) ?_
  exact G.iretW C ⟨Nat.le_of_ble_eq_true rfl, Nat.le_of_ble_eq_true rfl⟩ dL_append_14
set_option maxRecDepth 20000 in
set_option maxHeartbeats 4000000 in
theorem cwe1_append {l : Launch} {h : PH} {f : Nat → Int64} {x o : Nat} {p0 : Int32} {hx : PH} (hf : f_X5_append h x p0 = some (.error (eIS, hx))) : CW l yL_append cL_append 4 [(0, 9, 12, 15), (0, 9, 15, 17)] 7 111 [.ref (x), .int (p0), .ref (o)] o h f 2 hx f := by
  refine CW.of (own := RL) rfl (by decide) (Nat.le_of_ble_eq_true rfl) ?_
  intro p e R s m args below meth c g hR C TT hN htab
  subst hR
  refine G.sub C [0, 1, 2] (lv' := [(0, .ref (x)), (1, .int (p0)), (2, .ref (o))]) rfl ?_
  refine G.aload_n C 2 dL_append_0 rfl rfl ?_
  refine G.iconst (v := 0) C dL_append_1 (by decide) ?_
  refine G.aload_n C 0 dL_append_2 rfl rfl ?_
  refine G.iload_n C 1 dL_append_3 rfl rfl ?_
  refine G.callXc C TT (st := [.int 0, .ref o]) (cx_X5_append hf) rfl ⟨Nat.le_of_ble_eq_true rfl, Nat.le_of_ble_eq_true rfl⟩ (ko_X5_append hf) rfl m9_505 m9_506 m9_507 m9_2 m9_508 kd_X5_append ⟨Nat.le_of_ble_eq_true rfl, Nat.le_of_ble_eq_true rfl⟩ (Nat.le_of_ble_eq_true rfl) rfl dL_append_4 [⟨0, 9, 12, 15⟩] ⟨0, 9, 15, 17⟩ [] htab (fun z hz => by rw [List.mem_singleton.mp hz]; exact Or.inr ⟨by decide, eIA, m9_81, hN _ (by decide +kernel) _ (by decide +kernel) (by decide +kernel)⟩) (by decide) (by decide) m9_82 (by decide +kernel) (fun q9 => ?_)
  refine G.astore_n (lv' := [(3, .ref (q9)), (0, .ref (x)), (1, .int (p0)), (2, .ref (o))]) C dL_append_15 rfl (by decide) rfl ?_
  refine G.iconst (v := 2) C dL_append_16 (by decide) ?_
  exact G.iretW C ⟨Nat.le_of_ble_eq_true rfl, Nat.le_of_ble_eq_true rfl⟩ dL_append_17
set_option maxRecDepth 20000 in
set_option maxHeartbeats 4000000 in
theorem cwo_play {l : Launch} {h : PH} {f : Nat → Int64} {x o : Nat}  {r : (Int32 × PH)} (hf : f_X5_play h x  = some (.ok r)) : CW l yL_play cL_play 3 [(0, 8, 11, 15)] 7 143 [.ref (x), .ref (o)] o h f 0 r.2 (vp_updL f 0 (r.1).toInt64) := by
  refine CW.of (own := RL) rfl (by decide) (Nat.le_of_ble_eq_true rfl) ?_
  intro p e R s m args below meth c g hR C TT hN htab
  subst hR
  refine G.sub C [0, 1] (lv' := [(0, .ref (x)), (1, .ref (o))]) rfl ?_
  refine G.aload_n C 1 dL_play_0 rfl rfl ?_
  refine G.iconst (v := 0) C dL_play_1 (by decide) ?_
  refine G.aload_n C 0 dL_play_2 rfl rfl ?_
  refine G.callXo C TT (st := [.int 0, .ref o]) (st2 := .int (r.1) :: [.int 0, .ref o]) (cx_X5_play hf) rfl (ko_X5_play hf) rfl m9_607 m9_608 m9_609 m9_2 m9_610 kd_X5_play ⟨Nat.le_of_ble_eq_true rfl, Nat.le_of_ble_eq_true rfl⟩ (Nat.le_of_ble_eq_true rfl) rfl rfl dL_play_3 ?_
  refine G.i2l C dL_play_6 ?_
  refine G.lastX C dL_play_7 ?_
  refine G.goto (tgt := 14) C dL_play_8 (by decide) ?_
  refine G.iconst (v := 0) C dL_play_14 (by decide) ?_
  exact G.iretW C ⟨Nat.le_of_ble_eq_true rfl, Nat.le_of_ble_eq_true rfl⟩ dL_play_15
set_option maxRecDepth 20000 in
set_option maxHeartbeats 4000000 in
theorem cwe0_play {l : Launch} {h : PH} {f : Nat → Int64} {x o : Nat}  {hx : PH} (hf : f_X5_play h x  = some (.error (eIA, hx))) : CW l yL_play cL_play 3 [(0, 8, 11, 15)] 7 143 [.ref (x), .ref (o)] o h f 1 hx f := by
  refine CW.of (own := RL) rfl (by decide) (Nat.le_of_ble_eq_true rfl) ?_
  intro p e R s m args below meth c g hR C TT hN htab
  subst hR
  refine G.sub C [0, 1] (lv' := [(0, .ref (x)), (1, .ref (o))]) rfl ?_
  refine G.aload_n C 1 dL_play_0 rfl rfl ?_
  refine G.iconst (v := 0) C dL_play_1 (by decide) ?_
  refine G.aload_n C 0 dL_play_2 rfl rfl ?_
  refine G.callXc C TT (st := [.int 0, .ref o]) (cx_X5_play hf) rfl ⟨Nat.le_of_ble_eq_true rfl, Nat.le_of_ble_eq_true rfl⟩ (ko_X5_play hf) rfl m9_607 m9_608 m9_609 m9_2 m9_610 kd_X5_play ⟨Nat.le_of_ble_eq_true rfl, Nat.le_of_ble_eq_true rfl⟩ (Nat.le_of_ble_eq_true rfl) rfl dL_play_3 [] ⟨0, 8, 11, 15⟩ [] htab (fun z hz => nomatch hz) (by decide) (by decide) m9_81 (by decide +kernel) (fun q9 => ?_)
  refine G.astore_n (lv' := [(2, .ref (q9)), (0, .ref (x)), (1, .ref (o))]) C dL_play_11 rfl (by decide) rfl ?_
  refine G.iconst (v := 1) C dL_play_12 (by decide) ?_
  exact G.iretW C ⟨Nat.le_of_ble_eq_true rfl, Nat.le_of_ble_eq_true rfl⟩ dL_play_13
set_option maxRecDepth 20000 in
set_option maxHeartbeats 4000000 in
theorem cwo_undo {l : Launch} {h : PH} {f : Nat → Int64} {x o : Nat}  {r : (Int32 × PH)} (hf : f_X5_undo h x  = some (.ok r)) : CW l yL_undo cL_undo 3 [(0, 8, 11, 17)] 7 110 [.ref (x), .ref (o)] o h f 0 r.2 (vp_updL f 0 (r.1).toInt64) := by
  refine CW.of (own := RL) rfl (by decide) (Nat.le_of_ble_eq_true rfl) ?_
  intro p e R s m args below meth c g hR C TT hN htab
  subst hR
  refine G.sub C [0, 1] (lv' := [(0, .ref (x)), (1, .ref (o))]) rfl ?_
  refine G.aload_n C 1 dL_undo_0 rfl rfl ?_
  refine G.iconst (v := 0) C dL_undo_1 (by decide) ?_
  refine G.aload_n C 0 dL_undo_2 rfl rfl ?_
  refine G.callXo C TT (st := [.int 0, .ref o]) (st2 := .int (r.1) :: [.int 0, .ref o]) (cx_X5_undo hf) rfl (ko_X5_undo hf) rfl m9_639 m9_640 m9_641 m9_2 m9_642 kd_X5_undo ⟨Nat.le_of_ble_eq_true rfl, Nat.le_of_ble_eq_true rfl⟩ (Nat.le_of_ble_eq_true rfl) rfl rfl dL_undo_3 ?_
  refine G.i2l C dL_undo_6 ?_
  refine G.lastX C dL_undo_7 ?_
  refine G.goto (tgt := 14) C dL_undo_8 (by decide) ?_
  refine G.iconst (v := 0) C dL_undo_14 (by decide) ?_
  exact G.iretW C ⟨Nat.le_of_ble_eq_true rfl, Nat.le_of_ble_eq_true rfl⟩ dL_undo_15
set_option maxRecDepth 20000 in
set_option maxHeartbeats 4000000 in
theorem cwe0_undo {l : Launch} {h : PH} {f : Nat → Int64} {x o : Nat}  {hx : PH} (hf : f_X5_undo h x  = some (.error (eIS, hx))) : CW l yL_undo cL_undo 3 [(0, 8, 11, 17)] 7 110 [.ref (x), .ref (o)] o h f 1 hx f := by
  refine CW.of (own := RL) rfl (by decide) (Nat.le_of_ble_eq_true rfl) ?_
  intro p e R s m args below meth c g hR C TT hN htab
  subst hR
  refine G.sub C [0, 1] (lv' := [(0, .ref (x)), (1, .ref (o))]) rfl ?_
  refine G.aload_n C 1 dL_undo_0 rfl rfl ?_
  refine G.iconst (v := 0) C dL_undo_1 (by decide) ?_
  refine G.aload_n C 0 dL_undo_2 rfl rfl ?_
  refine G.callXc C TT (st := [.int 0, .ref o]) (cx_X5_undo hf) rfl ⟨Nat.le_of_ble_eq_true rfl, Nat.le_of_ble_eq_true rfl⟩ (ko_X5_undo hf) rfl m9_639 m9_640 m9_641 m9_2 m9_642 kd_X5_undo ⟨Nat.le_of_ble_eq_true rfl, Nat.le_of_ble_eq_true rfl⟩ (Nat.le_of_ble_eq_true rfl) rfl dL_undo_3 [] ⟨0, 8, 11, 17⟩ [] htab (fun z hz => nomatch hz) (by decide) (by decide) m9_82 (by decide +kernel) (fun q9 => ?_)
  refine G.astore_n (lv' := [(2, .ref (q9)), (0, .ref (x)), (1, .ref (o))]) C dL_undo_11 rfl (by decide) rfl ?_
  refine G.iconst (v := 1) C dL_undo_12 (by decide) ?_
  exact G.iretW C ⟨Nat.le_of_ble_eq_true rfl, Nat.le_of_ble_eq_true rfl⟩ dL_undo_13
set_option maxRecDepth 20000 in
set_option maxHeartbeats 4000000 in
theorem cwo_restore {l : Launch} {h : PH} {f : Nat → Int64} {x o : Nat}  {r : (Int32 × PH)} (hf : f_X5_restore h x  = some (.ok r)) : CW l yL_restore cL_restore 3 [(0, 8, 11, 17)] 7 110 [.ref (x), .ref (o)] o h f 0 r.2 (vp_updL f 0 (r.1).toInt64) := by
  refine CW.of (own := RL) rfl (by decide) (Nat.le_of_ble_eq_true rfl) ?_
  intro p e R s m args below meth c g hR C TT hN htab
  subst hR
  refine G.sub C [0, 1] (lv' := [(0, .ref (x)), (1, .ref (o))]) rfl ?_
  refine G.aload_n C 1 dL_restore_0 rfl rfl ?_
  refine G.iconst (v := 0) C dL_restore_1 (by decide) ?_
  refine G.aload_n C 0 dL_restore_2 rfl rfl ?_
  refine G.callXo C TT (st := [.int 0, .ref o]) (st2 := .int (r.1) :: [.int 0, .ref o]) (cx_X5_restore hf) rfl (ko_X5_restore hf) rfl m9_668 m9_669 m9_670 m9_2 m9_671 kd_X5_restore ⟨Nat.le_of_ble_eq_true rfl, Nat.le_of_ble_eq_true rfl⟩ (Nat.le_of_ble_eq_true rfl) rfl rfl dL_restore_3 ?_
  refine G.i2l C dL_restore_6 ?_
  refine G.lastX C dL_restore_7 ?_
  refine G.goto (tgt := 14) C dL_restore_8 (by decide) ?_
  refine G.iconst (v := 0) C dL_restore_14 (by decide) ?_
  exact G.iretW C ⟨Nat.le_of_ble_eq_true rfl, Nat.le_of_ble_eq_true rfl⟩ dL_restore_15
set_option maxRecDepth 20000 in
set_option maxHeartbeats 4000000 in
theorem cwe0_restore {l : Launch} {h : PH} {f : Nat → Int64} {x o : Nat}  {hx : PH} (hf : f_X5_restore h x  = some (.error (eIS, hx))) : CW l yL_restore cL_restore 3 [(0, 8, 11, 17)] 7 110 [.ref (x), .ref (o)] o h f 1 hx f := by
  refine CW.of (own := RL) rfl (by decide) (Nat.le_of_ble_eq_true rfl) ?_
  intro p e R s m args below meth c g hR C TT hN htab
  subst hR
  refine G.sub C [0, 1] (lv' := [(0, .ref (x)), (1, .ref (o))]) rfl ?_
  refine G.aload_n C 1 dL_restore_0 rfl rfl ?_
  refine G.iconst (v := 0) C dL_restore_1 (by decide) ?_
  refine G.aload_n C 0 dL_restore_2 rfl rfl ?_
  refine G.callXc C TT (st := [.int 0, .ref o]) (cx_X5_restore hf) rfl ⟨Nat.le_of_ble_eq_true rfl, Nat.le_of_ble_eq_true rfl⟩ (ko_X5_restore hf) rfl m9_668 m9_669 m9_670 m9_2 m9_671 kd_X5_restore ⟨Nat.le_of_ble_eq_true rfl, Nat.le_of_ble_eq_true rfl⟩ (Nat.le_of_ble_eq_true rfl) rfl dL_restore_3 [] ⟨0, 8, 11, 17⟩ [] htab (fun z hz => nomatch hz) (by decide) (by decide) m9_82 (by decide +kernel) (fun q9 => ?_)
  refine G.astore_n (lv' := [(2, .ref (q9)), (0, .ref (x)), (1, .ref (o))]) C dL_restore_11 rfl (by decide) rfl ?_
  refine G.iconst (v := 1) C dL_restore_12 (by decide) ?_
  exact G.iretW C ⟨Nat.le_of_ble_eq_true rfl, Nat.le_of_ble_eq_true rfl⟩ dL_restore_13
set_option maxRecDepth 20000 in
set_option maxHeartbeats 4000000 in
theorem cwo_place {l : Launch} {h : PH} {f : Nat → Int64} {x o : Nat} {p0 : Int32} {p1 : Int32} {r : Int32} (hf : f_X5_place h x p0 p1 = some (.ok r)) : CW l yL_place cL_place 5 [(0, 10, 13, 13)] 8 135 [.ref (x), .int (p0), .int (p1), .ref (o)] o h f 0 h (vp_updL f 0 (r).toInt64) := by
  refine CW.of (own := RL) rfl (by decide) (Nat.le_of_ble_eq_true rfl) ?_
  intro p e R s m args below meth c g hR C TT hN htab
  subst hR
  refine G.sub C [0, 1, 2, 3] (lv' := [(0, .ref (x)), (1, .int (p0)), (2, .int (p1)), (3, .ref (o))]) rfl ?_
  refine G.aload_n C 3 dL_place_0 rfl rfl ?_
  refine G.iconst (v := 0) C dL_place_1 (by decide) ?_
  refine G.aload_n C 0 dL_place_2 rfl rfl ?_
  refine G.iload_n C 1 dL_place_3 rfl rfl ?_
  refine G.iload_n C 2 dL_place_4 rfl rfl ?_
  refine G.callXo C TT (st := [.int 0, .ref o]) (st2 := .int (r) :: [.int 0, .ref o]) (cx_X5_place hf) rfl (ko_X5_place hf) rfl m9_679 m9_680 m9_681 m9_2 m9_682 kd_X5_place ⟨Nat.le_of_ble_eq_true rfl, Nat.le_of_ble_eq_true rfl⟩ (Nat.le_of_ble_eq_true rfl) rfl rfl dL_place_5 ?_
  refine G.i2l C dL_place_8 ?_
  refine G.lastX C dL_place_9 ?_
  refine G.goto (tgt := 17) C dL_place_10 (by decide) ?_
  refine G.iconst (v := 0) C dL_place_17 (by decide) ?_
  exact G.iretW C ⟨Nat.le_of_ble_eq_true rfl, Nat.le_of_ble_eq_true rfl⟩ dL_place_18
set_option maxRecDepth 20000 in
set_option maxHeartbeats 4000000 in
theorem cwe0_place {l : Launch} {h : PH} {f : Nat → Int64} {x o : Nat} {p0 : Int32} {p1 : Int32} (hf : f_X5_place h x p0 p1 = some (.error eIO)) : CW l yL_place cL_place 5 [(0, 10, 13, 13)] 8 135 [.ref (x), .int (p0), .int (p1), .ref (o)] o h f 1 h f := by
  refine CW.of (own := RL) rfl (by decide) (Nat.le_of_ble_eq_true rfl) ?_
  intro p e R s m args below meth c g hR C TT hN htab
  subst hR
  refine G.sub C [0, 1, 2, 3] (lv' := [(0, .ref (x)), (1, .int (p0)), (2, .int (p1)), (3, .ref (o))]) rfl ?_
  refine G.aload_n C 3 dL_place_0 rfl rfl ?_
  refine G.iconst (v := 0) C dL_place_1 (by decide) ?_
  refine G.aload_n C 0 dL_place_2 rfl rfl ?_
  refine G.iload_n C 1 dL_place_3 rfl rfl ?_
  refine G.iload_n C 2 dL_place_4 rfl rfl ?_
  refine G.callXc C TT (st := [.int 0, .ref o]) (cx_X5_place hf) rfl ⟨Nat.le_of_ble_eq_true rfl, Nat.le_of_ble_eq_true rfl⟩ (ko_X5_place hf) rfl m9_679 m9_680 m9_681 m9_2 m9_682 kd_X5_place ⟨Nat.le_of_ble_eq_true rfl, Nat.le_of_ble_eq_true rfl⟩ (Nat.le_of_ble_eq_true rfl) rfl dL_place_5 [] ⟨0, 10, 13, 13⟩ [] htab (fun z hz => nomatch hz) (by decide) (by decide) m9_80 (by decide +kernel) (fun q9 => ?_)
  refine G.astore (lv' := [(4, .ref (q9)), (0, .ref (x)), (1, .int (p0)), (2, .int (p1)), (3, .ref (o))]) C dL_place_13 (by decide) rfl ?_
  refine G.iconst (v := 1) C dL_place_15 (by decide) ?_
  exact G.iretW C ⟨Nat.le_of_ble_eq_true rfl, Nat.le_of_ble_eq_true rfl⟩ dL_place_16
set_option maxRecDepth 20000 in
set_option maxHeartbeats 4000000 in
theorem cwo_ropeOf {l : Launch} {h : PH} {f : Nat → Int64} {x o : Nat} {p0 : Int32} {p1 : Int32} {r : Int32} (hf : f_X5_ropeOf h x p0 p1 = some (.ok r)) : CW l yL_ropeOf cL_ropeOf 5 [(0, 10, 13, 13), (0, 10, 17, 15)] 8 135 [.ref (x), .int (p0), .int (p1), .ref (o)] o h f 0 h (vp_updL f 0 (r).toInt64) := by
  refine CW.of (own := RL) rfl (by decide) (Nat.le_of_ble_eq_true rfl) ?_
  intro p e R s m args below meth c g hR C TT hN htab
  subst hR
  refine G.sub C [0, 1, 2, 3] (lv' := [(0, .ref (x)), (1, .int (p0)), (2, .int (p1)), (3, .ref (o))]) rfl ?_
  refine G.aload_n C 3 dL_ropeOf_0 rfl rfl ?_
  refine G.iconst (v := 0) C dL_ropeOf_1 (by decide) ?_
  refine G.aload_n C 0 dL_ropeOf_2 rfl rfl ?_
  refine G.iload_n C 1 dL_ropeOf_3 rfl rfl ?_
  refine G.iload_n C 2 dL_ropeOf_4 rfl rfl ?_
  refine G.callXo C TT (st := [.int 0, .ref o]) (st2 := .int (r) :: [.int 0, .ref o]) (cx_X5_ropeOf hf) rfl (ko_X5_ropeOf hf) rfl m9_691 m9_692 m9_693 m9_2 m9_694 kd_X5_ropeOf ⟨Nat.le_of_ble_eq_true rfl, Nat.le_of_ble_eq_true rfl⟩ (Nat.le_of_ble_eq_true rfl) rfl rfl dL_ropeOf_5 ?_
  refine G.i2l C dL_ropeOf_8 ?_
  refine G.lastX C dL_ropeOf_9 ?_
  refine G.goto (tgt := 21) C dL_ropeOf_10 (by decide) ?_
  refine G.iconst (v := 0) C dL_ropeOf_21 (by decide) ?_
  exact G.iretW C ⟨Nat.le_of_ble_eq_true rfl, Nat.le_of_ble_eq_true rfl⟩ dL_ropeOf_22
set_option maxRecDepth 20000 in
set_option maxHeartbeats 4000000 in
theorem cwe0_ropeOf {l : Launch} {h : PH} {f : Nat → Int64} {x o : Nat} {p0 : Int32} {p1 : Int32} (hf : f_X5_ropeOf h x p0 p1 = some (.error eIO)) : CW l yL_ropeOf cL_ropeOf 5 [(0, 10, 13, 13), (0, 10, 17, 15)] 8 135 [.ref (x), .int (p0), .int (p1), .ref (o)] o h f 1 h f := by
  refine CW.of (own := RL) rfl (by decide) (Nat.le_of_ble_eq_true rfl) ?_
  intro p e R s m args below meth c g hR C TT hN htab
  subst hR
  refine G.sub C [0, 1, 2, 3] (lv' := [(0, .ref (x)), (1, .int (p0)), (2, .int (p1)), (3, .ref (o))]) rfl ?_
  refine G.aload_n C 3 dL_ropeOf_0 rfl rfl ?_
  refine G.iconst (v := 0) C dL_ropeOf_1 (by decide) ?_
  refine G.aload_n C 0 dL_ropeOf_2 rfl rfl ?_
  refine G.iload_n C 1 dL_ropeOf_3 rfl rfl ?_
  refine G.iload_n C 2 dL_ropeOf_4 rfl rfl ?_
  refine G.callXc C TT (st := [.int 0, .ref o]) (cx_X5_ropeOf hf) rfl ⟨Nat.le_of_ble_eq_true rfl, Nat.le_of_ble_eq_true rfl⟩ (ko_X5_ropeOf hf) rfl m9_691 m9_692 m9_693 m9_2 m9_694 kd_X5_ropeOf ⟨Nat.le_of_ble_eq_true rfl, Nat.le_of_ble_eq_true rfl⟩ (Nat.le_of_ble_eq_true rfl) rfl dL_ropeOf_5 [] ⟨0, 10, 13, 13⟩ [⟨0, 10, 17, 15⟩] htab (fun z hz => nomatch hz) (by decide) (by decide) m9_80 (by decide +kernel) (fun q9 => ?_)
  refine G.astore (lv' := [(4, .ref (q9)), (0, .ref (x)), (1, .int (p0)), (2, .int (p1)), (3, .ref (o))]) C dL_ropeOf_13 (by decide) rfl ?_
  refine G.iconst (v := 1) C dL_ropeOf_15 (by decide) ?_
  exact G.iretW C ⟨Nat.le_of_ble_eq_true rfl, Nat.le_of_ble_eq_true rfl⟩ dL_ropeOf_16
set_option maxRecDepth 20000 in
set_option maxHeartbeats 4000000 in
theorem cwe1_ropeOf {l : Launch} {h : PH} {f : Nat → Int64} {x o : Nat} {p0 : Int32} {p1 : Int32} (hf : f_X5_ropeOf h x p0 p1 = some (.error eIA)) : CW l yL_ropeOf cL_ropeOf 5 [(0, 10, 13, 13), (0, 10, 17, 15)] 8 135 [.ref (x), .int (p0), .int (p1), .ref (o)] o h f 2 h f := by
  refine CW.of (own := RL) rfl (by decide) (Nat.le_of_ble_eq_true rfl) ?_
  intro p e R s m args below meth c g hR C TT hN htab
  subst hR
  refine G.sub C [0, 1, 2, 3] (lv' := [(0, .ref (x)), (1, .int (p0)), (2, .int (p1)), (3, .ref (o))]) rfl ?_
  refine G.aload_n C 3 dL_ropeOf_0 rfl rfl ?_
  refine G.iconst (v := 0) C dL_ropeOf_1 (by decide) ?_
  refine G.aload_n C 0 dL_ropeOf_2 rfl rfl ?_
  refine G.iload_n C 1 dL_ropeOf_3 rfl rfl ?_
  refine G.iload_n C 2 dL_ropeOf_4 rfl rfl ?_
  refine G.callXc C TT (st := [.int 0, .ref o]) (cx_X5_ropeOf hf) rfl ⟨Nat.le_of_ble_eq_true rfl, Nat.le_of_ble_eq_true rfl⟩ (ko_X5_ropeOf hf) rfl m9_691 m9_692 m9_693 m9_2 m9_694 kd_X5_ropeOf ⟨Nat.le_of_ble_eq_true rfl, Nat.le_of_ble_eq_true rfl⟩ (Nat.le_of_ble_eq_true rfl) rfl dL_ropeOf_5 [⟨0, 10, 13, 13⟩] ⟨0, 10, 17, 15⟩ [] htab (fun z hz => by rw [List.mem_singleton.mp hz]; exact Or.inr ⟨by decide, eIO, m9_80, hN _ (by decide +kernel) _ (by decide +kernel) (by decide +kernel)⟩) (by decide) (by decide) m9_81 (by decide +kernel) (fun q9 => ?_)
  refine G.astore (lv' := [(4, .ref (q9)), (0, .ref (x)), (1, .int (p0)), (2, .int (p1)), (3, .ref (o))]) C dL_ropeOf_17 (by decide) rfl ?_
  refine G.iconst (v := 2) C dL_ropeOf_19 (by decide) ?_
  exact G.iretW C ⟨Nat.le_of_ble_eq_true rfl, Nat.le_of_ble_eq_true rfl⟩ dL_ropeOf_20
set_option maxRecDepth 20000 in
set_option maxHeartbeats 4000000 in
theorem cwo_hueOf {l : Launch} {h : PH} {f : Nat → Int64} {x o : Nat} {p0 : Int32} {p1 : Int32} {p2 : Int32} {r : Int32} (hf : f_X5_hueOf h x p0 p1 p2 = some (.ok r)) : CW l yL_hueOf cL_hueOf 6 [(0, 12, 15, 13), (0, 12, 19, 15)] 8 136 [.ref (x), .int (p0), .int (p1), .int (p2), .ref (o)] o h f 0 h (vp_updL f 0 (r).toInt64) := by
  refine CW.of (own := RL) rfl (by decide) (Nat.le_of_ble_eq_true rfl) ?_
  intro p e R s m args below meth c g hR C TT hN htab
  subst hR
  refine G.sub C [0, 1, 2, 3, 4] (lv' := [(0, .ref (x)), (1, .int (p0)), (2, .int (p1)), (3, .int (p2)), (4, .ref (o))]) rfl ?_
  refine G.aload C 4 dL_hueOf_0 rfl ?_
  refine G.iconst (v := 0) C dL_hueOf_2 (by decide) ?_
  refine G.aload_n C 0 dL_hueOf_3 rfl rfl ?_
  refine G.iload_n C 1 dL_hueOf_4 rfl rfl ?_
  refine G.iload_n C 2 dL_hueOf_5 rfl rfl ?_
  refine G.iload_n C 3 dL_hueOf_6 rfl rfl ?_
  refine G.callXo C TT (st := [.int 0, .ref o]) (st2 := .int (r) :: [.int 0, .ref o]) (cx_X5_hueOf hf) rfl (ko_X5_hueOf hf) rfl m9_748 m9_749 m9_750 m9_2 m9_751 kd_X5_hueOf ⟨Nat.le_of_ble_eq_true rfl, Nat.le_of_ble_eq_true rfl⟩ (Nat.le_of_ble_eq_true rfl) rfl rfl dL_hueOf_7 ?_
  refine G.i2l C dL_hueOf_10 ?_
  refine G.lastX C dL_hueOf_11 ?_
  refine G.goto (tgt := 23) C dL_hueOf_12 (by decide) ?_
  refine G.iconst (v := 0) C dL_hueOf_23 (by decide) ?_
  exact G.iretW C ⟨Nat.le_of_ble_eq_true rfl, Nat.le_of_ble_eq_true rfl⟩ dL_hueOf_24
set_option maxRecDepth 20000 in
set_option maxHeartbeats 4000000 in
theorem cwe0_hueOf {l : Launch} {h : PH} {f : Nat → Int64} {x o : Nat} {p0 : Int32} {p1 : Int32} {p2 : Int32} (hf : f_X5_hueOf h x p0 p1 p2 = some (.error eIO)) : CW l yL_hueOf cL_hueOf 6 [(0, 12, 15, 13), (0, 12, 19, 15)] 8 136 [.ref (x), .int (p0), .int (p1), .int (p2), .ref (o)] o h f 1 h f := by
  refine CW.of (own := RL) rfl (by decide) (Nat.le_of_ble_eq_true rfl) ?_
  intro p e R s m args below meth c g hR C TT hN htab
  subst hR
  refine G.sub C [0, 1, 2, 3, 4] (lv' := [(0, .ref (x)), (1, .int (p0)), (2, .int (p1)), (3, .int (p2)), (4, .ref (o))]) rfl ?_
  refine G.aload C 4 dL_hueOf_0 rfl ?_
  refine G.iconst (v := 0) C dL_hueOf_2 (by decide) ?_
  refine G.aload_n C 0 dL_hueOf_3 rfl rfl ?_
  refine G.iload_n C 1 dL_hueOf_4 rfl rfl ?_
  refine G.iload_n C 2 dL_hueOf_5 rfl rfl ?_
  refine G.iload_n C 3 dL_hueOf_6 rfl rfl ?_
  refine G.callXc C TT (st := [.int 0, .ref o]) (cx_X5_hueOf hf) rfl ⟨Nat.le_of_ble_eq_true rfl, Nat.le_of_ble_eq_true rfl⟩ (ko_X5_hueOf hf) rfl m9_748 m9_749 m9_750 m9_2 m9_751 kd_X5_hueOf ⟨Nat.le_of_ble_eq_true rfl, Nat.le_of_ble_eq_true rfl⟩ (Nat.le_of_ble_eq_true rfl) rfl dL_hueOf_7 [] ⟨0, 12, 15, 13⟩ [⟨0, 12, 19, 15⟩] htab (fun z hz => nomatch hz) (by decide) (by decide) m9_80 (by decide +kernel) (fun q9 => ?_)
  refine G.astore (lv' := [(5, .ref (q9)), (0, .ref (x)), (1, .int (p0)), (2, .int (p1)), (3, .int (p2)), (4, .ref (o))]) C dL_hueOf_15 (by decide) rfl ?_
  refine G.iconst (v := 1) C dL_hueOf_17 (by decide) ?_
  exact G.iretW C ⟨Nat.le_of_ble_eq_true rfl, Nat.le_of_ble_eq_true rfl⟩ dL_hueOf_18
set_option maxRecDepth 20000 in
set_option maxHeartbeats 4000000 in
theorem cwe1_hueOf {l : Launch} {h : PH} {f : Nat → Int64} {x o : Nat} {p0 : Int32} {p1 : Int32} {p2 : Int32} (hf : f_X5_hueOf h x p0 p1 p2 = some (.error eIA)) : CW l yL_hueOf cL_hueOf 6 [(0, 12, 15, 13), (0, 12, 19, 15)] 8 136 [.ref (x), .int (p0), .int (p1), .int (p2), .ref (o)] o h f 2 h f := by
  refine CW.of (own := RL) rfl (by decide) (Nat.le_of_ble_eq_true rfl) ?_
  intro p e R s m args below meth c g hR C TT hN htab
  subst hR
  refine G.sub C [0, 1, 2, 3, 4] (lv' := [(0, .ref (x)), (1, .int (p0)), (2, .int (p1)), (3, .int (p2)), (4, .ref (o))]) rfl ?_
  refine G.aload C 4 dL_hueOf_0 rfl ?_
  refine G.iconst (v := 0) C dL_hueOf_2 (by decide) ?_
  refine G.aload_n C 0 dL_hueOf_3 rfl rfl ?_
  refine G.iload_n C 1 dL_hueOf_4 rfl rfl ?_
  refine G.iload_n C 2 dL_hueOf_5 rfl rfl ?_
  refine G.iload_n C 3 dL_hueOf_6 rfl rfl ?_
  refine G.callXc C TT (st := [.int 0, .ref o]) (cx_X5_hueOf hf) rfl ⟨Nat.le_of_ble_eq_true rfl, Nat.le_of_ble_eq_true rfl⟩ (ko_X5_hueOf hf) rfl m9_748 m9_749 m9_750 m9_2 m9_751 kd_X5_hueOf ⟨Nat.le_of_ble_eq_true rfl, Nat.le_of_ble_eq_true rfl⟩ (Nat.le_of_ble_eq_true rfl) rfl dL_hueOf_7 [⟨0, 12, 15, 13⟩] ⟨0, 12, 19, 15⟩ [] htab (fun z hz => by rw [List.mem_singleton.mp hz]; exact Or.inr ⟨by decide, eIO, m9_80, hN _ (by decide +kernel) _ (by decide +kernel) (by decide +kernel)⟩) (by decide) (by decide) m9_81 (by decide +kernel) (fun q9 => ?_)
  refine G.astore (lv' := [(5, .ref (q9)), (0, .ref (x)), (1, .int (p0)), (2, .int (p1)), (3, .int (p2)), (4, .ref (o))]) C dL_hueOf_19 (by decide) rfl ?_
  refine G.iconst (v := 2) C dL_hueOf_21 (by decide) ?_
  exact G.iretW C ⟨Nat.le_of_ble_eq_true rfl, Nat.le_of_ble_eq_true rfl⟩ dL_hueOf_22
set_option maxRecDepth 20000 in
set_option maxHeartbeats 4000000 in
theorem cwo_gapOf {l : Launch} {h : PH} {f : Nat → Int64} {x o : Nat} {p0 : Int32} {r : Int32} (hf : f_X5_gapOf h x p0 = some (.ok r)) : CW l yL_gapOf cL_gapOf 4 [(0, 9, 12, 13)] 8 132 [.ref (x), .int (p0), .ref (o)] o h f 0 h (vp_updL f 0 (r).toInt64) := by
  refine CW.of (own := RL) rfl (by decide) (Nat.le_of_ble_eq_true rfl) ?_
  intro p e R s m args below meth c g hR C TT hN htab
  subst hR
  refine G.sub C [0, 1, 2] (lv' := [(0, .ref (x)), (1, .int (p0)), (2, .ref (o))]) rfl ?_
  refine G.aload_n C 2 dL_gapOf_0 rfl rfl ?_
  refine G.iconst (v := 0) C dL_gapOf_1 (by decide) ?_
  refine G.aload_n C 0 dL_gapOf_2 rfl rfl ?_
  refine G.iload_n C 1 dL_gapOf_3 rfl rfl ?_
  refine G.callXo C TT (st := [.int 0, .ref o]) (st2 := .int (r) :: [.int 0, .ref o]) (cx_X5_gapOf hf) rfl (ko_X5_gapOf hf) rfl m9_773 m9_774 m9_775 m9_2 m9_776 kd_X5_gapOf ⟨Nat.le_of_ble_eq_true rfl, Nat.le_of_ble_eq_true rfl⟩ (Nat.le_of_ble_eq_true rfl) rfl rfl dL_gapOf_4 ?_
  refine G.i2l C dL_gapOf_7 ?_
  refine G.lastX C dL_gapOf_8 ?_
  refine G.goto (tgt := 15) C dL_gapOf_9 (by decide) ?_
  refine G.iconst (v := 0) C dL_gapOf_15 (by decide) ?_
  exact G.iretW C ⟨Nat.le_of_ble_eq_true rfl, Nat.le_of_ble_eq_true rfl⟩ dL_gapOf_16
set_option maxRecDepth 20000 in
set_option maxHeartbeats 4000000 in
theorem cwe0_gapOf {l : Launch} {h : PH} {f : Nat → Int64} {x o : Nat} {p0 : Int32} (hf : f_X5_gapOf h x p0 = some (.error eIO)) : CW l yL_gapOf cL_gapOf 4 [(0, 9, 12, 13)] 8 132 [.ref (x), .int (p0), .ref (o)] o h f 1 h f := by
  refine CW.of (own := RL) rfl (by decide) (Nat.le_of_ble_eq_true rfl) ?_
  intro p e R s m args below meth c g hR C TT hN htab
  subst hR
  refine G.sub C [0, 1, 2] (lv' := [(0, .ref (x)), (1, .int (p0)), (2, .ref (o))]) rfl ?_
  refine G.aload_n C 2 dL_gapOf_0 rfl rfl ?_
  refine G.iconst (v := 0) C dL_gapOf_1 (by decide) ?_
  refine G.aload_n C 0 dL_gapOf_2 rfl rfl ?_
  refine G.iload_n C 1 dL_gapOf_3 rfl rfl ?_
  refine G.callXc C TT (st := [.int 0, .ref o]) (cx_X5_gapOf hf) rfl ⟨Nat.le_of_ble_eq_true rfl, Nat.le_of_ble_eq_true rfl⟩ (ko_X5_gapOf hf) rfl m9_773 m9_774 m9_775 m9_2 m9_776 kd_X5_gapOf ⟨Nat.le_of_ble_eq_true rfl, Nat.le_of_ble_eq_true rfl⟩ (Nat.le_of_ble_eq_true rfl) rfl dL_gapOf_4 [] ⟨0, 9, 12, 13⟩ [] htab (fun z hz => nomatch hz) (by decide) (by decide) m9_80 (by decide +kernel) (fun q9 => ?_)
  refine G.astore_n (lv' := [(3, .ref (q9)), (0, .ref (x)), (1, .int (p0)), (2, .ref (o))]) C dL_gapOf_12 rfl (by decide) rfl ?_
  refine G.iconst (v := 1) C dL_gapOf_13 (by decide) ?_
  exact G.iretW C ⟨Nat.le_of_ble_eq_true rfl, Nat.le_of_ble_eq_true rfl⟩ dL_gapOf_14
set_option maxRecDepth 20000 in
set_option maxHeartbeats 4000000 in
theorem cwo_count {l : Launch} {h : PH} {f : Nat → Int64} {x o : Nat} {p0 : Int32} {r : Int32} (hf : f_X5_count h x p0 = some (.ok r)) : CW l yL_count cL_count 4 [(0, 9, 12, 15)] 8 133 [.ref (x), .int (p0), .ref (o)] o h f 0 h (vp_updL f 0 (r).toInt64) := by
  refine CW.of (own := RL) rfl (by decide) (Nat.le_of_ble_eq_true rfl) ?_
  intro p e R s m args below meth c g hR C TT hN htab
  subst hR
  refine G.sub C [0, 1, 2] (lv' := [(0, .ref (x)), (1, .int (p0)), (2, .ref (o))]) rfl ?_
  refine G.aload_n C 2 dL_count_0 rfl rfl ?_
  refine G.iconst (v := 0) C dL_count_1 (by decide) ?_
  refine G.aload_n C 0 dL_count_2 rfl rfl ?_
  refine G.iload_n C 1 dL_count_3 rfl rfl ?_
  refine G.callXo C TT (st := [.int 0, .ref o]) (st2 := .int (r) :: [.int 0, .ref o]) (cx_X5_count hf) rfl (ko_X5_count hf) rfl m9_784 m9_785 m9_786 m9_2 m9_787 kd_X5_count ⟨Nat.le_of_ble_eq_true rfl, Nat.le_of_ble_eq_true rfl⟩ (Nat.le_of_ble_eq_true rfl) rfl rfl dL_count_4 ?_
  refine G.i2l C dL_count_7 ?_
  refine G.lastX C dL_count_8 ?_
  refine G.goto (tgt := 15) C dL_count_9 (by decide) ?_
  refine G.iconst (v := 0) C dL_count_15 (by decide) ?_
  exact G.iretW C ⟨Nat.le_of_ble_eq_true rfl, Nat.le_of_ble_eq_true rfl⟩ dL_count_16
set_option maxRecDepth 20000 in
set_option maxHeartbeats 4000000 in
theorem cwe0_count {l : Launch} {h : PH} {f : Nat → Int64} {x o : Nat} {p0 : Int32} (hf : f_X5_count h x p0 = some (.error eIA)) : CW l yL_count cL_count 4 [(0, 9, 12, 15)] 8 133 [.ref (x), .int (p0), .ref (o)] o h f 1 h f := by
  refine CW.of (own := RL) rfl (by decide) (Nat.le_of_ble_eq_true rfl) ?_
  intro p e R s m args below meth c g hR C TT hN htab
  subst hR
  refine G.sub C [0, 1, 2] (lv' := [(0, .ref (x)), (1, .int (p0)), (2, .ref (o))]) rfl ?_
  refine G.aload_n C 2 dL_count_0 rfl rfl ?_
  refine G.iconst (v := 0) C dL_count_1 (by decide) ?_
  refine G.aload_n C 0 dL_count_2 rfl rfl ?_
  refine G.iload_n C 1 dL_count_3 rfl rfl ?_
  refine G.callXc C TT (st := [.int 0, .ref o]) (cx_X5_count hf) rfl ⟨Nat.le_of_ble_eq_true rfl, Nat.le_of_ble_eq_true rfl⟩ (ko_X5_count hf) rfl m9_784 m9_785 m9_786 m9_2 m9_787 kd_X5_count ⟨Nat.le_of_ble_eq_true rfl, Nat.le_of_ble_eq_true rfl⟩ (Nat.le_of_ble_eq_true rfl) rfl dL_count_4 [] ⟨0, 9, 12, 15⟩ [] htab (fun z hz => nomatch hz) (by decide) (by decide) m9_81 (by decide +kernel) (fun q9 => ?_)
  refine G.astore_n (lv' := [(3, .ref (q9)), (0, .ref (x)), (1, .int (p0)), (2, .ref (o))]) C dL_count_12 rfl (by decide) rfl ?_
  refine G.iconst (v := 1) C dL_count_13 (by decide) ?_
  exact G.iretW C ⟨Nat.le_of_ble_eq_true rfl, Nat.le_of_ble_eq_true rfl⟩ dL_count_14
set_option maxRecDepth 20000 in
set_option maxHeartbeats 4000000 in
theorem cwo_refusal {l : Launch} {h : PH} {f : Nat → Int64} {x o : Nat} {p0 : Int32} {p1 : Int32} {p2 : Int32} {r : Int32} (hf : f_X5_refusal h x p0 p1 p2 = some (.ok r)) : CW l yL_refusal cL_refusal 6 [(0, 12, 15, 13), (0, 12, 19, 15)] 8 136 [.ref (x), .int (p0), .int (p1), .int (p2), .ref (o)] o h f 0 h (vp_updL f 0 (r).toInt64) := by
  refine CW.of (own := RL) rfl (by decide) (Nat.le_of_ble_eq_true rfl) ?_
  intro p e R s m args below meth c g hR C TT hN htab
  subst hR
  refine G.sub C [0, 1, 2, 3, 4] (lv' := [(0, .ref (x)), (1, .int (p0)), (2, .int (p1)), (3, .int (p2)), (4, .ref (o))]) rfl ?_
  refine G.aload C 4 dL_refusal_0 rfl ?_
  refine G.iconst (v := 0) C dL_refusal_2 (by decide) ?_
  refine G.aload_n C 0 dL_refusal_3 rfl rfl ?_
  refine G.iload_n C 1 dL_refusal_4 rfl rfl ?_
  refine G.iload_n C 2 dL_refusal_5 rfl rfl ?_
  refine G.iload_n C 3 dL_refusal_6 rfl rfl ?_
  refine G.callXo C TT (st := [.int 0, .ref o]) (st2 := .int (r) :: [.int 0, .ref o]) (cx_X5_refusal hf) rfl (ko_X5_refusal hf) rfl m9_838 m9_839 m9_840 m9_2 m9_841 kd_X5_refusal ⟨Nat.le_of_ble_eq_true rfl, Nat.le_of_ble_eq_true rfl⟩ (Nat.le_of_ble_eq_true rfl) rfl rfl dL_refusal_7 ?_
  refine G.i2l C dL_refusal_10 ?_
  refine G.lastX C dL_refusal_11 ?_
  refine G.goto (tgt := 23) C dL_refusal_12 (by decide) ?_
  refine G.iconst (v := 0) C dL_refusal_23 (by decide) ?_
  exact G.iretW C ⟨Nat.le_of_ble_eq_true rfl, Nat.le_of_ble_eq_true rfl⟩ dL_refusal_24
set_option maxRecDepth 20000 in
set_option maxHeartbeats 4000000 in
theorem cwe0_refusal {l : Launch} {h : PH} {f : Nat → Int64} {x o : Nat} {p0 : Int32} {p1 : Int32} {p2 : Int32} (hf : f_X5_refusal h x p0 p1 p2 = some (.error eIO)) : CW l yL_refusal cL_refusal 6 [(0, 12, 15, 13), (0, 12, 19, 15)] 8 136 [.ref (x), .int (p0), .int (p1), .int (p2), .ref (o)] o h f 1 h f := by
  refine CW.of (own := RL) rfl (by decide) (Nat.le_of_ble_eq_true rfl) ?_
  intro p e R s m args below meth c g hR C TT hN htab
  subst hR
  refine G.sub C [0, 1, 2, 3, 4] (lv' := [(0, .ref (x)), (1, .int (p0)), (2, .int (p1)), (3, .int (p2)), (4, .ref (o))]) rfl ?_
  refine G.aload C 4 dL_refusal_0 rfl ?_
  refine G.iconst (v := 0) C dL_refusal_2 (by decide) ?_
  refine G.aload_n C 0 dL_refusal_3 rfl rfl ?_
  refine G.iload_n C 1 dL_refusal_4 rfl rfl ?_
  refine G.iload_n C 2 dL_refusal_5 rfl rfl ?_
  refine G.iload_n C 3 dL_refusal_6 rfl rfl ?_
  refine G.callXc C TT (st := [.int 0, .ref o]) (cx_X5_refusal hf) rfl ⟨Nat.le_of_ble_eq_true rfl, Nat.le_of_ble_eq_true rfl⟩ (ko_X5_refusal hf) rfl m9_838 m9_839 m9_840 m9_2 m9_841 kd_X5_refusal ⟨Nat.le_of_ble_eq_true rfl, Nat.le_of_ble_eq_true rfl⟩ (Nat.le_of_ble_eq_true rfl) rfl dL_refusal_7 [] ⟨0, 12, 15, 13⟩ [⟨0, 12, 19, 15⟩] htab (fun z hz => nomatch hz) (by decide) (by decide) m9_80 (by decide +kernel) (fun q9 => ?_)
  refine G.astore (lv' := [(5, .ref (q9)), (0, .ref (x)), (1, .int (p0)), (2, .int (p1)), (3, .int (p2)), (4, .ref (o))]) C dL_refusal_15 (by decide) rfl ?_
  refine G.iconst (v := 1) C dL_refusal_17 (by decide) ?_
  exact G.iretW C ⟨Nat.le_of_ble_eq_true rfl, Nat.le_of_ble_eq_true rfl⟩ dL_refusal_18
set_option maxRecDepth 20000 in
set_option maxHeartbeats 4000000 in
theorem cwe1_refusal {l : Launch} {h : PH} {f : Nat → Int64} {x o : Nat} {p0 : Int32} {p1 : Int32} {p2 : Int32} (hf : f_X5_refusal h x p0 p1 p2 = some (.error eIA)) : CW l yL_refusal cL_refusal 6 [(0, 12, 15, 13), (0, 12, 19, 15)] 8 136 [.ref (x), .int (p0), .int (p1), .int (p2), .ref (o)] o h f 2 h f := by
  refine CW.of (own := RL) rfl (by decide) (Nat.le_of_ble_eq_true rfl) ?_
  intro p e R s m args below meth c g hR C TT hN htab
  subst hR
  refine G.sub C [0, 1, 2, 3, 4] (lv' := [(0, .ref (x)), (1, .int (p0)), (2, .int (p1)), (3, .int (p2)), (4, .ref (o))]) rfl ?_
  refine G.aload C 4 dL_refusal_0 rfl ?_
  refine G.iconst (v := 0) C dL_refusal_2 (by decide) ?_
  refine G.aload_n C 0 dL_refusal_3 rfl rfl ?_
  refine G.iload_n C 1 dL_refusal_4 rfl rfl ?_
  refine G.iload_n C 2 dL_refusal_5 rfl rfl ?_
  refine G.iload_n C 3 dL_refusal_6 rfl rfl ?_
  refine G.callXc C TT (st := [.int 0, .ref o]) (cx_X5_refusal hf) rfl ⟨Nat.le_of_ble_eq_true rfl, Nat.le_of_ble_eq_true rfl⟩ (ko_X5_refusal hf) rfl m9_838 m9_839 m9_840 m9_2 m9_841 kd_X5_refusal ⟨Nat.le_of_ble_eq_true rfl, Nat.le_of_ble_eq_true rfl⟩ (Nat.le_of_ble_eq_true rfl) rfl dL_refusal_7 [⟨0, 12, 15, 13⟩] ⟨0, 12, 19, 15⟩ [] htab (fun z hz => by rw [List.mem_singleton.mp hz]; exact Or.inr ⟨by decide, eIO, m9_80, hN _ (by decide +kernel) _ (by decide +kernel) (by decide +kernel)⟩) (by decide) (by decide) m9_81 (by decide +kernel) (fun q9 => ?_)
  refine G.astore (lv' := [(5, .ref (q9)), (0, .ref (x)), (1, .int (p0)), (2, .int (p1)), (3, .int (p2)), (4, .ref (o))]) C dL_refusal_19 (by decide) rfl ?_
  refine G.iconst (v := 2) C dL_refusal_21 (by decide) ?_
  exact G.iretW C ⟨Nat.le_of_ble_eq_true rfl, Nat.le_of_ble_eq_true rfl⟩ dL_refusal_22
set_option maxRecDepth 20000 in
set_option maxHeartbeats 4000000 in
theorem cwo_meeting {l : Launch} {h : PH} {f : Nat → Int64} {x o : Nat} {p0 : Int32} {p1 : Int32} {p2 : Int32} {p3 : Int32} {r : Int32} (hf : f_X5_meeting h x p0 p1 p2 p3 = some (.ok r)) : CW l yL_meeting cL_meeting 7 [(0, 14, 17, 13), (0, 14, 21, 15)] 8 136 [.ref (x), .int (p0), .int (p1), .int (p2), .int (p3), .ref (o)] o h f 0 h (vp_updL f 0 (r).toInt64) := by
  refine CW.of (own := RL) rfl (by decide) (Nat.le_of_ble_eq_true rfl) ?_
  intro p e R s m args below meth c g hR C TT hN htab
  subst hR
  refine G.sub C [0, 1, 2, 3, 4, 5] (lv' := [(0, .ref (x)), (1, .int (p0)), (2, .int (p1)), (3, .int (p2)), (4, .int (p3)), (5, .ref (o))]) rfl ?_
  refine G.aload C 5 dL_meeting_0 rfl ?_
  refine G.iconst (v := 0) C dL_meeting_2 (by decide) ?_
  refine G.aload_n C 0 dL_meeting_3 rfl rfl ?_
  refine G.iload_n C 1 dL_meeting_4 rfl rfl ?_
  refine G.iload_n C 2 dL_meeting_5 rfl rfl ?_
  refine G.iload_n C 3 dL_meeting_6 rfl rfl ?_
  refine G.iload C 4 dL_meeting_7 rfl ?_
  refine G.callXo C TT (st := [.int 0, .ref o]) (st2 := .int (r) :: [.int 0, .ref o]) (cx_X5_meeting hf) rfl (ko_X5_meeting hf) rfl m9_849 m9_850 m9_851 m9_2 m9_852 kd_X5_meeting ⟨Nat.le_of_ble_eq_true rfl, Nat.le_of_ble_eq_true rfl⟩ (Nat.le_of_ble_eq_true rfl) rfl rfl dL_meeting_9 ?_
  refine G.i2l C dL_meeting_12 ?_
  refine G.lastX C dL_meeting_13 ?_
  refine G.goto (tgt := 25) C dL_meeting_14 (by decide) ?_
  refine G.iconst (v := 0) C dL_meeting_25 (by decide) ?_
  exact G.iretW C ⟨Nat.le_of_ble_eq_true rfl, Nat.le_of_ble_eq_true rfl⟩ dL_meeting_26
set_option maxRecDepth 20000 in
set_option maxHeartbeats 4000000 in
theorem cwe0_meeting {l : Launch} {h : PH} {f : Nat → Int64} {x o : Nat} {p0 : Int32} {p1 : Int32} {p2 : Int32} {p3 : Int32} (hf : f_X5_meeting h x p0 p1 p2 p3 = some (.error eIO)) : CW l yL_meeting cL_meeting 7 [(0, 14, 17, 13), (0, 14, 21, 15)] 8 136 [.ref (x), .int (p0), .int (p1), .int (p2), .int (p3), .ref (o)] o h f 1 h f := by
  refine CW.of (own := RL) rfl (by decide) (Nat.le_of_ble_eq_true rfl) ?_
  intro p e R s m args below meth c g hR C TT hN htab
  subst hR
  refine G.sub C [0, 1, 2, 3, 4, 5] (lv' := [(0, .ref (x)), (1, .int (p0)), (2, .int (p1)), (3, .int (p2)), (4, .int (p3)), (5, .ref (o))]) rfl ?_
  refine G.aload C 5 dL_meeting_0 rfl ?_
  refine G.iconst (v := 0) C dL_meeting_2 (by decide) ?_
  refine G.aload_n C 0 dL_meeting_3 rfl rfl ?_
  refine G.iload_n C 1 dL_meeting_4 rfl rfl ?_
  refine G.iload_n C 2 dL_meeting_5 rfl rfl ?_
  refine G.iload_n C 3 dL_meeting_6 rfl rfl ?_
  refine G.iload C 4 dL_meeting_7 rfl ?_
  refine G.callXc C TT (st := [.int 0, .ref o]) (cx_X5_meeting hf) rfl ⟨Nat.le_of_ble_eq_true rfl, Nat.le_of_ble_eq_true rfl⟩ (ko_X5_meeting hf) rfl m9_849 m9_850 m9_851 m9_2 m9_852 kd_X5_meeting ⟨Nat.le_of_ble_eq_true rfl, Nat.le_of_ble_eq_true rfl⟩ (Nat.le_of_ble_eq_true rfl) rfl dL_meeting_9 [] ⟨0, 14, 17, 13⟩ [⟨0, 14, 21, 15⟩] htab (fun z hz => nomatch hz) (by decide) (by decide) m9_80 (by decide +kernel) (fun q9 => ?_)
  refine G.astore (lv' := [(6, .ref (q9)), (0, .ref (x)), (1, .int (p0)), (2, .int (p1)), (3, .int (p2)), (4, .int (p3)), (5, .ref (o))]) C dL_meeting_17 (by decide) rfl ?_
  refine G.iconst (v := 1) C dL_meeting_19 (by decide) ?_
  exact G.iretW C ⟨Nat.le_of_ble_eq_true rfl, Nat.le_of_ble_eq_true rfl⟩ dL_meeting_20
set_option maxRecDepth 20000 in
set_option maxHeartbeats 4000000 in
theorem cwe1_meeting {l : Launch} {h : PH} {f : Nat → Int64} {x o : Nat} {p0 : Int32} {p1 : Int32} {p2 : Int32} {p3 : Int32} (hf : f_X5_meeting h x p0 p1 p2 p3 = some (.error eIA)) : CW l yL_meeting cL_meeting 7 [(0, 14, 17, 13), (0, 14, 21, 15)] 8 136 [.ref (x), .int (p0), .int (p1), .int (p2), .int (p3), .ref (o)] o h f 2 h f := by
  refine CW.of (own := RL) rfl (by decide) (Nat.le_of_ble_eq_true rfl) ?_
  intro p e R s m args below meth c g hR C TT hN htab
  subst hR
  refine G.sub C [0, 1, 2, 3, 4, 5] (lv' := [(0, .ref (x)), (1, .int (p0)), (2, .int (p1)), (3, .int (p2)), (4, .int (p3)), (5, .ref (o))]) rfl ?_
  refine G.aload C 5 dL_meeting_0 rfl ?_
  refine G.iconst (v := 0) C dL_meeting_2 (by decide) ?_
  refine G.aload_n C 0 dL_meeting_3 rfl rfl ?_
  refine G.iload_n C 1 dL_meeting_4 rfl rfl ?_
  refine G.iload_n C 2 dL_meeting_5 rfl rfl ?_
  refine G.iload_n C 3 dL_meeting_6 rfl rfl ?_
  refine G.iload C 4 dL_meeting_7 rfl ?_
  refine G.callXc C TT (st := [.int 0, .ref o]) (cx_X5_meeting hf) rfl ⟨Nat.le_of_ble_eq_true rfl, Nat.le_of_ble_eq_true rfl⟩ (ko_X5_meeting hf) rfl m9_849 m9_850 m9_851 m9_2 m9_852 kd_X5_meeting ⟨Nat.le_of_ble_eq_true rfl, Nat.le_of_ble_eq_true rfl⟩ (Nat.le_of_ble_eq_true rfl) rfl dL_meeting_9 [⟨0, 14, 17, 13⟩] ⟨0, 14, 21, 15⟩ [] htab (fun z hz => by rw [List.mem_singleton.mp hz]; exact Or.inr ⟨by decide, eIO, m9_80, hN _ (by decide +kernel) _ (by decide +kernel) (by decide +kernel)⟩) (by decide) (by decide) m9_81 (by decide +kernel) (fun q9 => ?_)
  refine G.astore (lv' := [(6, .ref (q9)), (0, .ref (x)), (1, .int (p0)), (2, .int (p1)), (3, .int (p2)), (4, .int (p3)), (5, .ref (o))]) C dL_meeting_21 (by decide) rfl ?_
  refine G.iconst (v := 2) C dL_meeting_23 (by decide) ?_
  exact G.iretW C ⟨Nat.le_of_ble_eq_true rfl, Nat.le_of_ble_eq_true rfl⟩ dL_meeting_24
set_option maxRecDepth 20000 in
set_option maxHeartbeats 4000000 in
theorem cwo_walked {l : Launch} {h : PH} {f : Nat → Int64} {x o : Nat} {p0 : Int32} {p1 : Int32} {p2 : Int32} {p3 : Int32} {r : Int32} (hf : f_X5_walked h x p0 p1 p2 p3 = some (.ok r)) : CW l yL_walked cL_walked 7 [(0, 14, 17, 13), (0, 14, 21, 15)] 8 136 [.ref (x), .int (p0), .int (p1), .int (p2), .int (p3), .ref (o)] o h f 0 h (vp_updL f 0 (r).toInt64) := by
  refine CW.of (own := RL) rfl (by decide) (Nat.le_of_ble_eq_true rfl) ?_
  intro p e R s m args below meth c g hR C TT hN htab
  subst hR
  refine G.sub C [0, 1, 2, 3, 4, 5] (lv' := [(0, .ref (x)), (1, .int (p0)), (2, .int (p1)), (3, .int (p2)), (4, .int (p3)), (5, .ref (o))]) rfl ?_
  refine G.aload C 5 dL_walked_0 rfl ?_
  refine G.iconst (v := 0) C dL_walked_2 (by decide) ?_
  refine G.aload_n C 0 dL_walked_3 rfl rfl ?_
  refine G.iload_n C 1 dL_walked_4 rfl rfl ?_
  refine G.iload_n C 2 dL_walked_5 rfl rfl ?_
  refine G.iload_n C 3 dL_walked_6 rfl rfl ?_
  refine G.iload C 4 dL_walked_7 rfl ?_
  refine G.callXo C TT (st := [.int 0, .ref o]) (st2 := .int (r) :: [.int 0, .ref o]) (cx_X5_walked hf) rfl (ko_X5_walked hf) rfl m9_872 m9_873 m9_874 m9_2 m9_875 kd_X5_walked ⟨Nat.le_of_ble_eq_true rfl, Nat.le_of_ble_eq_true rfl⟩ (Nat.le_of_ble_eq_true rfl) rfl rfl dL_walked_9 ?_
  refine G.i2l C dL_walked_12 ?_
  refine G.lastX C dL_walked_13 ?_
  refine G.goto (tgt := 25) C dL_walked_14 (by decide) ?_
  refine G.iconst (v := 0) C dL_walked_25 (by decide) ?_
  exact G.iretW C ⟨Nat.le_of_ble_eq_true rfl, Nat.le_of_ble_eq_true rfl⟩ dL_walked_26
set_option maxRecDepth 20000 in
set_option maxHeartbeats 4000000 in
theorem cwe0_walked {l : Launch} {h : PH} {f : Nat → Int64} {x o : Nat} {p0 : Int32} {p1 : Int32} {p2 : Int32} {p3 : Int32} (hf : f_X5_walked h x p0 p1 p2 p3 = some (.error eIO)) : CW l yL_walked cL_walked 7 [(0, 14, 17, 13), (0, 14, 21, 15)] 8 136 [.ref (x), .int (p0), .int (p1), .int (p2), .int (p3), .ref (o)] o h f 1 h f := by
  refine CW.of (own := RL) rfl (by decide) (Nat.le_of_ble_eq_true rfl) ?_
  intro p e R s m args below meth c g hR C TT hN htab
  subst hR
  refine G.sub C [0, 1, 2, 3, 4, 5] (lv' := [(0, .ref (x)), (1, .int (p0)), (2, .int (p1)), (3, .int (p2)), (4, .int (p3)), (5, .ref (o))]) rfl ?_
  refine G.aload C 5 dL_walked_0 rfl ?_
  refine G.iconst (v := 0) C dL_walked_2 (by decide) ?_
  refine G.aload_n C 0 dL_walked_3 rfl rfl ?_
  refine G.iload_n C 1 dL_walked_4 rfl rfl ?_
  refine G.iload_n C 2 dL_walked_5 rfl rfl ?_
  refine G.iload_n C 3 dL_walked_6 rfl rfl ?_
  refine G.iload C 4 dL_walked_7 rfl ?_
  refine G.callXc C TT (st := [.int 0, .ref o]) (cx_X5_walked hf) rfl ⟨Nat.le_of_ble_eq_true rfl, Nat.le_of_ble_eq_true rfl⟩ (ko_X5_walked hf) rfl m9_872 m9_873 m9_874 m9_2 m9_875 kd_X5_walked ⟨Nat.le_of_ble_eq_true rfl, Nat.le_of_ble_eq_true rfl⟩ (Nat.le_of_ble_eq_true rfl) rfl dL_walked_9 [] ⟨0, 14, 17, 13⟩ [⟨0, 14, 21, 15⟩] htab (fun z hz => nomatch hz) (by decide) (by decide) m9_80 (by decide +kernel) (fun q9 => ?_)
  refine G.astore (lv' := [(6, .ref (q9)), (0, .ref (x)), (1, .int (p0)), (2, .int (p1)), (3, .int (p2)), (4, .int (p3)), (5, .ref (o))]) C dL_walked_17 (by decide) rfl ?_
  refine G.iconst (v := 1) C dL_walked_19 (by decide) ?_
  exact G.iretW C ⟨Nat.le_of_ble_eq_true rfl, Nat.le_of_ble_eq_true rfl⟩ dL_walked_20
set_option maxRecDepth 20000 in
set_option maxHeartbeats 4000000 in
theorem cwe1_walked {l : Launch} {h : PH} {f : Nat → Int64} {x o : Nat} {p0 : Int32} {p1 : Int32} {p2 : Int32} {p3 : Int32} (hf : f_X5_walked h x p0 p1 p2 p3 = some (.error eIA)) : CW l yL_walked cL_walked 7 [(0, 14, 17, 13), (0, 14, 21, 15)] 8 136 [.ref (x), .int (p0), .int (p1), .int (p2), .int (p3), .ref (o)] o h f 2 h f := by
  refine CW.of (own := RL) rfl (by decide) (Nat.le_of_ble_eq_true rfl) ?_
  intro p e R s m args below meth c g hR C TT hN htab
  subst hR
  refine G.sub C [0, 1, 2, 3, 4, 5] (lv' := [(0, .ref (x)), (1, .int (p0)), (2, .int (p1)), (3, .int (p2)), (4, .int (p3)), (5, .ref (o))]) rfl ?_
  refine G.aload C 5 dL_walked_0 rfl ?_
  refine G.iconst (v := 0) C dL_walked_2 (by decide) ?_
  refine G.aload_n C 0 dL_walked_3 rfl rfl ?_
  refine G.iload_n C 1 dL_walked_4 rfl rfl ?_
  refine G.iload_n C 2 dL_walked_5 rfl rfl ?_
  refine G.iload_n C 3 dL_walked_6 rfl rfl ?_
  refine G.iload C 4 dL_walked_7 rfl ?_
  refine G.callXc C TT (st := [.int 0, .ref o]) (cx_X5_walked hf) rfl ⟨Nat.le_of_ble_eq_true rfl, Nat.le_of_ble_eq_true rfl⟩ (ko_X5_walked hf) rfl m9_872 m9_873 m9_874 m9_2 m9_875 kd_X5_walked ⟨Nat.le_of_ble_eq_true rfl, Nat.le_of_ble_eq_true rfl⟩ (Nat.le_of_ble_eq_true rfl) rfl dL_walked_9 [⟨0, 14, 17, 13⟩] ⟨0, 14, 21, 15⟩ [] htab (fun z hz => by rw [List.mem_singleton.mp hz]; exact Or.inr ⟨by decide, eIO, m9_80, hN _ (by decide +kernel) _ (by decide +kernel) (by decide +kernel)⟩) (by decide) (by decide) m9_81 (by decide +kernel) (fun q9 => ?_)
  refine G.astore (lv' := [(6, .ref (q9)), (0, .ref (x)), (1, .int (p0)), (2, .int (p1)), (3, .int (p2)), (4, .int (p3)), (5, .ref (o))]) C dL_walked_21 (by decide) rfl ?_
  refine G.iconst (v := 2) C dL_walked_23 (by decide) ?_
  exact G.iretW C ⟨Nat.le_of_ble_eq_true rfl, Nat.le_of_ble_eq_true rfl⟩ dL_walked_24
set_option maxRecDepth 20000 in
set_option maxHeartbeats 4000000 in
theorem cwo_phases {l : Launch} {h : PH} {f : Nat → Int64} {x o : Nat} {p0 : Int32} {p1 : Int32} {p2 : Int32} {r : Int32} (hf : f_X5_phases h x p0 p1 p2 = some (.ok r)) : CW l yL_phases cL_phases 6 [(0, 12, 15, 13), (0, 12, 19, 15)] 8 136 [.ref (x), .int (p0), .int (p1), .int (p2), .ref (o)] o h f 0 h (vp_updL f 0 (r).toInt64) := by
  refine CW.of (own := RL) rfl (by decide) (Nat.le_of_ble_eq_true rfl) ?_
  intro p e R s m args below meth c g hR C TT hN htab
  subst hR
  refine G.sub C [0, 1, 2, 3, 4] (lv' := [(0, .ref (x)), (1, .int (p0)), (2, .int (p1)), (3, .int (p2)), (4, .ref (o))]) rfl ?_
  refine G.aload C 4 dL_phases_0 rfl ?_
  refine G.iconst (v := 0) C dL_phases_2 (by decide) ?_
  refine G.aload_n C 0 dL_phases_3 rfl rfl ?_
  refine G.iload_n C 1 dL_phases_4 rfl rfl ?_
  refine G.iload_n C 2 dL_phases_5 rfl rfl ?_
  refine G.iload_n C 3 dL_phases_6 rfl rfl ?_
  refine G.callXo C TT (st := [.int 0, .ref o]) (st2 := .int (r) :: [.int 0, .ref o]) (cx_X5_phases hf) rfl (ko_X5_phases hf) rfl m9_886 m9_887 m9_888 m9_2 m9_889 kd_X5_phases ⟨Nat.le_of_ble_eq_true rfl, Nat.le_of_ble_eq_true rfl⟩ (Nat.le_of_ble_eq_true rfl) rfl rfl dL_phases_7 ?_
  refine G.i2l C dL_phases_10 ?_
  refine G.lastX C dL_phases_11 ?_
  refine G.goto (tgt := 23) C dL_phases_12 (by decide) ?_
  refine G.iconst (v := 0) C dL_phases_23 (by decide) ?_
  exact G.iretW C ⟨Nat.le_of_ble_eq_true rfl, Nat.le_of_ble_eq_true rfl⟩ dL_phases_24
set_option maxRecDepth 20000 in
set_option maxHeartbeats 4000000 in
theorem cwe0_phases {l : Launch} {h : PH} {f : Nat → Int64} {x o : Nat} {p0 : Int32} {p1 : Int32} {p2 : Int32} (hf : f_X5_phases h x p0 p1 p2 = some (.error eIO)) : CW l yL_phases cL_phases 6 [(0, 12, 15, 13), (0, 12, 19, 15)] 8 136 [.ref (x), .int (p0), .int (p1), .int (p2), .ref (o)] o h f 1 h f := by
  refine CW.of (own := RL) rfl (by decide) (Nat.le_of_ble_eq_true rfl) ?_
  intro p e R s m args below meth c g hR C TT hN htab
  subst hR
  refine G.sub C [0, 1, 2, 3, 4] (lv' := [(0, .ref (x)), (1, .int (p0)), (2, .int (p1)), (3, .int (p2)), (4, .ref (o))]) rfl ?_
  refine G.aload C 4 dL_phases_0 rfl ?_
  refine G.iconst (v := 0) C dL_phases_2 (by decide) ?_
  refine G.aload_n C 0 dL_phases_3 rfl rfl ?_
  refine G.iload_n C 1 dL_phases_4 rfl rfl ?_
  refine G.iload_n C 2 dL_phases_5 rfl rfl ?_
  refine G.iload_n C 3 dL_phases_6 rfl rfl ?_
  refine G.callXc C TT (st := [.int 0, .ref o]) (cx_X5_phases hf) rfl ⟨Nat.le_of_ble_eq_true rfl, Nat.le_of_ble_eq_true rfl⟩ (ko_X5_phases hf) rfl m9_886 m9_887 m9_888 m9_2 m9_889 kd_X5_phases ⟨Nat.le_of_ble_eq_true rfl, Nat.le_of_ble_eq_true rfl⟩ (Nat.le_of_ble_eq_true rfl) rfl dL_phases_7 [] ⟨0, 12, 15, 13⟩ [⟨0, 12, 19, 15⟩] htab (fun z hz => nomatch hz) (by decide) (by decide) m9_80 (by decide +kernel) (fun q9 => ?_)
  refine G.astore (lv' := [(5, .ref (q9)), (0, .ref (x)), (1, .int (p0)), (2, .int (p1)), (3, .int (p2)), (4, .ref (o))]) C dL_phases_15 (by decide) rfl ?_
  refine G.iconst (v := 1) C dL_phases_17 (by decide) ?_
  exact G.iretW C ⟨Nat.le_of_ble_eq_true rfl, Nat.le_of_ble_eq_true rfl⟩ dL_phases_18
set_option maxRecDepth 20000 in
set_option maxHeartbeats 4000000 in
theorem cwe1_phases {l : Launch} {h : PH} {f : Nat → Int64} {x o : Nat} {p0 : Int32} {p1 : Int32} {p2 : Int32} (hf : f_X5_phases h x p0 p1 p2 = some (.error eIA)) : CW l yL_phases cL_phases 6 [(0, 12, 15, 13), (0, 12, 19, 15)] 8 136 [.ref (x), .int (p0), .int (p1), .int (p2), .ref (o)] o h f 2 h f := by
  refine CW.of (own := RL) rfl (by decide) (Nat.le_of_ble_eq_true rfl) ?_
  intro p e R s m args below meth c g hR C TT hN htab
  subst hR
  refine G.sub C [0, 1, 2, 3, 4] (lv' := [(0, .ref (x)), (1, .int (p0)), (2, .int (p1)), (3, .int (p2)), (4, .ref (o))]) rfl ?_
  refine G.aload C 4 dL_phases_0 rfl ?_
  refine G.iconst (v := 0) C dL_phases_2 (by decide) ?_
  refine G.aload_n C 0 dL_phases_3 rfl rfl ?_
  refine G.iload_n C 1 dL_phases_4 rfl rfl ?_
  refine G.iload_n C 2 dL_phases_5 rfl rfl ?_
  refine G.iload_n C 3 dL_phases_6 rfl rfl ?_
  refine G.callXc C TT (st := [.int 0, .ref o]) (cx_X5_phases hf) rfl ⟨Nat.le_of_ble_eq_true rfl, Nat.le_of_ble_eq_true rfl⟩ (ko_X5_phases hf) rfl m9_886 m9_887 m9_888 m9_2 m9_889 kd_X5_phases ⟨Nat.le_of_ble_eq_true rfl, Nat.le_of_ble_eq_true rfl⟩ (Nat.le_of_ble_eq_true rfl) rfl dL_phases_7 [⟨0, 12, 15, 13⟩] ⟨0, 12, 19, 15⟩ [] htab (fun z hz => by rw [List.mem_singleton.mp hz]; exact Or.inr ⟨by decide, eIO, m9_80, hN _ (by decide +kernel) _ (by decide +kernel) (by decide +kernel)⟩) (by decide) (by decide) m9_81 (by decide +kernel) (fun q9 => ?_)
  refine G.astore (lv' := [(5, .ref (q9)), (0, .ref (x)), (1, .int (p0)), (2, .int (p1)), (3, .int (p2)), (4, .ref (o))]) C dL_phases_19 (by decide) rfl ?_
  refine G.iconst (v := 2) C dL_phases_21 (by decide) ?_
  exact G.iretW C ⟨Nat.le_of_ble_eq_true rfl, Nat.le_of_ble_eq_true rfl⟩ dL_phases_22
set_option maxRecDepth 20000 in
set_option maxHeartbeats 4000000 in
theorem cwo_bestHue {l : Launch} {h : PH} {f : Nat → Int64} {x o : Nat} {p0 : Int32} {r : Int32} (hf : f_X5_bestHue h x p0 = some (.ok r)) : CW l yL_bestHue cL_bestHue 4 [(0, 9, 12, 13)] 8 133 [.ref (x), .int (p0), .ref (o)] o h f 0 h (vp_updL f 0 (r).toInt64) := by
  refine CW.of (own := RL) rfl (by decide) (Nat.le_of_ble_eq_true rfl) ?_
  intro p e R s m args below meth c g hR C TT hN htab
  subst hR
  refine G.sub C [0, 1, 2] (lv' := [(0, .ref (x)), (1, .int (p0)), (2, .ref (o))]) rfl ?_
  refine G.aload_n C 2 dL_bestHue_0 rfl rfl ?_
  refine G.iconst (v := 0) C dL_bestHue_1 (by decide) ?_
  refine G.aload_n C 0 dL_bestHue_2 rfl rfl ?_
  refine G.iload_n C 1 dL_bestHue_3 rfl rfl ?_
  refine G.callXo C TT (st := [.int 0, .ref o]) (st2 := .int (r) :: [.int 0, .ref o]) (cx_X5_bestHue hf) rfl (ko_X5_bestHue hf) rfl m9_926 m9_927 m9_928 m9_2 m9_929 kd_X5_bestHue ⟨Nat.le_of_ble_eq_true rfl, Nat.le_of_ble_eq_true rfl⟩ (Nat.le_of_ble_eq_true rfl) rfl rfl dL_bestHue_4 ?_
  refine G.i2l C dL_bestHue_7 ?_
  refine G.lastX C dL_bestHue_8 ?_
  refine G.goto (tgt := 15) C dL_bestHue_9 (by decide) ?_
  refine G.iconst (v := 0) C dL_bestHue_15 (by decide) ?_
  exact G.iretW C ⟨Nat.le_of_ble_eq_true rfl, Nat.le_of_ble_eq_true rfl⟩ dL_bestHue_16
set_option maxRecDepth 20000 in
set_option maxHeartbeats 4000000 in
theorem cwe0_bestHue {l : Launch} {h : PH} {f : Nat → Int64} {x o : Nat} {p0 : Int32} (hf : f_X5_bestHue h x p0 = some (.error eIO)) : CW l yL_bestHue cL_bestHue 4 [(0, 9, 12, 13)] 8 133 [.ref (x), .int (p0), .ref (o)] o h f 1 h f := by
  refine CW.of (own := RL) rfl (by decide) (Nat.le_of_ble_eq_true rfl) ?_
  intro p e R s m args below meth c g hR C TT hN htab
  subst hR
  refine G.sub C [0, 1, 2] (lv' := [(0, .ref (x)), (1, .int (p0)), (2, .ref (o))]) rfl ?_
  refine G.aload_n C 2 dL_bestHue_0 rfl rfl ?_
  refine G.iconst (v := 0) C dL_bestHue_1 (by decide) ?_
  refine G.aload_n C 0 dL_bestHue_2 rfl rfl ?_
  refine G.iload_n C 1 dL_bestHue_3 rfl rfl ?_
  refine G.callXc C TT (st := [.int 0, .ref o]) (cx_X5_bestHue hf) rfl ⟨Nat.le_of_ble_eq_true rfl, Nat.le_of_ble_eq_true rfl⟩ (ko_X5_bestHue hf) rfl m9_926 m9_927 m9_928 m9_2 m9_929 kd_X5_bestHue ⟨Nat.le_of_ble_eq_true rfl, Nat.le_of_ble_eq_true rfl⟩ (Nat.le_of_ble_eq_true rfl) rfl dL_bestHue_4 [] ⟨0, 9, 12, 13⟩ [] htab (fun z hz => nomatch hz) (by decide) (by decide) m9_80 (by decide +kernel) (fun q9 => ?_)
  refine G.astore_n (lv' := [(3, .ref (q9)), (0, .ref (x)), (1, .int (p0)), (2, .ref (o))]) C dL_bestHue_12 rfl (by decide) rfl ?_
  refine G.iconst (v := 1) C dL_bestHue_13 (by decide) ?_
  exact G.iretW C ⟨Nat.le_of_ble_eq_true rfl, Nat.le_of_ble_eq_true rfl⟩ dL_bestHue_14
set_option maxRecDepth 20000 in
set_option maxHeartbeats 4000000 in
theorem cwo_joining {l : Launch} {h : PH} {f : Nat → Int64} {x o : Nat} {p0 : Int32} {p1 : Int32} {r : (Int32 × PH)} (hf : f_X5_joining h x p0 p1 = some (.ok r)) : CW l yL_joining cL_joining 5 [(0, 10, 13, 13)] 8 146 [.ref (x), .int (p0), .int (p1), .ref (o)] o h f 0 r.2 (vp_updL f 0 (r.1).toInt64) := by
  refine CW.of (own := RL) rfl (by decide) (Nat.le_of_ble_eq_true rfl) ?_
  intro p e R s m args below meth c g hR C TT hN htab
  subst hR
  refine G.sub C [0, 1, 2, 3] (lv' := [(0, .ref (x)), (1, .int (p0)), (2, .int (p1)), (3, .ref (o))]) rfl ?_
  refine G.aload_n C 3 dL_joining_0 rfl rfl ?_
  refine G.iconst (v := 0) C dL_joining_1 (by decide) ?_
  refine G.aload_n C 0 dL_joining_2 rfl rfl ?_
  refine G.iload_n C 1 dL_joining_3 rfl rfl ?_
  refine G.iload_n C 2 dL_joining_4 rfl rfl ?_
  refine G.callXo C TT (st := [.int 0, .ref o]) (st2 := .int (r.1) :: [.int 0, .ref o]) (cx_X5_joining hf) rfl (ko_X5_joining hf) rfl m9_947 m9_948 m9_949 m9_2 m9_950 kd_X5_joining ⟨Nat.le_of_ble_eq_true rfl, Nat.le_of_ble_eq_true rfl⟩ (Nat.le_of_ble_eq_true rfl) rfl rfl dL_joining_5 ?_
  refine G.i2l C dL_joining_8 ?_
  refine G.lastX C dL_joining_9 ?_
  refine G.goto (tgt := 17) C dL_joining_10 (by decide) ?_
  refine G.iconst (v := 0) C dL_joining_17 (by decide) ?_
  exact G.iretW C ⟨Nat.le_of_ble_eq_true rfl, Nat.le_of_ble_eq_true rfl⟩ dL_joining_18
set_option maxRecDepth 20000 in
set_option maxHeartbeats 4000000 in
theorem cwe0_joining {l : Launch} {h : PH} {f : Nat → Int64} {x o : Nat} {p0 : Int32} {p1 : Int32} {hx : PH} (hf : f_X5_joining h x p0 p1 = some (.error (eIO, hx))) : CW l yL_joining cL_joining 5 [(0, 10, 13, 13)] 8 146 [.ref (x), .int (p0), .int (p1), .ref (o)] o h f 1 hx f := by
  refine CW.of (own := RL) rfl (by decide) (Nat.le_of_ble_eq_true rfl) ?_
  intro p e R s m args below meth c g hR C TT hN htab
  subst hR
  refine G.sub C [0, 1, 2, 3] (lv' := [(0, .ref (x)), (1, .int (p0)), (2, .int (p1)), (3, .ref (o))]) rfl ?_
  refine G.aload_n C 3 dL_joining_0 rfl rfl ?_
  refine G.iconst (v := 0) C dL_joining_1 (by decide) ?_
  refine G.aload_n C 0 dL_joining_2 rfl rfl ?_
  refine G.iload_n C 1 dL_joining_3 rfl rfl ?_
  refine G.iload_n C 2 dL_joining_4 rfl rfl ?_
  refine G.callXc C TT (st := [.int 0, .ref o]) (cx_X5_joining hf) rfl ⟨Nat.le_of_ble_eq_true rfl, Nat.le_of_ble_eq_true rfl⟩ (ko_X5_joining hf) rfl m9_947 m9_948 m9_949 m9_2 m9_950 kd_X5_joining ⟨Nat.le_of_ble_eq_true rfl, Nat.le_of_ble_eq_true rfl⟩ (Nat.le_of_ble_eq_true rfl) rfl dL_joining_5 [] ⟨0, 10, 13, 13⟩ [] htab (fun z hz => nomatch hz) (by decide) (by decide) m9_80 (by decide +kernel) (fun q9 => ?_)
  refine G.astore (lv' := [(4, .ref (q9)), (0, .ref (x)), (1, .int (p0)), (2, .int (p1)), (3, .ref (o))]) C dL_joining_13 (by decide) rfl ?_
  refine G.iconst (v := 1) C dL_joining_15 (by decide) ?_
  exact G.iretW C ⟨Nat.le_of_ble_eq_true rfl, Nat.le_of_ble_eq_true rfl⟩ dL_joining_16
set_option maxRecDepth 20000 in
set_option maxHeartbeats 4000000 in
theorem cwo_greatest {l : Launch} {h : PH} {f : Nat → Int64} {x o : Nat} {p0 : Int32} {r : Int32} (hf : f_X5_greatest h x p0 = some (.ok r)) : CW l yL_greatest cL_greatest 4 [(0, 9, 12, 13)] 8 133 [.ref (x), .int (p0), .ref (o)] o h f 0 h (vp_updL f 0 (r).toInt64) := by
  refine CW.of (own := RL) rfl (by decide) (Nat.le_of_ble_eq_true rfl) ?_
  intro p e R s m args below meth c g hR C TT hN htab
  subst hR
  refine G.sub C [0, 1, 2] (lv' := [(0, .ref (x)), (1, .int (p0)), (2, .ref (o))]) rfl ?_
  refine G.aload_n C 2 dL_greatest_0 rfl rfl ?_
  refine G.iconst (v := 0) C dL_greatest_1 (by decide) ?_
  refine G.aload_n C 0 dL_greatest_2 rfl rfl ?_
  refine G.iload_n C 1 dL_greatest_3 rfl rfl ?_
  refine G.callXo C TT (st := [.int 0, .ref o]) (st2 := .int (r) :: [.int 0, .ref o]) (cx_X5_greatest hf) rfl (ko_X5_greatest hf) rfl m9_958 m9_959 m9_960 m9_2 m9_961 kd_X5_greatest ⟨Nat.le_of_ble_eq_true rfl, Nat.le_of_ble_eq_true rfl⟩ (Nat.le_of_ble_eq_true rfl) rfl rfl dL_greatest_4 ?_
  refine G.i2l C dL_greatest_7 ?_
  refine G.lastX C dL_greatest_8 ?_
  refine G.goto (tgt := 15) C dL_greatest_9 (by decide) ?_
  refine G.iconst (v := 0) C dL_greatest_15 (by decide) ?_
  exact G.iretW C ⟨Nat.le_of_ble_eq_true rfl, Nat.le_of_ble_eq_true rfl⟩ dL_greatest_16
set_option maxRecDepth 20000 in
set_option maxHeartbeats 4000000 in
theorem cwe0_greatest {l : Launch} {h : PH} {f : Nat → Int64} {x o : Nat} {p0 : Int32} (hf : f_X5_greatest h x p0 = some (.error eIO)) : CW l yL_greatest cL_greatest 4 [(0, 9, 12, 13)] 8 133 [.ref (x), .int (p0), .ref (o)] o h f 1 h f := by
  refine CW.of (own := RL) rfl (by decide) (Nat.le_of_ble_eq_true rfl) ?_
  intro p e R s m args below meth c g hR C TT hN htab
  subst hR
  refine G.sub C [0, 1, 2] (lv' := [(0, .ref (x)), (1, .int (p0)), (2, .ref (o))]) rfl ?_
  refine G.aload_n C 2 dL_greatest_0 rfl rfl ?_
  refine G.iconst (v := 0) C dL_greatest_1 (by decide) ?_
  refine G.aload_n C 0 dL_greatest_2 rfl rfl ?_
  refine G.iload_n C 1 dL_greatest_3 rfl rfl ?_
  refine G.callXc C TT (st := [.int 0, .ref o]) (cx_X5_greatest hf) rfl ⟨Nat.le_of_ble_eq_true rfl, Nat.le_of_ble_eq_true rfl⟩ (ko_X5_greatest hf) rfl m9_958 m9_959 m9_960 m9_2 m9_961 kd_X5_greatest ⟨Nat.le_of_ble_eq_true rfl, Nat.le_of_ble_eq_true rfl⟩ (Nat.le_of_ble_eq_true rfl) rfl dL_greatest_4 [] ⟨0, 9, 12, 13⟩ [] htab (fun z hz => nomatch hz) (by decide) (by decide) m9_80 (by decide +kernel) (fun q9 => ?_)
  refine G.astore_n (lv' := [(3, .ref (q9)), (0, .ref (x)), (1, .int (p0)), (2, .ref (o))]) C dL_greatest_12 rfl (by decide) rfl ?_
  refine G.iconst (v := 1) C dL_greatest_13 (by decide) ?_
  exact G.iretW C ⟨Nat.le_of_ble_eq_true rfl, Nat.le_of_ble_eq_true rfl⟩ dL_greatest_14
