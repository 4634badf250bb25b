/-! PURE READING, 27: each call leads from a good state to a good one; which numbers its errors have -/
def okK (n : Nat) : Except Nat (Int32 × AAt) → Prop
  | .error k => 1 ≤ k ∧ k ≤ n
  | .ok v => wfA v.2
def okL (n : Nat) : Except Nat Int32 → Prop
  | .error k => 1 ≤ k ∧ k ≤ n
  | .ok _ => True
section Good
variable {A : AAt}
theorem ok_er {n k : Nat} (h1 : 1 ≤ k) (h2 : k ≤ n) : okK n (.error k) := ⟨h1, h2⟩
theorem ok_now (W : wfA A) {T : TTt} {v : Int32} {n : Nat} (h : wfT T) : okK n (.ok (v, T, (svA A).2)) := W.sv.put h
theorem ok_gap (W : wfA A) (a b : Int32) : okK 3 (sp_gap A a b) := by
  unfold sp_gap
  split
  · exact ok_er (by omega) (by omega)
  · split
    · exact ok_er (by omega) (by omega)
    · rename_i v hv
      obtain ⟨v1, v2, -⟩ := btw_some (by omega) hv
      split
      · exact ok_er (by omega) (by omega)
      · rename_i hno
        exact ok_now W (wf_gap W.1 v1 v2 (any_no hno))
theorem ok_rope (W : wfA A) (a : Int32) : okK 2 (sp_rope A a) := by
  unfold sp_rope
  split
  · exact ok_er (by omega) (by omega)
  · rename_i n hv
    obtain ⟨v1, v2, -⟩ := btw_some (by omega) hv
    split
    · exact ok_er (by omega) (by omega)
    · rename_i hl
      exact ok_now W (wf_rope W.1 hl v1 v2)
theorem ok_drop (W : wfA A) (a : Int32) : okK 1 (sp_drop A a) := by
  unfold sp_drop
  split
  · exact ok_er (by omega) (by omega)
  · exact ok_now W (wf_drop W.1 _)
theorem ok_lay (W : wfA A) (a b c : Int32) : okK 3 (sp_lay A a b c) := by
  have hR := W.1.2.1
  unfold sp_lay
  split
  · exact ok_er (by omega) (by omega)
  · rename_i i hi
    obtain ⟨i1, -⟩ := rng_some (by omega) hi
    split
    · exact ok_er (by omega) (by omega)
    · rename_i u hu
      obtain ⟨u1, -⟩ := rng_some (by omega) hu
      have hg := W.1.1 u
      split
      · exact ok_er (by omega) (by omega)
      · rename_i p hp
        obtain ⟨p1, -⟩ := rng_some (by omega) hp
        split
        · rename_i hw
          exact ok_now W (wf_set W.1 _ (wf_lay W.1.1 (W.1.2.2 _ (atR_mem i1)) u1 p1 hw))
        · exact ok_er (by omega) (by omega)
theorem ok_take (W : wfA A) (a b : Int32) : okK 2 (sp_take A a b) := by
  have hR := W.1.2.1
  unfold sp_take
  split
  · exact ok_er (by omega) (by omega)
  · rename_i i hi
    obtain ⟨i1, -⟩ := rng_some (by omega) hi
    split
    · exact ok_er (by omega) (by omega)
    · split
      · exact ok_er (by omega) (by omega)
      · exact ok_now W (wf_set W.1 _ ((W.1.2.2 _ (atR_mem i1)).sub List.filter_sublist))
theorem ok_stretch (W : wfA A) (a b : Int32) : okK 3 (sp_stretch A a b) := by
  have hR := W.1.2.1
  unfold sp_stretch
  split
  · exact ok_er (by omega) (by omega)
  · rename_i i hi
    obtain ⟨i1, -⟩ := rng_some (by omega) hi
    split
    · exact ok_er (by omega) (by omega)
    · rename_i n hn
      obtain ⟨n1, n2, -⟩ := btw_some (by omega) hn
      split
      · rename_i hc
        exact ok_now W (wf_set W.1 _ (wf_flt (W.1.2.2 _ (atR_mem i1)) n1 n2 hc))
      · exact ok_er (by omega) (by omega)
theorem wf_add {g : Nat → Nat} {R : RRt} (W : wfS g R) (hR : ¬ R.length = 4) {X : Nat × List (Nat × Nat)} (h : wfR g X.1 X.2) : wfS g (R ++ [X]) := by
  obtain ⟨W1, W2, W3⟩ := W
  refine ⟨W1, by rw [List.length_append]; show R.length + 1 ≤ 4; omega, fun Y hY => ?_⟩
  rcases List.mem_append.mp hY with q | q
  · exact W3 Y q
  · rw [List.mem_singleton.mp q]; exact h
theorem ok_cut (W : wfA A) (a b : Int32) : okK 3 (sp_cut A a b) := by
  have hR := W.1.2.1
  unfold sp_cut
  split
  · exact ok_er (by omega) (by omega)
  · rename_i i hi
    obtain ⟨i1, -⟩ := rng_some (by omega) hi
    have WR := W.1.2.2 _ (atR_mem i1)
    have h60 := WR.1
    split
    · exact ok_er (by omega) (by omega)
    · rename_i p hp
      obtain ⟨p1, p2, -⟩ := btw_some (by omega) hp
      split
      · exact ok_er (by omega) (by omega)
      · rename_i hl
        exact ok_now W (wf_set (wf_add W.1 hl (wf_back W.1.1 WR (show p < _ by omega))) _ (wf_flt WR p1 (by omega) (by have := clash_len WR; omega)))
theorem ok_turn (W : wfA A) (a : Int32) : okK 1 (sp_turn A a) := by
  have hR := W.1.2.1
  unfold sp_turn
  split
  · exact ok_er (by omega) (by omega)
  · rename_i i hi
    obtain ⟨i1, -⟩ := rng_some (by omega) hi
    exact ok_now W (wf_set W.1 _ (wf_turn W.1.1 (W.1.2.2 _ (atR_mem i1))))
theorem ok_join (W : wfA A) (a b : Int32) : okK 2 (sp_join A a b) := by
  have hR := W.1.2.1
  unfold sp_join
  split
  · exact ok_er (by omega) (by omega)
  · rename_i i hi
    obtain ⟨i1, -⟩ := rng_some (by omega) hi
    split
    · exact ok_er (by omega) (by omega)
    · rename_i j hj
      obtain ⟨j1, -⟩ := rng_some (by omega) hj
      split
      · exact ok_er (by omega) (by omega)
      · split
        · rename_i hr
          exact ok_now W (wf_drop (wf_set W.1 _ (wf_join W.1.1 (W.1.2.2 _ (atR_mem i1)) (W.1.2.2 _ (atR_mem j1)) hr)) _)
        · exact ok_er (by omega) (by omega)
theorem ok_joining (W : wfA A) (a b : Int32) : okK 1 (sp_joining A a b) := by
  unfold sp_joining
  split
  · exact ok_er (by omega) (by omega)
  · split
    · exact ok_er (by omega) (by omega)
    · exact W
theorem ok_append (W : wfA A) (a : Int32) : okK 2 (sp_append A a) := by
  unfold sp_append
  split
  · exact ok_er (by omega) (by omega)
  · rename_i c hc
    obtain ⟨c1, c2, -⟩ := btw_some (by omega) hc
    split
    · rename_i hl
      obtain ⟨W1, W2, W3, W4, W5, W6⟩ := W
      refine ⟨W1, W2, W3, W4, by rw [List.length_append]; show A.2.2.2.length + 1 ≤ 60; omega, fun d hd => ?_⟩
      rcases List.mem_append.mp hd with q | q
      · exact W6 d q
      · rw [List.mem_singleton.mp q]; exact ⟨c1, c2⟩
    · exact ok_er (by omega) (by omega)
theorem ok_undo (W : wfA A) : okK 1 (sp_undo A) := by
  unfold sp_undo
  split
  · exact ok_er (by omega) (by omega)
  · rename_i T hT
    obtain ⟨W1, W2, W3, W4, W5⟩ := W
    refine ⟨W2 T (List.mem_of_getElem? hT), fun T' hT' => W2 T' (List.mem_of_mem_take hT'), ?_, W4, W5⟩
    show (A.2.1.take _).length ≤ 6
    rw [List.length_take]
    omega
theorem ok_restore (W : wfA A) : okK 1 (sp_restore A) := by
  unfold sp_restore
  split
  · exact ok_er (by omega) (by omega)
  · rename_i T hT
    exact W.sv.put (W.2.2.2.1 T hT)
end Good
