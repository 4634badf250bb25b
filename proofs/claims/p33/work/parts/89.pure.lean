/-! what was left to pure reading -/
theorem pure_claim {xs : Nat → Int32} {L : Nat} (hL : L ≤ 260) : PureClaim xs L := by
  intro z
  obtain ⟨h2, c1, c2, c3⟩ := I_class (h := pu (fun _ => none) z (.inr (.inr (4, [.null, .null, .null, .null, .null, .int 0])))) (x := z) pu_s
  exact ⟨h2, c1, L_law hL wf_A09 c2 rfl⟩
