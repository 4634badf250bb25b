/-! PURE READING, 14: the class's Text, writes; numbers in it -/
/-- only the two cells of the text changed -/
def onlyT (t : Nat) (h h' : PH) : Prop := ∀ b, b < t ∨ t + 2 ≤ b → h' b = h b
section TextOps2
variable {h : PH} {t : Nat} {B : List Nat}
theorem repX.same {h' : PH} (H : repX h t B) (h1 : ∀ b, t ≤ b → b < t + 2 → h' b = h b) : repX h' t B := by
  obtain ⟨cf, H1, H2⟩ := H
  exact ⟨cf, ⟨(h1 _ (by omega) (by omega)).trans H1.1, (h1 _ (by omega) (by omega)).trans H1.2⟩, H2⟩
end TextOps2
