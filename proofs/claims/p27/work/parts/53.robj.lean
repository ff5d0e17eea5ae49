section RO
variable {E : Ev} {m fu i k : Nat} {A : Enw} {S : St} {y : Ms}
theorem sv_rep {d : Dcl} {old new : Int32} {l : Nat → Int32} {n : Nat} (h : ∀ j, j < n → svA d (l j)) (hn : svA d new) : ∀ j, j < n → svA d (rep old new l j) := by
  intro j hj
  unfold rep
  split
  · exact hn
  · exact h j hj
end RO
