section RJ
variable {E : Ev} {m fu i k : Nat} {A : Enw} {S : St} {y : Ms}
theorem z_push {mx : Nat} {x : Int32} (h : (aPush mx x y).2 = 0) : y.2 = 0 := by
  unfold aPush at h
  split at h
  · exact h
  · rename_i h2
    simpa using h2
theorem z_req {c : Bool} {q : Int32} (hq : q ≠ 0) (h : (aReq c q y).2 = 0) : y.2 = 0 := by
  unfold aReq at h
  split at h
  · exact absurd h hq
  · exact h
theorem z_pop (h : (aPop y).2.2 = 0) : y.2 = 0 := by
  unfold aPop at h
  split at h
  · exact h
  · rename_i h2
    simpa using h2
theorem z_popC {c : Int32 → Bool} (h : (aPopC c y).2.2 = 0) : y.2 = 0 := z_pop (z_req (by decide) h)
end RJ
