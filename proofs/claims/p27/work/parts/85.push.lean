section PSH
variable {E : Ev} {S : St} {a m a3 fu : Nat} {z : Zs}
theorem co_same (v : VX E S a z) {c : String ⊕ Int32} : CO E S a m (some (c, S)) c z := ⟨S, rfl, v, Ag_refl⟩
end PSH
