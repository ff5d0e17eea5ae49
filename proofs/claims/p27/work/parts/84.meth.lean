def CO (E : Ev) (S : St) (a m : Nat) (o : Option ((String ⊕ Int32) × St)) (c : String ⊕ Int32) (z : Zs) : Prop := ∃ S', o = some (c, S') ∧ VX E S' a z ∧ Ag (NRf E m) S S'
