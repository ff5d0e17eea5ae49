/-! .. the code's own cells -/
theorem nrf_pc {E : Ev} {m : Nat} (_ : LR E m) {C : Nat} (_ : E.1 C = some (0, 0, 0)) : ∀ q, PC E C q → NRf E m q := fun _ _ => trivial
