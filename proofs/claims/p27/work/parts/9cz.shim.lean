/-! .. an object's own cells -/
theorem nrf_po {E : Ev} {m : Nat} (_ : LR E m) {C c0 : Nat} (_ : E.1 C = some (0, c0, 0)) (_ : c0 ≠ 10) : ∀ q, PO E C c0 q → NRf E m q := fun _ _ => trivial
