/-! .. what the class touches is none of it -/
section SH1
variable {E : Ev} {m : Nat}
theorem nrf_o (_ : LR E m) {b ci : Nat} (_ : E.1 b = some (0, ci, 0)) (_ : ci ≠ 10) : NRf E m b := trivial
theorem nrf_a (_ : LR E m) {b ci j : Nat} {u : Tp} (_ : E.1 b = some (0, ci, 0)) (_ : ci ≠ 10) (_ : (ftab ci)[j]? = some (some u)) (_ : u.1 = 1) : NRf E m (E.2 b j) := trivial
theorem nrf_pf (_ : LR E m) {f : Nat} (_ : E.1 f = some (0, 2, 0)) : ∀ q, PF E f q → NRf E m q := fun _ _ => trivial
theorem nrf_pt (_ : LR E m) {t : Nat} (_ : E.1 t = some (0, 3, 0)) : ∀ q, PT E t q → NRf E m q := fun _ _ => trivial
theorem nrf_in {J : Nat} (_ : LJ E J) (_ : LR E m) : ∀ q, PIn E J q → NRf E m q := fun _ _ => trivial
theorem nrf_ck {K : Nat} (_ : LK E K) (_ : LR E m) : ∀ q, PCk E K q → NRf E m q := fun _ _ => trivial
end SH1
