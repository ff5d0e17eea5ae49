def neqF (f g : Nat → Int32) : Nat → Nat → Bool
  | _, 0 => false
  | i, k + 1 => (f i != g i) || neqF f g (i + 1) k
theorem chJ_n {d : Dcl} {x y : Nat → Int32} : ∀ (k i : Nat), chJ d x y i k = neqF (fun z => joinA d (x z) (y z)) x i k
  | 0, _ => rfl
  | k + 1, i => by
    show (_ || chJ d x y (i + 1) k) = (_ || neqF _ x (i + 1) k)
    rw [chJ_n k (i + 1)]
def TWX (A : Enw) (tb : Nat → Option Fr) : Prop := ∀ i x, i < 100 → tb i = some x → WX A x
