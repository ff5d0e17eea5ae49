def dgA (f : Nat → Int32) : Nat → Nat → Int64 → Int64
  | 0, _, x => x
  | k + 1, i, x => dgA f k (i + 1) (x * 31 + (f i).toInt64)
def dgF (c : Cd) (y : Fr) (x : Int64) : Int64 := dgA y.2.1 y.2.2.1 0 (dgA y.1 (cloc c) 0 (x * 31 + (n32 y.2.2.1).toInt64)) * 31 + (b2 y.2.2.2).toInt64
def dgO (c : Cd) (o : Option Fr) (x : Int64) : Int64 := match o with
  | none => x * 31
  | some y => dgF c y (x * 31 + 1)
def dgT (c : Cd) (ti : Nat → Option Fr) : Nat → Nat → Int64 → Int64
  | 0, _, x => x
  | k + 1, i, x => dgT c ti k (i + 1) (dgO c (ti i) x)
def dgZ (z : Zs) : Int64 := dgT z.1.2.2 (zI z) (cn z.1.2.2) 0 ((((((37 * 31 + (n32 z.1.1.1).toInt64) * 31 + (n32 (fcnt z.1.2.1)).toInt64) * 31 + (n32 (mcnt z.1.2.1)).toInt64) * 31 + (n32 (cn z.1.2.2)).toInt64) * 31 + (n32 (chn z.1.2.2)).toInt64) * 31 + (n32 (cntT (zT z) 100)).toInt64)
section DGC
variable {E : Ev} {S : St} {a m a3 fu : Nat} {z : Zs}
theorem c_dgS {f : Nat} {y : Fr} (v : VF E S f y) (h12 : y.2.2.1 ≤ 12) : ∀ (k i F : Nat) (x : Int64), i + k = y.2.2.1 → k + 1 ≤ F → lp_X11_addFrame_54 fu E f F x (n32 i) S = some (dgA y.2.1 k i x * 31 + (b2 y.2.2.2).toInt64, S) := by
  intro k
  induction k with
  | zero =>
    intro i F x hk hF
    obtain ⟨F, rfl⟩ : ∃ z, F = z + 1 := ⟨F - 1, by omega⟩
    show bd_X11_addFrame_54 fu E f _ x (n32 i) S = _
    unfold bd_X11_addFrame_54
    rw [v.2.2.1, zi_le (by omega) (by omega), if_pos (by omega), v.2.2.2]
    cases y.2.2.2 <;> rfl
  | succ k ih =>
    intro i F x hk hF
    obtain ⟨F, rfl⟩ : ∃ z, F = z + 1 := ⟨F - 1, by omega⟩
    have hin : inb (n32 i) 12 = true := by rw [z_inb (by omega)]; omega
    show bd_X11_addFrame_54 fu E f (lp_X11_addFrame_54 fu E f F) x (n32 i) S = _
    unfold bd_X11_addFrame_54 bnd
    rw [v.2.2.1, zi_le (by omega) (by omega), if_neg (by omega), if_pos hin, z_nat (show i < 2 ^ 31 by omega), v.2.1 i (by omega), show n32 i + 1 = n32 (i + 1) from z_add i 1]
    exact ih (i + 1) F _ (by omega) (by omega)
theorem c_dgL {f : Nat} {y : Fr} {c : Cd} (hfu : 200 ≤ fu) (h3 : S.1 (E.2 a 2) 3 = n32 (cloc c)) (hc : cloc c ≤ 12) (v : VF E S f y) (h12 : y.2.2.1 ≤ 12) : ∀ (k i F : Nat) (x : Int64), i + k = cloc c → k + 1 ≤ F → lp_X11_addFrame_16 fu E a f F x (n32 i) S = some (dgA y.2.1 y.2.2.1 0 (dgA y.1 k i x) * 31 + (b2 y.2.2.2).toInt64, S) := by
  intro k
  induction k with
  | zero =>
    intro i F x hk hF
    obtain ⟨F, rfl⟩ : ∃ z, F = z + 1 := ⟨F - 1, by omega⟩
    show bd_X11_addFrame_16 fu E a f _ x (n32 i) S = _
    unfold bd_X11_addFrame_16
    rw [h3, zi_le (by omega) (by omega), if_pos (by omega)]
    exact c_dgS v h12 y.2.2.1 0 fu x (by omega) (by omega)
  | succ k ih =>
    intro i F x hk hF
    obtain ⟨F, rfl⟩ : ∃ z, F = z + 1 := ⟨F - 1, by omega⟩
    have hin : inb (n32 i) 12 = true := by rw [z_inb (by omega)]; omega
    show bd_X11_addFrame_16 fu E a f (lp_X11_addFrame_16 fu E a f F) x (n32 i) S = _
    unfold bd_X11_addFrame_16 bnd
    rw [h3, zi_le (by omega) (by omega), if_neg (by omega), if_pos hin, z_nat (show i < 2 ^ 31 by omega), v.1 i (by omega), show n32 i + 1 = n32 (i + 1) from z_add i 1]
    exact ih (i + 1) F _ (by omega) (by omega)
theorem c_dgT (hfu : 200 ≤ fu) (iz : IZ z) (vx : VX E S a z) : ∀ (k i F : Nat) (x : Int64), i + k = cn z.1.2.2 → k + 1 ≤ F → lp_X11_digest_96 fu E a F x (n32 i) S = some (dgT z.1.2.2 (zI z) k i x, S) := by
  have h100 := iz.1.2.2.2.2.2.1
  have k6 : S.1 (E.2 a 2) 6 = n32 (cn z.1.2.2) := vx.1.2.2.2.2.2.2.1
  have k3 : S.1 (E.2 a 2) 3 = n32 (cloc z.1.2.2) := vx.1.2.2.2.2.2.1
  intro k
  induction k with
  | zero =>
    intro i F x hk hF
    obtain ⟨F, rfl⟩ : ∃ z, F = z + 1 := ⟨F - 1, by omega⟩
    show bd_X11_digest_96 fu E a _ x (n32 i) S = _
    unfold bd_X11_digest_96
    rw [k6, zi_le (by omega) (by omega), if_pos (by omega)]
    rfl
  | succ k ih =>
    intro i F x hk hF
    obtain ⟨F, rfl⟩ : ∃ z, F = z + 1 := ⟨F - 1, by omega⟩
    have hin : inb (n32 i) 100 = true := by rw [z_inb (by omega)]; omega
    show bd_X11_digest_96 fu E a (lp_X11_digest_96 fu E a F) x (n32 i) S = _
    unfold bd_X11_digest_96
    rw [k6, zi_le (by omega) (by omega), if_neg (by omega), t_has vx.2.2.2.1 (show i < 100 by omega), Option.bind_some, b2_if, show n32 i + 1 = n32 (i + 1) from z_add i 1]
    dsimp only
    show _ = some (dgT z.1.2.2 (zI z) k (i + 1) (dgO z.1.2.2 (zI z i) x), S)
    cases e : zI z i with
    | none =>
      rw [if_neg (show ¬ (none : Option Fr).isSome = true by decide)]
      exact ih (i + 1) F _ (by omega) (by omega)
    | some y =>
      have vf := vx.2.2.2.1.2.1 i y (show i < 100 by omega) e
      rw [if_pos (show (some y).isSome = true from rfl), if_pos hin, z_nat (show i < 2 ^ 31 by omega)]
      unfold sp_X11_addFrame bnd
      rw [show E.2 (E.2 (E.2 a 5) 0) i = frA E (E.2 a 5) i from rfl, vf.1.2.2.1]
      dsimp only
      rw [show lp_X11_addFrame_16 fu E a (frA E (E.2 a 5) i) fu ((x * 31 + 1) * 31 + (n32 y.2.2.1).toInt64) 0 S = _ from c_dgL (c := z.1.2.2) hfu k3 iz.1.2.2.2.2.1 vf.1 vf.2 (cloc z.1.2.2) 0 fu _ (by omega) (by have := iz.1.2.2.2.2.1; omega), Option.bind_some]
      exact ih (i + 1) F _ (by omega) (by omega)
theorem c_dig (hfu : 200 ≤ fu) (iz : IZ z) (vx : VX E S a z) : sp_X11_digest fu E S a = some (dgZ z, S) := by
  have h100 := iz.1.2.2.2.2.2.1
  unfold sp_X11_digest bnd
  rw [show S.1 (E.2 a 0) 2 = n32 z.1.1.1 from vx.1.1.1, show S.1 (E.2 a 1) 2 = n32 (fcnt z.1.2.1) from vx.1.2.1.1, show S.1 (E.2 a 1) 9 = n32 (mcnt z.1.2.1) from vx.1.2.1.2.1, show S.1 (E.2 a 2) 6 = n32 (cn z.1.2.2) from vx.1.2.2.2.2.2.2.1, show S.1 (E.2 a 2) 11 = n32 (chn z.1.2.2) from vx.1.2.2.2.2.2.2.2.1, show S.1 (E.2 a 6) 2 = n32 (cntT (zT z) 100) from vx.2.2.2.2.1.2.2]
  exact c_dgT hfu iz vx (cn z.1.2.2) 0 fu _ (by omega) (by omega)
end DGC
