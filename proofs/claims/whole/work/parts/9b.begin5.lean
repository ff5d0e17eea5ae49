/-! the shape of an operation's end; begin put together -/
section GOS
variable {E : Ev} {S : St} {a m a3 fu : Nat} {z z' : Zs}
/-- class and reference answer alike, and the law's loop goes on over one picture -/
def GoS (E : Ev) (a m a3 fu : Nat) (rc : Int32 → St → Option (Int32 × St)) (x4 : Int32) (o1 : Option (Int32 × St)) (g : St → Option (Int32 × St)) : Prop := ∃ S' z', (o1.bind fun u6 => (g u6.2).bind fun u9 => (sp_X12_thrown fu E u9.2 m).bind fun u10 => if u10.1 = u6.1 then (if u6.1 = 0 then (if (lg_cmp (u10.2.2.2.2 a3 (0 : Int32).toNatClampNeg) u9.1.toInt64) = 0 then rc (x4 + 5) u10.2 else some (0, u10.2)) else rc (x4 + 5) u10.2) else some (0, u10.2)) = rc (x4 + 5) S' ∧ IZ z' ∧ VX E S' a z' ∧ VY E S' m z'
variable {rc : Int32 → St → Option (Int32 × St)} {x4 : Int32} {l : List (String × Int32)} {o : Option ((String ⊕ Int32) × St)} {g : St → Option (Int32 × St)}
theorem gos_ok (L : LX E a) (Lm : LR E m) (h3 : E.1 a3 = some (1, 2, 1)) (vy : VY E S m z) (iz : IZ z') {w : Int32} (cl : CO E S a m o (.inr w) z') (h2 : ∀ S1, VY E S1 m z → RO E S1 m (g S1) 0 w z') : GoS E a m a3 fu rc x4 (o.bind fun u1 => hcat u1 l fun r2 S3 => bnd (sL S3 a3 ((0 : Int32).toNatClampNeg) r2.toInt64) fun S4 => some (0, S4)) g := by
  obtain ⟨S', e', k1, k2⟩ := law_go (fu := fu) (rc := rc) (x4 := x4) (g := g) (w := w) (n := 0) (l := l) L Lm h3 vy cl rfl (fun r e => by cases e; rfl) (fun e w => by cases w) (fun S1 _ vy1 => h2 S1 vy1)
  exact ⟨S', z', e', iz, k1, k2⟩
theorem gos_no (L : LX E a) (Lm : LR E m) (h3 : E.1 a3 = some (1, 2, 1)) (vy : VY E S m z) (iz : IZ z') (n : String) (k : Int32) (he : eNo l (.inl n) = some k) (hk : k ≠ 0) (cl : CO E S a m o (.inl n) z') (h2 : ∀ S1, VY E S1 m z → RO E S1 m (g S1) k 0 z') : GoS E a m a3 fu rc x4 (o.bind fun u1 => hcat u1 l fun r2 S3 => bnd (sL S3 a3 ((0 : Int32).toNatClampNeg) r2.toInt64) fun S4 => some (0, S4)) g := by
  obtain ⟨S', e', k1, k2⟩ := law_go (fu := fu) (rc := rc) (x4 := x4) (g := g) (w := 0) (n := k) (l := l) L Lm h3 vy cl he (fun r w => by cases w) (fun _ _ => hk) (fun S1 _ vy1 => h2 S1 vy1)
  exact ⟨S', z', e', iz, k1, k2⟩
end GOS
section BG5
variable {E : Ev} {S : St} {a m a3 fu : Nat} {z : Zs} {rc : Int32 → St → Option (Int32 × St)} {x4 : Int32}
theorem go_bg (L : LX E a) (Lm : LR E m) (h3 : E.1 a3 = some (1, 2, 1)) (hfu : 200 ≤ fu) (iz : IZ z) (vx : VX E S a z) (vy : VY E S m z) (x s l : Int32) : GoS E a m a3 fu rc x4 (sp_L_begin fu E S a x s l a3) (fun S => sp_X12_begin fu E S m x s l) := by
  have h30 := iz.1.2.1.2.1
  have k9 : S.1 (E.2 a 1) 9 = n32 (mcnt z.1.2.1) := vx.1.2.1.2.1
  have r7 : ∀ {S1 : St}, VY E S1 m z → (sF S1 m 0 0).1 m 7 = n32 (mcnt z.1.2.1) := fun v => (vy_0 Lm v).1.2.1.2.1
  unfold sp_L_begin
  have bad : ∀ (n : String) (k : Int32), eNo [("java/lang/IndexOutOfBoundsException", 1), ("java/lang/IllegalArgumentException", 2)] (.inl n) = some k → k ≠ 0 → sp_X11_begin fu E S a x s l = some (.inl n, S) → (∀ S1, VY E S1 m z → RO E S1 m (sp_X12_begin fu E S1 m x s l) k 0 z) → GoS E a m a3 fu rc x4 ((sp_X11_begin fu E S a x s l).bind fun u1 => hcat u1 [("java/lang/IndexOutOfBoundsException", 1), ("java/lang/IllegalArgumentException", 2)] fun r2 S3 => bnd (sL S3 a3 ((0 : Int32).toNatClampNeg) r2.toInt64) fun S4 => some (0, S4)) (fun S => sp_X12_begin fu E S m x s l) := fun n k he hk h1 h2 => gos_no L Lm h3 vy iz n k he hk (by rw [h1]; exact co_same vx) h2
  rcases z_sgn x with hx | ⟨q, hq31, rfl⟩
  · refine bad "java/lang/IndexOutOfBoundsException" 1 (by decide) (by decide) (by unfold sp_X11_begin sp_X8_isMethod; rw [if_pos hx, Option.bind_some, if_pos rfl]) (fun S1 v => ?_)
    unfold sp_X12_begin bnd
    dsimp only
    rw [if_pos hx]
    exact ro_no Lm v
  by_cases hq : q < mcnt z.1.2.1
  rotate_left
  · refine bad "java/lang/IndexOutOfBoundsException" 1 (by decide) (by decide) (by unfold sp_X11_begin sp_X8_isMethod; rw [zi_nlt hq31, k9, zi_le (by omega) hq31, if_pos (by omega), Option.bind_some, if_pos rfl]) (fun S1 v => ?_)
    unfold sp_X12_begin bnd
    dsimp only
    rw [zi_nlt hq31, r7 v, zi_lt hq31 (by omega), if_neg hq]
    exact ro_no Lm v
  have cm : sp_X8_isMethod fu E S (E.2 a 1) (n32 q) = some (1, S) := by unfold sp_X8_isMethod; rw [zi_nlt hq31, k9, zi_le (by omega) hq31, if_neg (by omega)]
  have n10 : ¬ ((1 : Int32) = 0) := by decide
  rcases z_sgn s with hs | ⟨s, hs31, rfl⟩
  · refine bad "java/lang/IllegalArgumentException" 2 (by decide) (by decide) (by unfold sp_X11_begin; rw [cm, Option.bind_some, if_neg n10, if_pos hs]) (fun S1 v => ?_)
    unfold sp_X12_begin bnd
    dsimp only
    rw [zi_nlt hq31, r7 v, zi_lt hq31 (by omega), if_pos hq, if_pos hs]
    exact ro_no Lm v
  by_cases hs : 12 < s
  · refine bad "java/lang/IllegalArgumentException" 2 (by decide) (by decide) (by unfold sp_X11_begin; rw [cm, Option.bind_some, if_neg n10, zi_nlt hs31, show (12 : Int32) = n32 12 from rfl, zi_lt (by decide) hs31, if_pos hs]) (fun S1 v => ?_)
    unfold sp_X12_begin bnd
    dsimp only
    rw [zi_nlt hq31, r7 v, zi_lt hq31 (by omega), if_pos hq, zi_nlt hs31, show (12 : Int32) = n32 12 from rfl, zi_lt (by decide) hs31, if_pos hs]
    exact ro_no Lm v
  rcases z_sgn l with hl | ⟨l, hl31, rfl⟩
  · refine bad "java/lang/IllegalArgumentException" 2 (by decide) (by decide) (by unfold sp_X11_begin; rw [cm, Option.bind_some, if_neg n10, zi_nlt hs31, show (12 : Int32) = n32 12 from rfl, zi_lt (by decide) hs31, if_neg hs, if_pos hl]) (fun S1 v => ?_)
    unfold sp_X12_begin bnd
    dsimp only
    rw [zi_nlt hq31, r7 v, zi_lt hq31 (by omega), if_pos hq, zi_nlt hs31, show (12 : Int32) = n32 12 from rfl, zi_lt (by decide) hs31, if_neg hs, if_pos hl]
    exact ro_no Lm v
  by_cases hl : 12 < l
  · refine bad "java/lang/IllegalArgumentException" 2 (by decide) (by decide) (by unfold sp_X11_begin; rw [cm, Option.bind_some, if_neg n10, zi_nlt hs31, show (12 : Int32) = n32 12 from rfl, zi_lt (by decide) hs31, if_neg hs, zi_nlt hl31, zi_lt (by decide) hl31, if_pos hl]) (fun S1 v => ?_)
    unfold sp_X12_begin bnd
    dsimp only
    rw [zi_nlt hq31, r7 v, zi_lt hq31 (by omega), if_pos hq, zi_nlt hs31, show (12 : Int32) = n32 12 from rfl, zi_lt (by decide) hs31, if_neg hs, zi_nlt hl31, zi_lt (by decide) hl31, if_pos hl]
    exact ro_no Lm v
  have hin : inb (n32 q) 30 = true := by rw [z_inb hq31]; omega
  have hmo := iz.1.2.1.2.2.2 q hq
  have h20 := iz.1.1.2.1
  have kow : S.2.1 (E.2 (E.2 a 1) 3) q = n32 (mown z.1.2.1 q) := (vx.1.2.1.2.2.2 q hq).1
  have row : ∀ {S1 : St}, VY E S1 m z → (sF S1 m 0 0).2.1 (E.2 m 8) q = n32 (mown z.1.2.1 q) := fun v => ((vy_0 Lm v).1.2.1.2.2.2 q hq).1
  have rit : ∀ {S1 : St}, VY E S1 m z → (sF S1 m 0 0).2.1 (E.2 m 3) (mown z.1.2.1 q) = b2 (z.1.1.2.2 (mown z.1.2.1 q)) := fun v => (vy_0 Lm v).1.1.2.2 _ hmo.2.1
  have hi20 : inb (n32 (mown z.1.2.1 q)) 20 = true := by rw [z_inb (by omega)]; omega
  have iti : itf z.1.1 (mown z.1.2.1 q) = z.1.1.2.2 (mown z.1.2.1 q) := by
    unfold itf
    rw [decide_eq_true hmo.1, decide_eq_true hmo.2.1]; rfl
  have tit := t_itf (fu := fu) iz.1.1 vx.1.1 (show mown z.1.2.1 q < 2 ^ 31 by omega)
  rw [iti] at tit
  by_cases hit : z.1.1.2.2 (mown z.1.2.1 q) = true
  · refine bad "java/lang/IllegalArgumentException" 2 (by decide) (by decide) (by unfold sp_X11_begin; rw [cm, Option.bind_some, if_neg n10, zi_nlt hs31, show (12 : Int32) = n32 12 from rfl, zi_lt (by decide) hs31, if_neg hs, zi_nlt hl31, zi_lt (by decide) hl31, if_neg hl, if_pos hin, z_nat hq31]; dsimp only; rw [kow, tit, Option.bind_some, b2_if, if_pos hit]) (fun S1 v => ?_)
    unfold sp_X12_begin bnd
    dsimp only
    rw [zi_nlt hq31, r7 v, zi_lt hq31 (by omega), if_pos hq, zi_nlt hs31, show (12 : Int32) = n32 12 from rfl, zi_lt (by decide) hs31, if_neg hs, zi_nlt hl31, zi_lt (by decide) hl31, if_neg hl, if_pos hin, z_nat hq31, row v, if_pos hi20, z_nat (show mown z.1.2.1 q < 2 ^ 31 by omega), rit v, b2_if, if_pos hit]
    exact ro_no Lm v
  · refine gos_ok (z' := zBg z q s l) L Lm h3 vy (iz_Bg iz hq (by omega) (by omega)) (w := n32 (need z.1.2.1 q)) ?_ (fun S1 v => ?_)
    · unfold sp_X11_begin
      rw [cm, Option.bind_some, if_neg n10, zi_nlt hs31, show (12 : Int32) = n32 12 from rfl, zi_lt (by decide) hs31, if_neg hs, zi_nlt hl31, zi_lt (by decide) hl31, if_neg hl, if_pos hin, z_nat hq31]
      dsimp only
      rw [kow, tit, Option.bind_some, b2_if, if_neg hit]
      exact c_Bg L Lm hfu iz vx hq (by omega) (by omega)
    · obtain ⟨S2, f1, f2, f3, f4⟩ := r_Bg (fu := fu) Lm hfu iz (vy_0 Lm (x := 0) v) (up2_s _ _) hq (show s ≤ 12 by omega) (show l ≤ 12 by omega)
      refine ⟨S2, ?_, f2, f3, Ag_trans (rfc_F Lm) f4⟩
      rw [← f1]
      unfold sp_X12_begin
      rw [show ∀ (k : St → Option (Int32 × St)), bnd (sF S1 m 0 0) k = k (sF S1 m 0 0) from fun _ => rfl]
      rw [zi_nlt hq31, r7 v, zi_lt hq31 (by omega), if_pos hq, zi_nlt hs31, show (12 : Int32) = n32 12 from rfl, zi_lt (by decide) hs31, if_neg hs, zi_nlt hl31, zi_lt (by decide) hl31, if_neg hl, if_pos hin, z_nat hq31, row v, if_pos hi20, z_nat (show mown z.1.2.1 q < 2 ^ 31 by omega), rit v, b2_if, if_neg hit]
end BG5
