/-! addHandler, put together -/
section HN3
variable {E : Ev} {S : St} {a m a3 fu : Nat} {z : Zs}
theorem go_ha (L : LX E a) (Lm : LR E m) (h3 : E.1 a3 = some (1, 2, 1)) (hfu : 200 ≤ fu) (iz : IZ z) (vx : VX E S a z) (vy : VY E S m z) (s e t x : Int32) {rc : Int32 → St → Option (Int32 × St)} {x4 : Int32} : ∃ S' z', ((sp_L_addHandler fu E S a s e t x a3).bind fun u6 => (sp_X12_addHandler fu E u6.2 m s e t x).bind fun u9 => (sp_X12_thrown fu E u9.2 m).bind fun u10 => if u10.1 = u6.1 then (if u6.1 = 0 then (if (lg_cmp (u10.2.2.2.2 a3 (0 : Int32).toNatClampNeg) u9.1.toInt64) = 0 then rc (x4 + 5) u10.2 else some (0, u10.2)) else rc (x4 + 5) u10.2) else some (0, u10.2)) = rc (x4 + 5) S' ∧ IZ z' ∧ VX E S' a z' ∧ VY E S' m z' := by
  have h10 := iz.1.2.2.2.2.2.2.1
  have hd := iz.1.1
  have k0 : S.1 (E.2 a 2) 0 = b2 (cst z.1.2.2) := vx.1.2.2.1
  have k11 : S.1 (E.2 a 2) 11 = n32 (chn z.1.2.2) := vx.1.2.2.2.2.2.2.2.1
  have r15 : ∀ {S1 : St}, VY E S1 m z → (sF S1 m 0 0).1 m 15 = b2 (cst z.1.2.2) := fun v => (vy_0 Lm v).1.2.2.1
  have r22 : ∀ {S1 : St}, VY E S1 m z → (sF S1 m 0 0).1 m 22 = n32 (chn z.1.2.2) := fun v => (vy_0 Lm v).1.2.2.2.2.2.2.2.1
  have tc := t_cls (fu := fu) hd vx.1.1 x
  have rcl : ∀ {S1 : St}, VY E S1 m z → sp_X12_isClass fu E (sF S1 m 0 0) m x = some (b2 (decide (0 ≤ x) && cls z.1.1 x.toNatClampNeg), sF S1 m 0 0) := fun v => r_cls (fu := fu) hd (vy_0 Lm v).1.1 x
  unfold sp_L_addHandler
  have bad : ∀ (n : String) (k : Int32), eNo [("java/lang/IllegalArgumentException", 1), ("java/lang/IllegalStateException", 2)] (.inl n) = some k → k ≠ 0 → sp_X11_addHandler fu E S a s e t x = some (.inl n, S) → (∀ S1, VY E S1 m z → RO E S1 m (sp_X12_addHandler fu E S1 m s e t x) k 0 z) → ∃ S' z', (((sp_X11_addHandler fu E S a s e t x).bind fun u1 => hcat u1 [("java/lang/IllegalArgumentException", 1), ("java/lang/IllegalStateException", 2)] fun r2 S3 => bnd (sL S3 a3 ((0 : Int32).toNatClampNeg) r2.toInt64) fun S4 => some (0, S4)).bind fun u6 => (sp_X12_addHandler fu E u6.2 m s e t x).bind fun u9 => (sp_X12_thrown fu E u9.2 m).bind fun u10 => if u10.1 = u6.1 then (if u6.1 = 0 then (if (lg_cmp (u10.2.2.2.2 a3 (0 : Int32).toNatClampNeg) u9.1.toInt64) = 0 then rc (x4 + 5) u10.2 else some (0, u10.2)) else rc (x4 + 5) u10.2) else some (0, u10.2)) = rc (x4 + 5) S' ∧ IZ z' ∧ VX E S' a z' ∧ VY E S' m z' := by
    intro n k he hk h1 h2
    have cl : CO E S a m (sp_X11_addHandler fu E S a s e t x) (.inl n) z := by rw [h1]; exact co_same vx
    obtain ⟨S', e', k1, k2⟩ := law_go (fu := fu) (rc := rc) (x4 := x4) (g := fun S => sp_X12_addHandler fu E S m s e t x) (w := 0) (n := k) L Lm h3 vy cl he (fun r w => by cases w) (fun _ _ => hk) (fun S1 _ vy1 => h2 S1 vy1)
    exact ⟨S', z, e', iz, k1, k2⟩
  by_cases c : (decide (0 ≤ x) && cls z.1.1 x.toNatClampNeg) = true
  · have c' := c
    rw [Bool.and_eq_true] at c'
    obtain ⟨k, hk31, rfl⟩ := ge0_n c'.1
    have hkc : cls z.1.1 k = true := by
      have := c'.2
      rw [z_nat hk31] at this
      exact this
    cases hs : cst z.1.2.2 with
    | false =>
      refine bad "java/lang/IllegalStateException" 2 (by decide) (by decide) (by
        unfold sp_X11_addHandler
        rw [tc, Option.bind_some, b2_if, if_pos c]
        dsimp only
        rw [k0, hs, if_pos (show b2 false = 0 from rfl)]) (fun S1 v => ?_)
      unfold sp_X12_addHandler bnd
      dsimp only
      rw [rcl v, Option.bind_some, b2_if, if_pos c]
      dsimp only
      rw [r15 v, hs, if_pos (show b2 false = 0 from rfl)]
      exact ro_no Lm v
    | true =>
      by_cases hn : chn z.1.2.2 < 10
      · have cl : CO E S a m (sp_X11_addHandler fu E S a s e t (n32 k)) (.inr (n32 (chn z.1.2.2 + 1) - 1)) (zHa z s e t k) := by
          unfold sp_X11_addHandler
          rw [tc, Option.bind_some, b2_if, if_pos c]
          dsimp only
          rw [k0, hs, if_neg (show ¬ b2 true = 0 by decide), k11, show (10 : Int32) = n32 10 from rfl, zi_lt (by omega) (by decide), if_pos hn]
          exact c_Ha L Lm hfu iz vx hn
        obtain ⟨S', e', k1, k2⟩ := law_go (fu := fu) (rc := rc) (x4 := x4) (g := fun S => sp_X12_addHandler fu E S m s e t (n32 k)) (w := n32 (chn z.1.2.2 + 1) - 1) (l := [("java/lang/IllegalArgumentException", 1), ("java/lang/IllegalStateException", 2)]) L Lm h3 vy cl rfl (fun r e => by cases e; rfl) (fun e w => by cases w) (fun S1 _ vy1 => by
          show RO E S1 m (sp_X12_addHandler fu E S1 m s e t (n32 k)) 0 (n32 (chn z.1.2.2 + 1) - 1) (zHa z s e t k)
          unfold sp_X12_addHandler
          show RO E S1 m ((sp_X12_isClass fu E (sF S1 m 0 0) m (n32 k)).bind fun u2 => _) _ _ _
          rw [rcl vy1, Option.bind_some, b2_if, if_pos c]
          dsimp only
          rw [r15 vy1, hs, if_neg (show ¬ b2 true = 0 by decide), r22 vy1, show (if n32 (chn z.1.2.2) = 10 then _ else _) = _ from if_neg (by rw [show (10 : Int32) = n32 10 from rfl, z_eq (by omega) (by decide)]; omega)]
          obtain ⟨S2, f1, f2, f3, f4⟩ := r_Ha (fu := fu) (s := s) (e := e) (t := t) (k := k) Lm hfu (vy_0 Lm (x := 0) vy1) (up2_s _ _) hn
          rw [r22 vy1] at f1
          exact ⟨S2, f1, f2, f3, Ag_trans (rfc_F Lm) f4⟩)
        exact ⟨S', zHa z s e t k, e', iz_Ha iz hkc hn, k1, k2⟩
      · refine bad "java/lang/IllegalStateException" 2 (by decide) (by decide) (by
          unfold sp_X11_addHandler
          rw [tc, Option.bind_some, b2_if, if_pos c]
          dsimp only
          rw [k0, hs, if_neg (show ¬ b2 true = 0 by decide), k11, show (10 : Int32) = n32 10 from rfl, zi_lt (by omega) (by decide), if_neg hn]) (fun S1 v => ?_)
        unfold sp_X12_addHandler
        show RO E S1 m ((sp_X12_isClass fu E (sF S1 m 0 0) m (n32 k)).bind fun u2 => _) _ _ _
        rw [rcl v, Option.bind_some, b2_if, if_pos c]
        dsimp only
        rw [r15 v, hs, if_neg (show ¬ b2 true = 0 by decide), r22 v, if_pos (show n32 (chn z.1.2.2) = 10 by rw [show (10 : Int32) = n32 10 from rfl, z_eq (by omega) (by decide)]; omega)]
        exact ro_no Lm v
  · refine bad "java/lang/IllegalArgumentException" 1 (by decide) (by decide) (by
      unfold sp_X11_addHandler
      rw [tc, Option.bind_some, b2_if, if_neg c]) (fun S1 v => ?_)
    unfold sp_X12_addHandler bnd
    dsimp only
    rw [rcl v, Option.bind_some, b2_if, if_neg c]
    exact ro_no Lm v
end HN3
