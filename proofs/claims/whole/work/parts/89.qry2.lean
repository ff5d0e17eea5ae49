/-! questions about inferred frames, the rest -/
section QR2
variable {E : Ev} {S : St} {a m a3 fu : Nat} {z : Zs}
theorem go_lsl (L : LX E a) (Lm : LR E m) (h3 : E.1 a3 = some (1, 2, 1)) (iz : IZ z) (vx : VX E S a z) (vy : VY E S m z) (x y : Int32) {rc : Int32 → St → Option (Int32 × St)} {x4 : Int32} : ∃ S' z', ((sp_L_localSlot fu E S a x y a3).bind fun u6 => (sp_X12_localSlot fu E u6.2 m x y).bind fun u9 => (sp_X12_thrown fu E u9.2 m).bind fun u10 => if u10.1 = u6.1 then (if u6.1 = 0 then (if (lg_cmp (u10.2.2.2.2 a3 (0 : Int32).toNatClampNeg) u9.1.toInt64) = 0 then rc (x4 + 5) u10.2 else some (0, u10.2)) else rc (x4 + 5) u10.2) else some (0, u10.2)) = rc (x4 + 5) S' ∧ IZ z' ∧ VX E S' a z' ∧ VY E S' m z' := by
  have h100 := iz.1.2.2.2.2.2.1
  have hl := iz.1.2.2.2.2.1
  have clx : S.1 (E.2 a 2) 3 = n32 (cloc z.1.2.2) := vx.1.2.2.2.2.2.1
  have cly : ∀ {S1 : St}, VY E S1 m z → (sF S1 m 0 0).1 m 18 = n32 (cloc z.1.2.2) := fun v => (vy_0 Lm v).1.2.2.2.2.2.1
  unfold sp_L_localSlot
  obtain ⟨c, w, no, e1, e2, e3, e4, e5⟩ := go_q (fu := fu) (l := [("java/lang/IndexOutOfBoundsException", 1), ("java/lang/IllegalStateException", 2), ("java/util/NoSuchElementException", 3)]) (q1 := sp_X11_localSlot fu E S a x y) (g := fun S => sp_X12_localSlot fu E S m x y) L Lm h3 iz vx vy x ⟨by decide, by decide⟩ (fun S3 => if y < 0 then (some (.inl "java/util/NoSuchElementException", S3)) else (if y < (S3.1 (E.2 a 2) 3) then (if inb x 100 = true then (if inb y 12 = true then (some ((.inr (S3.2.1 (E.2 (E.2 (E.2 (E.2 a 5) 0) x.toNatClampNeg) 0) y.toNatClampNeg)), S3)) else none) else none) else (some (.inl "java/util/NoSuchElementException", S3)))) rfl (fun S3 => if y < 0 then ((sp_X12_no fu E S3 m 3).bind fun u2 => some (u2.1, u2.2)) else (if (S3.1 m 18) ≤ y then ((sp_X12_no fu E S3 m 3).bind fun u3 => some (u3.1, u3.2)) else (if inb ((26 * x) + y) 2600 = true then (some (S3.2.1 (E.2 m 29) ((26 * x) + y).toNatClampNeg, S3)) else none))) (fun _ => rfl) (fun n f hx hn hz => by
    subst hx
    have vf : VF E S (E.2 (E.2 (E.2 a 5) 0) n) f := (vx.2.2.2.1.2.1 n f (by omega) hz).1
    have hin : inb (n32 n) 100 = true := by rw [z_inb (by omega)]; omega
    rw [show (26 : Int32) * n32 n = n32 (26 * n) from z_mul 26 n, if_pos hin, z_nat (show n < 2 ^ 31 by omega), clx]
    rcases z_sgn y with hy | ⟨k, hk, rfl⟩
    · refine ⟨.inl "java/util/NoSuchElementException", 0, 3, if_pos hy, by decide, (fun r e => by cases e), (fun e q => by decide), fun S1 vy1 => ?_⟩
      rw [if_pos hy]
      exact ro_no Lm vy1
    · by_cases c : k < cloc z.1.2.2
      · refine ⟨.inr (f.1 k), f.1 k, 0, ?_, rfl, (fun r e => by cases e; rfl), (fun e q => by cases q), fun S1 vy1 => ?_⟩
        · rw [zi_nlt hk, zi_lt hk (by omega), if_pos c, if_pos (by rw [z_inb hk]; omega), z_nat hk, vf.1 k (by omega)]
        · rw [zi_nlt hk, cly vy1, zi_le (by omega) hk, if_neg (by omega), z_add, if_pos (by rw [z_inb (by omega)]; omega), z_nat (show 26 * n + k < 2 ^ 31 by omega), show (sF S1 m 0 0).2.1 (E.2 m 29) (26 * n + k) = f.1 k from (vy1.2.2.2.1.2 n f (by omega) hz).1 k (by omega)]
          exact ro_ans Lm vy1
      · refine ⟨.inl "java/util/NoSuchElementException", 0, 3, ?_, by decide, (fun r e => by cases e), (fun e q => by decide), fun S1 vy1 => ?_⟩
        · rw [zi_nlt hk, zi_lt hk (by omega), if_neg c]
        · rw [zi_nlt hk, cly vy1, zi_le (by omega) hk, if_pos (by omega)]
          exact ro_no Lm vy1)
  obtain ⟨S', e, k1, k2⟩ := law_go (fu := fu) (rc := rc) (x4 := x4) (g := fun S => sp_X12_localSlot fu E S m x y) L Lm h3 vy e1 e2 e3 e4 e5
  exact ⟨S', z, e, iz, k1, k2⟩
theorem go_mrk (L : LX E a) (Lm : LR E m) (h3 : E.1 a3 = some (1, 2, 1)) (iz : IZ z) (vx : VX E S a z) (vy : VY E S m z) (x : Int32) {rc : Int32 → St → Option (Int32 × St)} {x4 : Int32} : ∃ S' z', ((sp_L_isMarked fu E S a x a3).bind fun u6 => (sp_X12_isMarked fu E u6.2 m x).bind fun u9 => (sp_X12_thrown fu E u9.2 m).bind fun u10 => if u10.1 = u6.1 then (if u6.1 = 0 then (if u9.1 = 0 then (if (lg_cmp (u10.2.2.2.2 a3 (0 : Int32).toNatClampNeg) 0) = 0 then rc (x4 + 5) u10.2 else some (0, u10.2)) else (if (lg_cmp (u10.2.2.2.2 a3 (0 : Int32).toNatClampNeg) 1) = 0 then rc (x4 + 5) u10.2 else some (0, u10.2))) else rc (x4 + 5) u10.2) else some (0, u10.2)) = rc (x4 + 5) S' ∧ IZ z' ∧ VX E S' a z' ∧ VY E S' m z' := by
  have h100 := iz.1.2.2.2.2.2.1
  unfold sp_L_isMarked
  obtain ⟨c, w, no, e1, e2, e3, e4, e5⟩ := go_q (fu := fu) (l := [("java/lang/IndexOutOfBoundsException", 1), ("java/lang/IllegalStateException", 2)]) (q1 := sp_X11_isMarked fu E S a x) (g := fun S => sp_X12_isMarked fu E S m x) L Lm h3 iz vx vy x ⟨by decide, by decide⟩ (fun S3 => if inb x 100 = true then (if isB (S3.1 (E.2 (E.2 (E.2 a 5) 0) x.toNatClampNeg) 3) = true then some ((.inr (S3.1 (E.2 (E.2 (E.2 a 5) 0) x.toNatClampNeg) 3)), S3) else none) else none) rfl (fun S3 => if inb ((26 * x) + 25) 2600 = true then (if (S3.2.1 (E.2 m 29) ((26 * x) + 25).toNatClampNeg) = 1 then (some (1, S3)) else (some (0, S3))) else none) (fun _ => rfl) (fun n f hx hn hz => by
    subst hx
    have vf : VF E S (E.2 (E.2 (E.2 a 5) 0) n) f := (vx.2.2.2.1.2.1 n f (by omega) hz).1
    refine ⟨.inr (b2 f.2.2.2), b2 f.2.2.2, 0, ?_, rfl, (fun r e => by cases e; rfl), (fun e q => by cases q), fun S1 vy1 => ?_⟩
    · rw [if_pos (by rw [z_inb (by omega)]; omega), z_nat (show n < 2 ^ 31 by omega), vf.2.2.2, isB_ite]
    · have va : VA S1 (E.2 m 29) (26 * n) f := vy1.2.2.2.1.2 n f (by omega) hz
      rw [show (26 : Int32) * n32 n = n32 (26 * n) from z_mul 26 n, show n32 (26 * n) + 25 = n32 (26 * n + 25) from z_add _ 25, if_pos (by rw [z_inb (by omega)]; omega), z_nat (show 26 * n + 25 < 2 ^ 31 by omega), show (sF S1 m 0 0).2.1 (E.2 m 29) (26 * n + 25) = b2 f.2.2.2 from va.2.2.2]
      cases f.2.2.2
      · rw [if_neg (show ¬ b2 false = 1 by decide)]; exact ro_ans Lm vy1
      · rw [if_pos (show b2 true = 1 from rfl)]; exact ro_ans Lm vy1)
  obtain ⟨S', e, k1, k2⟩ := law_goB (fu := fu) (rc := rc) (x4 := x4) (g := fun S => sp_X12_isMarked fu E S m x) L Lm h3 vy e1 e2 e3 e4 e5
  exact ⟨S', z, e, iz, k1, k2⟩
theorem go_has (L : LX E a) (Lm : LR E m) (h3 : E.1 a3 = some (1, 2, 1)) (iz : IZ z) (vx : VX E S a z) (vy : VY E S m z) (x : Int32) {rc : Int32 → St → Option (Int32 × St)} {x4 : Int32} : ∃ S' z', ((sp_L_hasFrame fu E S a x a3).bind fun u6 => (sp_X12_hasFrame fu E u6.2 m x).bind fun u9 => (sp_X12_thrown fu E u9.2 m).bind fun u10 => if u10.1 = u6.1 then (if u6.1 = 0 then (if u9.1 = 0 then (if (lg_cmp (u10.2.2.2.2 a3 (0 : Int32).toNatClampNeg) 0) = 0 then rc (x4 + 5) u10.2 else some (0, u10.2)) else (if (lg_cmp (u10.2.2.2.2 a3 (0 : Int32).toNatClampNeg) 1) = 0 then rc (x4 + 5) u10.2 else some (0, u10.2))) else rc (x4 + 5) u10.2) else some (0, u10.2)) = rc (x4 + 5) S' ∧ IZ z' ∧ VX E S' a z' ∧ VY E S' m z' := by
  have h100 := iz.1.2.2.2.2.2.1
  have ei : ∀ {S1 : St}, VY E S1 m z → sp_X12_isIndex fu E (sF S1 m 0 0) m x = some (b2 (idx z.1.2.2 x), sF S1 m 0 0) := fun v => by
    have h19 := (vy_0 Lm (x := 0) v).1.2.2.2.2.2.2.1
    unfold sp_X12_isIndex
    rw [h19]
    exact rng (by omega)
  unfold sp_L_hasFrame
  by_cases c : idx z.1.2.2 x = true
  · obtain ⟨n, rfl, hn, h31⟩ := idx_n c
    have cl : CO E S a m (sp_X11_hasFrame fu E S a (n32 n)) (.inr (b2 (zI z n).isSome)) z := by
      unfold sp_X11_hasFrame
      rw [t_rqI iz vx, Option.bind_some, if_pos c]
      show CO E S a m ((sp_X4_contains fu E S (E.2 a 5) (n32 n)).bind fun u5 => if isB u5.1 = true then some ((.inr u5.1), u5.2) else none) _ z
      rw [t_has vx.2.2.2.1 (by omega), Option.bind_some]
      dsimp only
      rw [isB_ite]
      exact co_same vx
    obtain ⟨S', e, k1, k2⟩ := law_goB (fu := fu) (rc := rc) (x4 := x4) (g := fun S => sp_X12_hasFrame fu E S m (n32 n)) (w := b2 (zI z n).isSome) (l := [("java/lang/IndexOutOfBoundsException", 1)]) L Lm h3 vy cl rfl (fun r e => by cases e; rfl) (fun e w => by cases w) (fun S1 _ vy1 => by
      show RO E S1 m (sp_X12_hasFrame fu E S1 m (n32 n)) 0 (b2 (zI z n).isSome) z
      unfold sp_X12_hasFrame bnd
      dsimp only
      rw [ei vy1, Option.bind_some, b2_if, if_pos c, if_pos (by rw [z_inb h31]; omega), z_nat h31, show (sF S1 m 0 0).2.1 (E.2 m 28) n = b2 (zI z n).isSome from vy1.2.2.2.1.1 n (by omega), isB_ite]
      exact ro_ans Lm vy1)
    exact ⟨S', z, e, iz, k1, k2⟩
  · have cl : CO E S a m (sp_X11_hasFrame fu E S a x) (.inl "java/lang/IndexOutOfBoundsException") z := by
      unfold sp_X11_hasFrame
      rw [t_rqI iz vx, Option.bind_some, if_neg c]
      exact co_same vx
    obtain ⟨S', e, k1, k2⟩ := law_goB (fu := fu) (rc := rc) (x4 := x4) (g := fun S => sp_X12_hasFrame fu E S m x) (w := 0) (n := 1) (l := [("java/lang/IndexOutOfBoundsException", 1)]) L Lm h3 vy cl (by decide) (fun r e => by cases e) (fun e _ => by decide) (fun S1 _ vy1 => by
      show RO E S1 m (sp_X12_hasFrame fu E S1 m x) 1 0 z
      unfold sp_X12_hasFrame bnd
      dsimp only
      rw [ei vy1, Option.bind_some, b2_if, if_neg c]
      exact ⟨_, rfl, up2_s _ _, vy_0 Lm (vy_0 Lm vy1), Ag_trans (rfc_F Lm) (rfc_F Lm)⟩)
    exact ⟨S', z, e, iz, k1, k2⟩
end QR2
