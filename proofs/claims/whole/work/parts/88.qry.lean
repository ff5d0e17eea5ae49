/-! questions about inferred frames -/
section QRY
variable {E : Ev} {S : St} {a m a3 fu : Nat} {z : Zs}
theorem idx_n {c : Cd} {x : Int32} (h : idx c x = true) : ∃ n, x = n32 n ∧ n < cn c ∧ n < 2 ^ 31 := by
  unfold idx at h
  rw [Bool.and_eq_true] at h
  obtain ⟨n, hn, e⟩ := ge0_n h.1
  have := h.2
  rw [e, z_nat hn, decide_eq_true_eq] at this
  exact ⟨n, e, this, hn⟩
theorem t_rqI (iz : IZ z) (vx : VX E S a z) (x : Int32) : sp_X11_requireIndex fu E S a x = some (if idx z.1.2.2 x = true then .inr () else .inl "java/lang/IndexOutOfBoundsException", S) := by
  unfold sp_X11_requireIndex
  rw [t_idx vx.1.2.2 iz.1.2.2.2.2.2.1, Option.bind_some, b2_if]
  by_cases c : idx z.1.2.2 x = true
  · rw [if_pos c, if_pos c]
  · rw [if_neg c, if_neg c]
theorem t_rqF (iz : IZ z) (vx : VX E S a z) (x : Int32) : sp_X11_requireFrame fu E S a x = some (if idx z.1.2.2 x = true then (if (zI z x.toNatClampNeg).isSome = true then .inr () else .inl "java/lang/IllegalStateException") else .inl "java/lang/IndexOutOfBoundsException", S) := by
  have h100 := iz.1.2.2.2.2.2.1
  unfold sp_X11_requireFrame
  rw [t_rqI iz vx, Option.bind_some]
  by_cases c : idx z.1.2.2 x = true
  · obtain ⟨n, rfl, hn, h31⟩ := idx_n c
    rw [if_pos c, if_pos c]
    show ((sp_X4_contains fu E S (E.2 a 5) (n32 n)).bind fun u5 => if u5.1 = 0 then some (Sum.inl "java/lang/IllegalStateException", u5.2) else some (Sum.inr (), u5.2)) = _
    rw [t_has vx.2.2.2.1 (by omega), Option.bind_some, b2_if, z_nat h31]
    by_cases c2 : (zI z n).isSome = true
    · rw [if_pos c2, if_pos c2]
    · rw [if_neg c2, if_neg c2]
  · rw [if_neg c, if_neg c]; rfl
theorem r_lkd (iz : IZ z) (vy : VY E S m z) (x : Int32) : sp_X12_isLooked fu E S m x = (if idx z.1.2.2 x = true then (if (zI z x.toNatClampNeg).isSome = true then some (1, sF S m 0 0) else some (0, sF S m 0 2)) else some (0, sF S m 0 1)) := by
  have h100 := iz.1.2.2.2.2.2.1
  have h19 : S.1 m 19 = n32 (cn z.1.2.2) := vy.1.2.2.2.2.2.2.1
  have j : ∀ k : Int32, jb_X12_isLooked_27 fu E m m k S = (if k = 0 then some (1, sF S m 0 k) else some (0, sF S m 0 k)) := fun k => by
    unfold jb_X12_isLooked_27 bnd
    dsimp only
    rw [show (sF S m 0 k).1 m 0 = k from up2_s _ _]
  have ei : sp_X12_isIndex fu E S m x = some (b2 (idx z.1.2.2 x), S) := by
    unfold sp_X12_isIndex
    rw [h19]
    exact rng (by omega)
  unfold sp_X12_isLooked
  rw [ei, Option.bind_some, b2_if]
  dsimp only
  rw [j, j, j, if_neg (show ¬ (1 : Int32) = 0 by decide), if_pos (show (0 : Int32) = 0 from rfl), if_neg (show ¬ (2 : Int32) = 0 by decide)]
  by_cases c : idx z.1.2.2 x = true
  · obtain ⟨n, rfl, hn, h31⟩ := idx_n c
    rw [if_pos c, if_pos c, if_pos (by rw [z_inb h31]; omega), z_nat h31, vy.2.2.2.1.1 n (by omega), b2_if]
  · rw [if_neg c, if_neg c]
/-- a question about a frame -/
theorem go_q (L : LX E a) (Lm : LR E m) (h3 : E.1 a3 = some (1, 2, 1)) (iz : IZ z) (vx : VX E S a z) (vy : VY E S m z) (x : Int32) {q1 : Option ((String ⊕ Int32) × St)} {l : List (String × Int32)} {g : St → Option (Int32 × St)} (hl : eNo l (.inl "java/lang/IndexOutOfBoundsException") = some 1 ∧ eNo l (.inl "java/lang/IllegalStateException") = some 2) (k1 : St → Option ((String ⊕ Int32) × St)) (hq1 : q1 = (sp_X11_requireFrame fu E S a x).bind fun u1 => xb u1 fun _ S3 => k1 S3) (k2 : St → Option (Int32 × St)) (hg : ∀ S1, g S1 = (sp_X12_isLooked fu E S1 m x).bind fun u1 => if u1.1 = 0 then some (0, u1.2) else k2 u1.2) (hk : ∀ n y, x = n32 n → n < cn z.1.2.2 → zI z n = some y → ∃ c w no, k1 S = some (c, S) ∧ eNo l c = some no ∧ (∀ r, c = .inr r → w = r) ∧ (∀ e, c = .inl e → no ≠ 0) ∧ ∀ S1, VY E S1 m z → RO E S1 m (k2 (sF S1 m 0 0)) no w z) : ∃ c w no, CO E S a m q1 c z ∧ eNo l c = some no ∧ (∀ r, c = .inr r → w = r) ∧ (∀ e, c = .inl e → no ≠ 0) ∧ ∀ S1, VX E S1 a z → VY E S1 m z → RO E S1 m (g S1) no w z := by
  rw [hq1, t_rqF iz vx, Option.bind_some]
  by_cases c : idx z.1.2.2 x = true
  · obtain ⟨n, rfl, hn, h31⟩ := idx_n c
    rw [if_pos c, z_nat h31]
    cases hz : zI z n with
    | some y =>
      obtain ⟨c', w, no, e1, e2, e3, e4, e5⟩ := hk n y rfl hn hz
      refine ⟨c', w, no, ?_, e2, e3, e4, fun S1 _ vy1 => ?_⟩
      · rw [if_pos (show (some y).isSome = true from rfl)]
        show CO E S a m (k1 S) c' z
        rw [e1]
        exact co_same vx
      · rw [hg, r_lkd iz vy1, if_pos c, z_nat h31, hz, if_pos (show (some y).isSome = true from rfl), Option.bind_some, if_neg (show ¬ (1 : Int32) = 0 by decide)]
        exact e5 S1 vy1
    | none =>
      refine ⟨_, 0, 2, ?_, hl.2, (fun r e => by cases e), (fun e _ => by decide), fun S1 _ vy1 => ?_⟩
      · rw [if_neg (by decide)]
        exact co_same vx
      · rw [hg, r_lkd iz vy1, if_pos c, z_nat h31, hz, if_neg (by decide), Option.bind_some, if_pos rfl]
        exact ⟨_, rfl, up2_s _ _, vy_0 Lm vy1, rfc_F Lm⟩
  · refine ⟨_, 0, 1, ?_, hl.1, (fun r e => by cases e), (fun e _ => by decide), fun S1 _ vy1 => ?_⟩
    · rw [if_neg c]
      exact co_same vx
    · rw [hg, r_lkd iz vy1, if_neg c, Option.bind_some, if_pos rfl]
      exact ⟨_, rfl, up2_s _ _, vy_0 Lm vy1, rfc_F Lm⟩
/-- the reference answers, and keeps all -/
theorem ro_ans (Lm : LR E m) {w : Int32} (v : VY E S m z) : RO E S m (some (w, sF S m 0 0)) 0 w z := ⟨_, rfl, up2_s _ _, vy_0 Lm v, rfc_F Lm⟩
theorem go_hgt (L : LX E a) (Lm : LR E m) (h3 : E.1 a3 = some (1, 2, 1)) (iz : IZ z) (vx : VX E S a z) (vy : VY E S m z) (x : Int32) {rc : Int32 → St → Option (Int32 × St)} {x4 : Int32} : ∃ S' z', ((sp_L_stackHeight fu E S a x a3).bind fun u6 => (sp_X12_stackHeight fu E u6.2 m x).bind fun u9 => (sp_X12_thrown fu E u9.2 m).bind fun u10 => if u10.1 = u6.1 then (if u6.1 = 0 then (if (lg_cmp (u10.2.2.2.2 a3 (0 : Int32).toNatClampNeg) u9.1.toInt64) = 0 then rc (x4 + 5) u10.2 else some (0, u10.2)) else rc (x4 + 5) u10.2) else some (0, u10.2)) = rc (x4 + 5) S' ∧ IZ z' ∧ VX E S' a z' ∧ VY E S' m z' := by
  have h100 := iz.1.2.2.2.2.2.1
  unfold sp_L_stackHeight
  obtain ⟨c, w, no, e1, e2, e3, e4, e5⟩ := go_q (fu := fu) (l := [("java/lang/IndexOutOfBoundsException", 1), ("java/lang/IllegalStateException", 2)]) (g := fun S => sp_X12_stackHeight fu E S m x) L Lm h3 iz vx vy x ⟨by decide, by decide⟩ (fun S3 => if inb x 100 = true then (some ((.inr (S3.1 (E.2 (E.2 (E.2 a 5) 0) x.toNatClampNeg) 2)), S3)) else none) rfl (fun S3 => if inb ((26 * x) + 24) 2600 = true then (some (S3.2.1 (E.2 m 29) ((26 * x) + 24).toNatClampNeg, S3)) else none) (fun _ => rfl) (fun n y hx hn hz => by
    subst hx
    have vf : VF E S (E.2 (E.2 (E.2 a 5) 0) n) y := (vx.2.2.2.1.2.1 n y (by omega) hz).1
    refine ⟨.inr (n32 y.2.2.1), n32 y.2.2.1, 0, ?_, rfl, (fun r e => by cases e; rfl), (fun e q => by cases q), fun S1 vy1 => ?_⟩
    · rw [if_pos (by rw [z_inb (by omega)]; omega), z_nat (show n < 2 ^ 31 by omega), vf.2.2.1]
    · have va : VA S1 (E.2 m 29) (26 * n) y := vy1.2.2.2.1.2 n y (by omega) hz
      rw [show (26 : Int32) * n32 n = n32 (26 * n) from z_mul 26 n, show n32 (26 * n) + 24 = n32 (26 * n + 24) from z_add _ 24, if_pos (by rw [z_inb (by omega)]; omega), z_nat (show 26 * n + 24 < 2 ^ 31 by omega), show (sF S1 m 0 0).2.1 (E.2 m 29) (26 * n + 24) = n32 y.2.2.1 from va.2.2.1]
      exact ro_ans Lm vy1)
  obtain ⟨S', e, k1, k2⟩ := law_go (fu := fu) (rc := rc) (x4 := x4) (g := fun S => sp_X12_stackHeight fu E S m x) L Lm h3 vy e1 e2 e3 e4 e5
  exact ⟨S', z, e, iz, k1, k2⟩
theorem go_ssl (L : LX E a) (Lm : LR E m) (h3 : E.1 a3 = some (1, 2, 1)) (iz : IZ z) (vx : VX E S a z) (vy : VY E S m z) (x y : Int32) {rc : Int32 → St → Option (Int32 × St)} {x4 : Int32} : ∃ S' z', ((sp_L_stackSlot fu E S a x y a3).bind fun u6 => (sp_X12_stackSlot fu E u6.2 m x y).bind fun u9 => (sp_X12_thrown fu E u9.2 m).bind fun u10 => if u10.1 = u6.1 then (if u6.1 = 0 then (if (lg_cmp (u10.2.2.2.2 a3 (0 : Int32).toNatClampNeg) u9.1.toInt64) = 0 then rc (x4 + 5) u10.2 else some (0, u10.2)) else rc (x4 + 5) u10.2) else some (0, u10.2)) = rc (x4 + 5) S' ∧ IZ z' ∧ VX E S' a z' ∧ VY E S' m z' := by
  have h100 := iz.1.2.2.2.2.2.1
  unfold sp_L_stackSlot
  obtain ⟨c, w, no, e1, e2, e3, e4, e5⟩ := go_q (fu := fu) (l := [("java/lang/IndexOutOfBoundsException", 1), ("java/lang/IllegalStateException", 2), ("java/util/NoSuchElementException", 3)]) (q1 := sp_X11_stackSlot fu E S a x y) (g := fun S => sp_X12_stackSlot fu E S m x y) L Lm h3 iz vx vy x ⟨by decide, by decide⟩ (fun S3 => if y < 0 then (some (.inl "java/util/NoSuchElementException", S3)) else (if inb x 100 = true then (if y < (S3.1 (E.2 (E.2 (E.2 a 5) 0) x.toNatClampNeg) 2) then (if inb x 100 = true then (if inb y 12 = true then (some ((.inr (S3.2.1 (E.2 (E.2 (E.2 (E.2 a 5) 0) x.toNatClampNeg) 1) y.toNatClampNeg)), S3)) else none) else none) else (some (.inl "java/util/NoSuchElementException", S3))) else none)) rfl (fun S3 => if y < 0 then ((sp_X12_no fu E S3 m 3).bind fun u2 => some (u2.1, u2.2)) else (if inb ((26 * x) + 24) 2600 = true then (if (S3.2.1 (E.2 m 29) ((26 * x) + 24).toNatClampNeg) ≤ y then ((sp_X12_no fu E S3 m 3).bind fun u5 => some (u5.1, u5.2)) else (if inb (((26 * x) + 12) + y) 2600 = true then (some (S3.2.1 (E.2 m 29) (((26 * x) + 12) + y).toNatClampNeg, S3)) else none)) else none)) (fun _ => rfl) (fun n f hx hn hz => by
    subst hx
    have vf : VF E S (E.2 (E.2 (E.2 a 5) 0) n) f := (vx.2.2.2.1.2.1 n f (by omega) hz).1
    have h12 : f.2.2.1 ≤ 12 := (vx.2.2.2.1.2.1 n f (by omega) hz).2
    have hin : inb (n32 n) 100 = true := by rw [z_inb (by omega)]; omega
    have hin2 : inb (n32 (26 * n + 24)) 2600 = true := by rw [z_inb (by omega)]; omega
    rw [show (26 : Int32) * n32 n = n32 (26 * n) from z_mul 26 n, show n32 (26 * n) + 24 = n32 (26 * n + 24) from z_add _ 24, show n32 (26 * n) + 12 = n32 (26 * n + 12) from z_add _ 12, if_pos hin, if_pos hin, z_nat (show n < 2 ^ 31 by omega), vf.2.2.1]
    have a24 : ∀ {S1 : St}, VY E S1 m z → (sF S1 m 0 0).2.1 (E.2 m 29) (26 * n + 24) = n32 f.2.2.1 := fun v => (v.2.2.2.1.2 n f (by omega) hz).2.2.1
    rcases z_sgn y with hy | ⟨k, hk, rfl⟩
    · refine ⟨.inl "java/util/NoSuchElementException", 0, 3, if_pos hy, by decide, (fun r e => by cases e), (fun e q => by decide), fun S1 vy1 => ?_⟩
      rw [if_pos hy]
      exact ro_no Lm vy1
    · by_cases c : k < f.2.2.1
      · refine ⟨.inr (f.2.1 k), f.2.1 k, 0, ?_, rfl, (fun r e => by cases e; rfl), (fun e q => by cases q), fun S1 vy1 => ?_⟩
        · rw [zi_nlt hk, zi_lt hk (by omega), if_pos c, if_pos (by rw [z_inb hk]; omega), z_nat hk, vf.2.1 k c]
        · rw [zi_nlt hk, if_pos hin2, z_nat (show 26 * n + 24 < 2 ^ 31 by omega), a24 vy1, zi_le (by omega) hk, if_neg (by omega), z_add, if_pos (by rw [z_inb (by omega)]; omega), z_nat (show 26 * n + 12 + k < 2 ^ 31 by omega), show (sF S1 m 0 0).2.1 (E.2 m 29) (26 * n + 12 + k) = f.2.1 k from by
            rw [show 26 * n + 12 + k = 26 * n + (12 + k) by omega]
            exact (vy1.2.2.2.1.2 n f (by omega) hz).2.1 k c]
          exact ro_ans Lm vy1
      · refine ⟨.inl "java/util/NoSuchElementException", 0, 3, ?_, by decide, (fun r e => by cases e), (fun e q => by decide), fun S1 vy1 => ?_⟩
        · rw [zi_nlt hk, zi_lt hk (by omega), if_neg c]
        · rw [zi_nlt hk, if_pos hin2, z_nat (show 26 * n + 24 < 2 ^ 31 by omega), a24 vy1, zi_le (by omega) hk, if_pos (by omega)]
          exact ro_no Lm vy1)
  obtain ⟨S', e, k1, k2⟩ := law_go (fu := fu) (rc := rc) (x4 := x4) (g := fun S => sp_X12_stackSlot fu E S m x y) L Lm h3 vy e1 e2 e3 e4 e5
  exact ⟨S', z, e, iz, k1, k2⟩
end QRY
