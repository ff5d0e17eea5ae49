/-! questions: isAssignable, hasFrame; counts -/
section QST
variable {E : Ev} {S : St} {a m a3 fu : Nat} {z z' : Zs}
theorem law_goB {o1 : Option ((String ⊕ Int32) × St)} {c : String ⊕ Int32} {l : List (String × Int32)} {g : St → Option (Int32 × St)} {n w : Int32} {rc : Int32 → St → Option (Int32 × St)} {x4 : Int32} (L : LX E a) (Lm : LR E m) (h3 : E.1 a3 = some (1, 2, 1)) (vy : VY E S m z) (h1 : CO E S a m o1 c z') (hn : eNo l c = some n) (hw : ∀ r, c = .inr r → w = r) (hn0 : ∀ e, c = .inl e → n ≠ 0) (h2 : ∀ S1, VX E S1 a z' → VY E S1 m z → RO E S1 m (g S1) n w z') : ∃ S', ((o1.bind fun u1 => hcat u1 l fun r2 S3 => if r2 = 0 then (bnd (sL S3 a3 ((0 : Int32).toNatClampNeg) 0) fun S4 => some (0, S4)) else (bnd (sL S3 a3 ((0 : Int32).toNatClampNeg) 1) fun S5 => some (0, S5))).bind fun u6 => (g u6.2).bind fun u9 => (sp_X12_thrown fu E u9.2 m).bind fun u10 => if u10.1 = u6.1 then (if u6.1 = 0 then (if u9.1 = 0 then (if (lg_cmp (u10.2.2.2.2 a3 (0 : Int32).toNatClampNeg) 0) = 0 then rc (x4 + 5) u10.2 else some (0, u10.2)) else (if (lg_cmp (u10.2.2.2.2 a3 (0 : Int32).toNatClampNeg) 1) = 0 then rc (x4 + 5) u10.2 else some (0, u10.2))) else rc (x4 + 5) u10.2) else some (0, u10.2)) = rc (x4 + 5) S' ∧ VX E S' a z' ∧ VY E S' m z' := by
  obtain ⟨S1, rfl, vx1, a1⟩ := h1
  have vy1 := vy_ag a1 Lm vy
  rw [Option.bind_some]
  cases c with
  | inl e =>
    have hn : (l.find? (fun q => q.1 == e)).map (fun q => q.2) = some n := hn
    have e1 : hcat (.inl e, S1) l (fun r2 S3 => if r2 = 0 then (bnd (sL S3 a3 ((0 : Int32).toNatClampNeg) 0) fun S4 => some (0, S4)) else (bnd (sL S3 a3 ((0 : Int32).toNatClampNeg) 1) fun S5 => some (0, S5))) = some (n, S1) := by
      show (l.find? (fun q => q.1 == e)).map (fun q => (q.2, S1)) = some (n, S1)
      cases hf : l.find? (fun q => q.1 == e) with
      | none => rw [hf] at hn; cases hn
      | some q =>
        rw [hf] at hn
        have hn : some q.2 = some n := hn
        cases hn
        rfl
    obtain ⟨S2, e2, c2, vy2, a2⟩ := h2 S1 vx1 vy1
    rw [e1, Option.bind_some]
    dsimp only
    rw [e2, Option.bind_some]
    unfold sp_X12_thrown
    rw [Option.bind_some]
    dsimp only
    rw [c2, if_pos rfl]
    have vx2 := vx_rf L Lm vx1 a2
    rw [if_neg (hn0 e rfl)]
    exact ⟨S2, rfl, vx2, vy2⟩
  | inr r =>
    have hn : some (0 : Int32) = some n := hn
    cases hn
    have er := hw r rfl
    subst er
    have key : ∀ v : Int64, (∀ S2 : St, S2.2.2.2 a3 (0 : Int32).toNatClampNeg = v → (if w = 0 then (if (lg_cmp (S2.2.2.2 a3 (0 : Int32).toNatClampNeg) 0) = 0 then rc (x4 + 5) S2 else some (0, S2)) else (if (lg_cmp (S2.2.2.2 a3 (0 : Int32).toNatClampNeg) 1) = 0 then rc (x4 + 5) S2 else some (0, S2))) = rc (x4 + 5) S2) → ∃ S', ((some ((0 : Int32), sL S1 a3 ((0 : Int32).toNatClampNeg) v)).bind fun u6 => (g u6.2).bind fun u9 => (sp_X12_thrown fu E u9.2 m).bind fun u10 => if u10.1 = u6.1 then (if u6.1 = 0 then (if u9.1 = 0 then (if (lg_cmp (u10.2.2.2.2 a3 (0 : Int32).toNatClampNeg) 0) = 0 then rc (x4 + 5) u10.2 else some (0, u10.2)) else (if (lg_cmp (u10.2.2.2.2 a3 (0 : Int32).toNatClampNeg) 1) = 0 then rc (x4 + 5) u10.2 else some (0, u10.2))) else rc (x4 + 5) u10.2) else some (0, u10.2)) = rc (x4 + 5) S' ∧ VX E S' a z' ∧ VY E S' m z' := by
      intro v hv
      obtain ⟨S2, e2, c2, vy2, a2⟩ := h2 (sL S1 a3 ((0 : Int32).toNatClampNeg) v) vx1 vy1
      rw [Option.bind_some]
      dsimp only
      rw [e2, Option.bind_some]
      unfold sp_X12_thrown
      rw [Option.bind_some]
      dsimp only
      have el : S2.2.2.2 a3 (0 : Int32).toNatClampNeg = v := by
        rw [(a2 a3 (nrf_n (nrf_l Lm h3))).2.2.2]
        exact up2_s _ _
      rw [c2, if_pos rfl, if_pos rfl, hv S2 el]
      exact ⟨S2, rfl, vx_rf L Lm (show VX E (sL S1 a3 ((0 : Int32).toNatClampNeg) v) a z' from vx1) a2, vy2⟩
    by_cases c : w = 0
    · have e1 : hcat (.inr w, S1) l (fun r2 S3 => if r2 = 0 then (bnd (sL S3 a3 ((0 : Int32).toNatClampNeg) 0) fun S4 => some ((0 : Int32), S4)) else (bnd (sL S3 a3 ((0 : Int32).toNatClampNeg) 1) fun S5 => some (0, S5))) = some (0, sL S1 a3 ((0 : Int32).toNatClampNeg) 0) := if_pos c
      rw [e1]
      refine key 0 (fun S2 el => ?_)
      rw [if_pos c, el, if_pos (lg_same _)]
    · have e1 : hcat (.inr w, S1) l (fun r2 S3 => if r2 = 0 then (bnd (sL S3 a3 ((0 : Int32).toNatClampNeg) 0) fun S4 => some ((0 : Int32), S4)) else (bnd (sL S3 a3 ((0 : Int32).toNatClampNeg) 1) fun S5 => some (0, S5))) = some (0, sL S1 a3 ((0 : Int32).toNatClampNeg) 1) := if_neg c
      rw [e1]
      refine key 1 (fun S2 el => ?_)
      rw [if_neg c, el, if_pos (lg_same _)]
theorem go_asg (L : LX E a) (Lm : LR E m) (h3 : E.1 a3 = some (1, 2, 1)) (hfu : 200 ≤ fu) (iz : IZ z) (vx : VX E S a z) (vy : VY E S m z) (x y : Int32) {rc : Int32 → St → Option (Int32 × St)} {x4 : Int32} : ∃ S' z', ((sp_L_isAssignable fu E S a x y a3).bind fun u6 => (sp_X12_isAssignable fu E u6.2 m x y).bind fun u9 => (sp_X12_thrown fu E u9.2 m).bind fun u10 => if u10.1 = u6.1 then (if u6.1 = 0 then (if u9.1 = 0 then (if (lg_cmp (u10.2.2.2.2 a3 (0 : Int32).toNatClampNeg) 0) = 0 then rc (x4 + 5) u10.2 else some (0, u10.2)) else (if (lg_cmp (u10.2.2.2.2 a3 (0 : Int32).toNatClampNeg) 1) = 0 then rc (x4 + 5) u10.2 else some (0, u10.2))) else rc (x4 + 5) u10.2) else some (0, u10.2)) = rc (x4 + 5) S' ∧ IZ z' ∧ VX E S' a z' ∧ VY E S' m z' := by
  have hd := iz.1.1
  have rs : ∀ {S1 : St} (w : Int32), VY E S1 m z → sp_X12_isSlotValue fu E (sF S1 m 0 0) m w = some (b2 (svB z.1.1 w), sF S1 m 0 0) := fun w v => r_sv (fu := fu) hd (vy_0 Lm v).1.1 w
  unfold sp_L_isAssignable
  by_cases c : svB z.1.1 x = true ∧ svB z.1.1 y = true
  · have cl : CO E S a m (sp_X11_isAssignable fu E S a x y) (.inr (b2 (fitsA z.1.1 x y))) z := by
      unfold sp_X11_isAssignable
      rw [t_req hd vx.1.1, Option.bind_some, if_pos c]
      show CO E S a m ((sp_X10_fits fu E S (E.2 a 0) x y).bind fun u5 => if isB u5.1 = true then some ((.inr u5.1), u5.2) else none) _ z
      rw [t_fits hd vx.1.1 (by omega) (svB_iff c.1) (svB_iff c.2), Option.bind_some]
      dsimp only
      rw [isB_ite]
      exact co_same vx
    obtain ⟨S', e, k1, k2⟩ := law_goB (fu := fu) (rc := rc) (x4 := x4) (g := fun S => sp_X12_isAssignable fu E S m x y) (w := b2 (fitsA z.1.1 x y)) (l := [("java/lang/IllegalArgumentException", 1)]) L Lm h3 vy cl rfl (fun r e => by cases e; rfl) (fun e w => by cases w) (fun S1 _ vy1 => by
      show RO E S1 m (sp_X12_isAssignable fu E S1 m x y) 0 (b2 (fitsA z.1.1 x y)) z
      unfold sp_X12_isAssignable bnd
      dsimp only
      rw [rs x vy1, Option.bind_some, b2_if, if_pos c.1]
      dsimp only
      rw [rs y vy1, Option.bind_some, b2_if, if_pos c.2]
      dsimp only
      rw [r_fits hd (vy_0 Lm (x := 0) vy1).1.1 (by omega) (svB_iff c.1) (svB_iff c.2), Option.bind_some]
      dsimp only
      rw [isB_ite]
      exact ⟨_, rfl, up2_s _ _, vy_0 Lm vy1, rfc_F Lm⟩)
    exact ⟨S', _, e, iz, k1, k2⟩
  · have cl : CO E S a m (sp_X11_isAssignable fu E S a x y) (.inl "java/lang/IllegalArgumentException") z := by
      unfold sp_X11_isAssignable
      rw [t_req hd vx.1.1, Option.bind_some, if_neg c]
      exact co_same vx
    have no21 : ∀ {S1 : St}, VY E S1 m z → RO E S1 m (jb_X12_isAssignable_21 fu E m (sF S1 m 0 0)) 1 0 z := fun v => ⟨_, rfl, up2_s _ _, vy_0 Lm (vy_0 Lm v), Ag_trans (rfc_F Lm) (rfc_F Lm)⟩
    obtain ⟨S', e, k1, k2⟩ := law_goB (fu := fu) (rc := rc) (x4 := x4) (g := fun S => sp_X12_isAssignable fu E S m x y) (w := 0) (n := 1) (l := [("java/lang/IllegalArgumentException", 1)]) L Lm h3 vy cl (by decide) (fun r e => by cases e) (fun e _ => by decide) (fun S1 _ vy1 => by
      show RO E S1 m (sp_X12_isAssignable fu E S1 m x y) 1 0 z
      unfold sp_X12_isAssignable bnd
      dsimp only
      rw [rs x vy1, Option.bind_some, b2_if]
      dsimp only
      by_cases c1 : svB z.1.1 x = true
      · rw [if_pos c1, rs y vy1, Option.bind_some, b2_if, if_neg (fun w => c ⟨c1, w⟩)]
        exact no21 vy1
      · rw [if_neg c1]
        exact no21 vy1)
    exact ⟨S', _, e, iz, k1, k2⟩
/-- counts -/
theorem go_cnt (Lm : LR E m) (L : LX E a) (iz : IZ z) (vx : VX E S a z) (vy : VY E S m z) {rc : Int32 → St → Option (Int32 × St)} {x4 : Int32} : ∃ S', ((sp_X11_instructionCount fu E S a).bind fun u132 => (sp_X12_instructionCount fu E u132.2 m).bind fun u133 => if u132.1 = u133.1 then rc (x4 + 5) u133.2 else some (0, u133.2)) = rc (x4 + 5) S' ∧ VX E S' a z ∧ VY E S' m z := by
  have h1 : S.1 (E.2 a 2) 6 = n32 (cn z.1.2.2) := vx.1.2.2.2.2.2.2.1
  have v0 := vy_0 Lm (x := 0) vy
  have h2 : (sF S m 0 0).1 m 19 = n32 (cn z.1.2.2) := v0.1.2.2.2.2.2.2.1
  unfold sp_X11_instructionCount sp_X12_instructionCount bnd
  rw [Option.bind_some, Option.bind_some]
  dsimp only
  rw [h1, h2, if_pos rfl]
  exact ⟨_, rfl, vx_rf L Lm vx (rfc_F Lm), v0⟩
theorem go_pos (Lm : LR E m) (L : LX E a) (iz : IZ z) (vx : VX E S a z) (vy : VY E S m z) {rc : Int32 → St → Option (Int32 × St)} {x4 : Int32} : ∃ S', ((sp_X11_errorPosition fu E S a).bind fun u207 => (sp_X12_errorPosition fu E u207.2 m).bind fun u208 => if u207.1 = u208.1 then rc (x4 + 5) u208.2 else some (0, u208.2)) = rc (x4 + 5) S' ∧ VX E S' a z ∧ VY E S' m z := by
  have h1 : S.1 a 9 = zE z := vx.2.2.2.2.2.1
  have v0 := vy_0 Lm (x := 0) vy
  have h2 : (sF S m 0 0).1 m 36 = zE z := v0.2.2.2.2.2.1
  unfold sp_X11_errorPosition sp_X12_errorPosition bnd
  rw [Option.bind_some, Option.bind_some]
  dsimp only
  rw [h1, h2, if_pos rfl]
  exact ⟨_, rfl, vx_rf L Lm vx (rfc_F Lm), v0⟩
theorem go_vis (Lm : LR E m) (L : LX E a) (iz : IZ z) (vx : VX E S a z) (vy : VY E S m z) {rc : Int32 → St → Option (Int32 × St)} {x4 : Int32} : ∃ S', ((sp_X11_visits fu E S a).bind fun u211 => (sp_X12_visits fu E u211.2 m).bind fun u212 => if u211.1 = u212.1 then rc (x4 + 5) u212.2 else some (0, u212.2)) = rc (x4 + 5) S' ∧ VX E S' a z ∧ VY E S' m z := by
  have h1 : S.1 a 10 = n32 (zV z) := vx.2.2.2.2.2.2
  have v0 := vy_0 Lm (x := 0) vy
  have h2 : (sF S m 0 0).1 m 37 = n32 (zV z) := v0.2.2.2.2.2.2.1
  unfold sp_X11_visits sp_X12_visits bnd
  rw [Option.bind_some, Option.bind_some]
  dsimp only
  rw [h1, h2, if_pos rfl]
  exact ⟨_, rfl, vx_rf L Lm vx (rfc_F Lm), v0⟩
end QST
