/-! pushStack; join -/
section PS2
variable {E : Ev} {S : St} {a m a3 fu : Nat} {z : Zs}
theorem go_PS (L : LX E a) (Lm : LR E m) (h3 : E.1 a3 = some (1, 2, 1)) (iz : IZ z) (vx : VX E S a z) (vy : VY E S m z) (x : Int32) {rc : Int32 → St → Option (Int32 × St)} {x4 : Int32} : ∃ S' z', ((sp_L_pushStack fu E S a x a3).bind fun u6 => (sp_X12_pushStack fu E u6.2 m x).bind fun u9 => (sp_X12_thrown fu E u9.2 m).bind fun u10 => if u10.1 = u6.1 then (if u6.1 = 0 then (if (lg_cmp (u10.2.2.2.2 a3 (0 : Int32).toNatClampNeg) u9.1.toInt64) = 0 then rc (x4 + 5) u10.2 else some (0, u10.2)) else rc (x4 + 5) u10.2) else some (0, u10.2)) = rc (x4 + 5) S' ∧ IZ z' ∧ VX E S' a z' ∧ VY E S' m z' := by
  have hl := iz.2.2.1.2.1.2.2
  have t1 := t_sv (fu := fu) iz.1.1 vx.1.1 x
  have r1 : ∀ {S1 : St}, VY E S1 m z → sp_X12_isSlotValue fu E (sF S1 m 0 0) m x = some (b2 (svB z.1.1 x), sF S1 m 0 0) := fun v => r_sv (fu := fu) iz.1.1 (vy_0 Lm v).1.1 x
  have vh : S.1 (E.2 a 3) 2 = n32 (zD z).2.2.1 := vx.2.2.1.1.2.2.1
  unfold sp_L_pushStack
  by_cases c : svB z.1.1 x = true
  · by_cases c2 : (zD z).2.2.1 < 12
    · have hin : inb (n32 (zD z).2.2.1) 12 = true := by rw [z_inb (by omega)]; exact c2
      have cl : CO E S a m (sp_X11_pushStack fu E S a x) (.inr (n32 ((zD z).2.2.1 + 1))) (zPS z x) := by
        unfold sp_X11_pushStack bnd
        rw [t1, Option.bind_some, b2_if, if_pos c]
        dsimp only
        rw [vh, show (12 : Int32) = n32 12 from rfl, zi_lt (by omega) (by decide), if_pos c2, if_pos hin, z_nat (show (zD z).2.2.1 < 2 ^ 31 by omega)]
        have e4 : (sG S (E.2 (E.2 a 3) 1) (zD z).2.2.1 x).1 (E.2 a 3) 2 = n32 (zD z).2.2.1 := vh
        rw [e4, show n32 (zD z).2.2.1 + 1 = n32 ((zD z).2.2.1 + 1) from z_add _ 1]
        have a1 : Ag (fun q => q = a ∨ PF E (E.2 a 3) q) S (sF (sG S (E.2 (E.2 a 3) 1) (zD z).2.2.1 x) (E.2 a 3) 2 (n32 ((zD z).2.2.1 + 1))) := Ag_trans (Ag_mono sG_ag (fun q e => Or.inr (Or.inr (Or.inr e)))) (Ag_mono sF_ag (fun q e => Or.inr (Or.inl e)))
        have nfa : a ≠ E.2 a 3 := ne_ty L.2.2.1 (lx_D L) (by decide)
        have n01 : E.2 (E.2 a 3) 0 ≠ E.2 (E.2 a 3) 1 := pf_ar L.1 L.2.1 (lx_D L) (lx_D L) (by decide) (by decide) (fun e => by simp at e)
        refine ⟨_, congrArg some (Prod.ext (congrArg Sum.inr (up2_s _ _)) rfl), vx_D L vx a1 rfl rfl ⟨rfl, rfl⟩ ⟨rfl, rfl⟩ ⟨fun i hi => ?_, fun i hi => ?_, up2_s _ _, ?_⟩ ((up2_n _ _ (fun e => nfa e.1)).trans vx.2.2.1.2) (up2_n _ _ (fun e => nfa e.1)) (up2_n _ _ (fun e => nfa e.1)), Ag_mono a1 (nrf_D L Lm)⟩
        · exact (up2_n _ _ (fun w => n01 w.1)).trans (vx.2.2.1.1.1 i hi)
        · show up2 S.2.1 (E.2 (E.2 a 3) 1) (zD z).2.2.1 x (E.2 (E.2 a 3) 1) i = up1 (zD z).2.1 (zD z).2.2.1 x i
          have hi : i < (zD z).2.2.1 + 1 := hi
          by_cases e : i = (zD z).2.2.1
          · rw [e, up2_s, up1_s]
          · rw [up2_n _ _ (fun w => e w.2), up1_n _ _ e]; exact vx.2.2.1.1.2.1 i (by omega)
        · exact (up2_n _ _ (fun w => by simp at w)).trans vx.2.2.1.1.2.2.2
      obtain ⟨S', e, k1, k2⟩ := law_go (rc := rc) (x4 := x4) (g := fun S => sp_X12_pushStack fu E S m x) (w := n32 ((zD z).2.2.1 + 1)) (l := [("java/lang/IllegalArgumentException", 1), ("java/lang/IllegalStateException", 2)]) L Lm h3 vy cl rfl (fun r e => by cases e; rfl) (fun e w => by cases w) (fun S1 _ vy1 => by
        show RO E S1 m (sp_X12_pushStack fu E S1 m x) 0 (n32 ((zD z).2.2.1 + 1)) (zPS z x)
        unfold sp_X12_pushStack bnd
        dsimp only
        rw [r1 vy1, Option.bind_some, b2_if, if_pos c]
        dsimp only
        have v0 := vy_0 Lm (x := 0) vy1
        have e0 : (sF S1 m 0 0).1 m 0 = 0 := up2_s _ _
        have ag0 : Ag (RFc E m) S1 (sF S1 m 0 0) := rfc_F Lm
        generalize sF S1 m 0 0 = S0 at v0 e0 ag0 ⊢
        have h33 := v0.2.2.1.2.1
        rw [h33, show (12 : Int32) = n32 12 from rfl, zi_eq (by omega) (by decide), if_neg (by omega), z_add, if_pos (by rw [z_inb (by omega)]; omega), z_nat (show 12 + (zD z).2.2.1 < 2 ^ 31 by omega)]
        have e4 : (sG S0 (E.2 m 34) (12 + (zD z).2.2.1) x).1 m 33 = n32 (zD z).2.2.1 := h33
        rw [e4, show n32 (zD z).2.2.1 + 1 = n32 ((zD z).2.2.1 + 1) from z_add _ 1]
        have al : AgL E m [33] [34] S0 (sF (sG S0 (E.2 m 34) (12 + (zD z).2.2.1) x) m 33 (n32 ((zD z).2.2.1 + 1))) := agl_trans (agl_sG (by decide)) (agl_sF (by decide))
        refine ⟨_, congrArg some (Prod.ext (up2_s _ _) rfl), (agl_f al rfl).trans e0, ?_, Ag_trans ag0 (agl_rf al rfl)⟩
        refine vy_mk (vrt_agl Lm v0.1.1 al rfl rfl rfl) (vrb_agl Lm v0.1.2.1 al rfl rfl rfl) (vrc_agl Lm v0.1.2.2 al rfl rfl rfl) (vyp_agl Lm v0.2.1 al rfl rfl rfl) ⟨(agl_f al rfl).trans v0.2.2.1.1, up2_s _ _, fun i hi => ?_, fun i hi => ?_⟩ (vri_ag Lm v0.2.2.2.1 al rfl rfl rfl) (vrd_ag Lm v0.2.2.2.2.1 al rfl rfl rfl) ((agl_f al rfl).trans v0.2.2.2.2.2.1) ((agl_f al rfl).trans v0.2.2.2.2.2.2.1) ((agl_f al rfl).trans v0.2.2.2.2.2.2.2)
        · have := iz.2.2.1.1
          exact (up2_n _ _ (fun w => by have := w.2; omega)).trans (v0.2.2.1.2.2.1 i hi)
        · show up2 S0.2.1 (E.2 m 34) (12 + (zD z).2.2.1) x (E.2 m 34) (12 + i) = up1 (zD z).2.1 (zD z).2.2.1 x i
          have hi : i < (zD z).2.2.1 + 1 := hi
          by_cases e : i = (zD z).2.2.1
          · rw [e, up2_s, up1_s]
          · rw [up2_n _ _ (fun w => e (by have := w.2; omega)), up1_n _ _ e]; exact v0.2.2.1.2.2.2 i (by omega))
      exact ⟨S', _, e, iz_PS iz (svB_iff c) c2, k1, k2⟩
    · have cl : CO E S a m (sp_X11_pushStack fu E S a x) (.inl "java/lang/IllegalStateException") z := by
        unfold sp_X11_pushStack
        rw [t1, Option.bind_some, b2_if, if_pos c]
        dsimp only
        rw [vh, show (12 : Int32) = n32 12 from rfl, zi_lt (by omega) (by decide), if_neg c2]
        exact co_same vx
      obtain ⟨S', e, k1, k2⟩ := law_go (rc := rc) (x4 := x4) (g := fun S => sp_X12_pushStack fu E S m x) (w := 0) (n := 2) (l := [("java/lang/IllegalArgumentException", 1), ("java/lang/IllegalStateException", 2)]) L Lm h3 vy cl (by decide) (fun r e => by cases e) (fun e _ => by decide) (fun S1 _ vy1 => by
        show RO E S1 m (sp_X12_pushStack fu E S1 m x) 2 0 z
        unfold sp_X12_pushStack bnd
        dsimp only
        rw [r1 vy1, Option.bind_some, b2_if, if_pos c]
        dsimp only
        have h33 := (vy_0 Lm (x := 0) vy1).2.2.1.2.1
        rw [h33, show (12 : Int32) = n32 12 from rfl, zi_eq (by omega) (by decide), if_pos (by omega)]
        exact ro_no Lm vy1)
      exact ⟨S', _, e, iz, k1, k2⟩
  · have cl : CO E S a m (sp_X11_pushStack fu E S a x) (.inl "java/lang/IllegalArgumentException") z := by
      unfold sp_X11_pushStack
      rw [t1, Option.bind_some, b2_if, if_neg c]
      exact co_same vx
    obtain ⟨S', e, k1, k2⟩ := law_go (rc := rc) (x4 := x4) (g := fun S => sp_X12_pushStack fu E S m x) (w := 0) (n := 1) (l := [("java/lang/IllegalArgumentException", 1), ("java/lang/IllegalStateException", 2)]) L Lm h3 vy cl (by decide) (fun r e => by cases e) (fun e _ => by decide) (fun S1 _ vy1 => by
      show RO E S1 m (sp_X12_pushStack fu E S1 m x) 1 0 z
      unfold sp_X12_pushStack bnd
      dsimp only
      rw [r1 vy1, Option.bind_some, b2_if, if_neg c]
      exact ro_no Lm vy1)
    exact ⟨S', _, e, iz, k1, k2⟩
/-- both values are slot values -/
theorem t_req (hd : DI z.1.1) (v : VT E S (E.2 a 0) z.1.1) (x y : Int32) : sp_X11_requireSlotValues fu E S a x y = some (if svB z.1.1 x = true ∧ svB z.1.1 y = true then .inr () else .inl "java/lang/IllegalArgumentException", S) := by
  unfold sp_X11_requireSlotValues
  rw [t_sv hd v, Option.bind_some, b2_if]
  dsimp only
  by_cases c : svB z.1.1 x = true
  · rw [if_pos c, t_sv hd v, Option.bind_some, b2_if]
    dsimp only
    by_cases c2 : svB z.1.1 y = true
    · rw [if_pos c2, if_pos ⟨c, c2⟩]
    · rw [if_neg c2, if_neg (fun w => c2 w.2)]
  · rw [if_neg c, if_neg (fun w => c w.1)]
theorem go_join (L : LX E a) (Lm : LR E m) (h3 : E.1 a3 = some (1, 2, 1)) (hfu : 200 ≤ fu) (iz : IZ z) (vx : VX E S a z) (vy : VY E S m z) (x y : Int32) {rc : Int32 → St → Option (Int32 × St)} {x4 : Int32} : ∃ S' z', ((sp_L_join fu E S a x y a3).bind fun u6 => (sp_X12_join fu E u6.2 m x y).bind fun u9 => (sp_X12_thrown fu E u9.2 m).bind fun u10 => if u10.1 = u6.1 then (if u6.1 = 0 then (if (lg_cmp (u10.2.2.2.2 a3 (0 : Int32).toNatClampNeg) u9.1.toInt64) = 0 then rc (x4 + 5) u10.2 else some (0, u10.2)) else rc (x4 + 5) u10.2) else some (0, u10.2)) = rc (x4 + 5) S' ∧ IZ z' ∧ VX E S' a z' ∧ VY E S' m z' := by
  have hd := iz.1.1
  have rs : ∀ {S1 : St} (w : Int32), VY E S1 m z → sp_X12_isSlotValue fu E (sF S1 m 0 0) m w = some (b2 (svB z.1.1 w), sF S1 m 0 0) := fun w v => r_sv (fu := fu) hd (vy_0 Lm v).1.1 w
  unfold sp_L_join
  by_cases c : svB z.1.1 x = true ∧ svB z.1.1 y = true
  · have cl : CO E S a m (sp_X11_join fu E S a x y) (.inr (joinA z.1.1 x y)) z := by
      unfold sp_X11_join
      rw [t_req hd vx.1.1, Option.bind_some, if_pos c]
      show CO E S a m ((sp_X10_commonSlot fu E S (E.2 a 0) x y).bind fun u5 => some ((.inr u5.1), u5.2)) _ z
      rw [t_join hd vx.1.1 (by omega) (svB_iff c.1) (svB_iff c.2), Option.bind_some]
      exact co_same vx
    obtain ⟨S', e, k1, k2⟩ := law_go (rc := rc) (x4 := x4) (g := fun S => sp_X12_join fu E S m x y) (w := joinA z.1.1 x y) (l := [("java/lang/IllegalArgumentException", 1)]) L Lm h3 vy cl rfl (fun r e => by cases e; rfl) (fun e w => by cases w) (fun S1 _ vy1 => by
      show RO E S1 m (sp_X12_join fu E S1 m x y) 0 (joinA z.1.1 x y) z
      unfold sp_X12_join bnd
      dsimp only
      rw [rs x vy1, Option.bind_some, b2_if, if_pos c.1]
      dsimp only
      rw [rs y vy1, Option.bind_some, b2_if, if_pos c.2]
      dsimp only
      rw [r_join hd (vy_0 Lm (x := 0) vy1).1.1 (by omega) (svB_iff c.1) (svB_iff c.2), Option.bind_some]
      exact ⟨_, rfl, up2_s _ _, vy_0 Lm vy1, rfc_F Lm⟩)
    exact ⟨S', _, e, iz, k1, k2⟩
  · have cl : CO E S a m (sp_X11_join fu E S a x y) (.inl "java/lang/IllegalArgumentException") z := by
      unfold sp_X11_join
      rw [t_req hd vx.1.1, Option.bind_some, if_neg c]
      exact co_same vx
    obtain ⟨S', e, k1, k2⟩ := law_go (rc := rc) (x4 := x4) (g := fun S => sp_X12_join fu E S m x y) (w := 0) (n := 1) (l := [("java/lang/IllegalArgumentException", 1)]) L Lm h3 vy cl (by decide) (fun r e => by cases e) (fun e _ => by decide) (fun S1 _ vy1 => by
      show RO E S1 m (sp_X12_join fu E S1 m x y) 1 0 z
      unfold sp_X12_join bnd
      dsimp only
      rw [rs x vy1, Option.bind_some, b2_if]
      dsimp only
      by_cases c1 : svB z.1.1 x = true
      · rw [if_pos c1, rs y vy1, Option.bind_some, b2_if, if_neg (fun w => c ⟨c1, w⟩)]
        exact ro_no Lm vy1
      · rw [if_neg c1]
        exact ro_no Lm vy1)
    exact ⟨S', _, e, iz, k1, k2⟩
end PS2
