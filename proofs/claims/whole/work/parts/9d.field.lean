/-! declareField -/
section FLD
variable {E : Ev} {S : St} {a m a3 fu : Nat} {z : Zs} {rc : Int32 → St → Option (Int32 × St)} {x4 : Int32}
def bF (b : Mb) (o t : Nat) : Mb := ((fcnt b + 1, (fun j => if j = fcnt b then o else fown b j), fun j => if j = fcnt b then t else ftyp b j), b.2)
def zFd (z : Zs) (o t : Nat) : Zs := ((z.1.1, bF z.1.2.1 o t, z.1.2.2), z.2)
theorem iz_Fd {o t : Nat} (iz : IZ z) (ho : cls z.1.1 o = true) (ht : isT z.1.1 t = true) (hn : fcnt z.1.2.1 < 30) : IZ (zFd z o t) := by
  obtain ⟨⟨hd, ⟨m1, m2, m3, m4⟩, hc⟩, h2⟩ := iz
  refine ⟨⟨hd, ⟨show fcnt z.1.2.1 + 1 ≤ 30 by omega, m2, fun i hi => ?_, m4⟩, hc⟩, h2⟩
  have hi : i < fcnt z.1.2.1 + 1 := hi
  show cls z.1.1 (if i = fcnt z.1.2.1 then o else fown z.1.2.1 i) = true ∧ isT z.1.1 (if i = fcnt z.1.2.1 then t else ftyp z.1.2.1 i) = true
  by_cases e : i = fcnt z.1.2.1
  · rw [if_pos e, if_pos e]; exact ⟨ho, ht⟩
  · rw [if_neg e, if_neg e]; exact m3 i (by omega)
theorem c_Fd (L : LX E a) (Lm : LR E m) (vx : VX E S a z) {o t : Nat} (hn : fcnt z.1.2.1 < 30) : CO E S a m ((sp_X8_addField fu E S (E.2 a 1) (n32 o) (n32 t)).bind fun u7 => some ((.inr u7.1), u7.2)) (.inr (n32 (fcnt z.1.2.1 + 1) - 1)) (zFd z o t) := by
  have B := lx_B L
  obtain ⟨b1, b2, b3, b4⟩ := vx.1.2.1
  have hin : inb (n32 (fcnt z.1.2.1)) 30 = true := by rw [z_inb (by omega)]; exact hn
  unfold sp_X8_addField bnd
  dsimp only
  rw [b1, if_pos hin, z_nat (show fcnt z.1.2.1 < 2 ^ 31 by omega)]
  rw [show (sG S (E.2 (E.2 a 1) 0) (fcnt z.1.2.1) (n32 o)).1 (E.2 a 1) 2 = n32 (fcnt z.1.2.1) from b1, if_pos hin, z_nat (show fcnt z.1.2.1 < 2 ^ 31 by omega)]
  rw [show (sG (sG S (E.2 (E.2 a 1) 0) (fcnt z.1.2.1) (n32 o)) (E.2 (E.2 a 1) 1) (fcnt z.1.2.1) (n32 t)).1 (E.2 a 1) 2 = n32 (fcnt z.1.2.1) from b1, show n32 (fcnt z.1.2.1) + 1 = n32 (fcnt z.1.2.1 + 1) from z_add _ 1, Option.bind_some]
  dsimp only
  have ag : Ag (PO E (E.2 a 1) 7) S (sF (sG (sG S (E.2 (E.2 a 1) 0) (fcnt z.1.2.1) (n32 o)) (E.2 (E.2 a 1) 1) (fcnt z.1.2.1) (n32 t)) (E.2 a 1) 2 (n32 (fcnt z.1.2.1 + 1))) := Ag_trans (Ag_mono sG_ag (fun q e => Or.inr ⟨0, (1, 0, 30), rfl, rfl, e⟩)) (Ag_trans (Ag_mono sG_ag (fun q e => Or.inr ⟨1, (1, 0, 30), rfl, rfl, e⟩)) (Ag_mono sF_ag (fun q e => Or.inl e)))
  have n01 : E.2 (E.2 a 1) 0 ≠ E.2 (E.2 a 1) 1 := arr_ne L.1 L.2.1 B B (show (ftab 7)[0]? = some (some (1, 0, 30)) from rfl) (show (ftab 7)[1]? = some (some (1, 0, 30)) from rfl) rfl rfl (fun e => by simp at e)
  have f : ∀ j, j ≠ 2 → (sF (sG (sG S (E.2 (E.2 a 1) 0) (fcnt z.1.2.1) (n32 o)) (E.2 (E.2 a 1) 1) (fcnt z.1.2.1) (n32 t)) (E.2 a 1) 2 (n32 (fcnt z.1.2.1 + 1))).1 (E.2 a 1) j = S.1 (E.2 a 1) j := fun j hj => up2_n _ _ (fun e => hj e.2)
  have g : ∀ (j : Nat) (p : ∃ u, (ftab 7)[j]? = some (some u) ∧ u.1 = 1), j ≠ 0 → j ≠ 1 → ∀ i, (sF (sG (sG S (E.2 (E.2 a 1) 0) (fcnt z.1.2.1) (n32 o)) (E.2 (E.2 a 1) 1) (fcnt z.1.2.1) (n32 t)) (E.2 a 1) 2 (n32 (fcnt z.1.2.1 + 1))).2.1 (E.2 (E.2 a 1) j) i = S.2.1 (E.2 (E.2 a 1) j) i := fun j ⟨u, hu, u1⟩ h0 h1 i => (up2_n _ _ (fun e => arr_ne L.1 L.2.1 B B hu (show (ftab 7)[1]? = some (some (1, 0, 30)) from rfl) u1 rfl (fun q => h1 q.2) e.1)).trans (up2_n _ _ (fun e => arr_ne L.1 L.2.1 B B hu (show (ftab 7)[0]? = some (some (1, 0, 30)) from rfl) u1 rfl (fun q => h0 q.2) e.1))
  refine ⟨_, congrArg some (Prod.ext (congrArg Sum.inr (congrArg (· - 1) (up2_s _ _))) rfl), vx_B (z' := zFd z o t) L vx ag ⟨rfl, rfl⟩ ⟨rfl, rfl⟩ ?_ ?_, Ag_mono ag (nrf_po Lm B (by decide))⟩
  · refine ⟨up2_s _ _, (f 9 (by decide)).trans b2, fun i hi => ⟨?_, ?_⟩, fun k hk => ?_⟩
    · have hi : i < fcnt z.1.2.1 + 1 := hi
      exact (up2_n _ _ (fun e => n01 e.1)).trans (app_n (fun q => (b3 i q).1) hi)
    · have hi : i < fcnt z.1.2.1 + 1 := hi
      exact app_n (fun q => (up2_n _ _ (fun e => n01 e.1.symm)).trans (b3 i q).2) hi
    · have w := b4 k hk
      refine ⟨(g 3 ⟨_, rfl, rfl⟩ (by decide) (by decide) k).trans w.1, (g 4 ⟨_, rfl, rfl⟩ (by decide) (by decide) k).trans w.2.1, (g 5 ⟨_, rfl, rfl⟩ (by decide) (by decide) k).trans w.2.2.1, (g 6 ⟨_, rfl, rfl⟩ (by decide) (by decide) k).trans w.2.2.2.1, (g 7 ⟨_, rfl, rfl⟩ (by decide) (by decide) k).trans w.2.2.2.2.1, fun j hj => (g 8 ⟨_, rfl, rfl⟩ (by decide) (by decide) _).trans (w.2.2.2.2.2 j hj)⟩
  · exact ⟨(f 11 (by decide)).trans vx.2.1.1, (f 12 (by decide)).trans vx.2.1.2.1, fun k hk => (g 10 ⟨_, rfl, rfl⟩ (by decide) (by decide) k).trans (vx.2.1.2.2 k hk)⟩
theorem go_fd (L : LX E a) (Lm : LR E m) (h3 : E.1 a3 = some (1, 2, 1)) (iz : IZ z) (vx : VX E S a z) (vy : VY E S m z) (x y : Int32) : GoS E a m a3 fu rc x4 (sp_L_declareField fu E S a x y a3) (fun S => sp_X12_declareField fu E S m x y) := by
  have hd := iz.1.1
  have h30 := iz.1.2.1.1
  have k2 : S.1 (E.2 a 1) 2 = n32 (fcnt z.1.2.1) := vx.1.2.1.1
  have r4 : ∀ {S1 : St}, VY E S1 m z → (sF S1 m 0 0).1 m 4 = n32 (fcnt z.1.2.1) := fun v => (vy_0 Lm v).1.2.1.1
  have tc := t_cls (fu := fu) hd vx.1.1 x
  have tt := t_typ (fu := fu) hd vx.1.1 y
  have rcl : ∀ {S1 : St}, VY E S1 m z → sp_X12_isClass fu E (sF S1 m 0 0) m x = some (b2 (decide (0 ≤ x) && cls z.1.1 x.toNatClampNeg), sF S1 m 0 0) := fun v => r_cls (fu := fu) hd (vy_0 Lm v).1.1 x
  have rt : ∀ {S1 : St}, VY E S1 m z → sp_X12_isType fu E (sF S1 m 0 0) m y = some (b2 (decide (0 ≤ y) && isT z.1.1 y.toNatClampNeg), sF S1 m 0 0) := fun v => r_typ (fu := fu) hd (vy_0 Lm v).1.1 y
  unfold sp_L_declareField
  by_cases c : (decide (0 ≤ x) && cls z.1.1 x.toNatClampNeg) = true
  rotate_left
  · refine gos_no L Lm h3 vy iz "java/lang/IllegalArgumentException" 1 (by decide) (by decide) (by unfold sp_X11_declareField; rw [tc, Option.bind_some, b2_if, if_neg c]; exact co_same vx) (fun S1 v => ?_)
    unfold sp_X12_declareField bnd
    dsimp only
    rw [rcl v, Option.bind_some, b2_if, if_neg c]
    exact ro_no Lm v
  by_cases d : (decide (0 ≤ y) && isT z.1.1 y.toNatClampNeg) = true
  rotate_left
  · refine gos_no L Lm h3 vy iz "java/lang/IllegalArgumentException" 1 (by decide) (by decide) (by unfold sp_X11_declareField; rw [tc, Option.bind_some, b2_if, if_pos c]; dsimp only; rw [tt, Option.bind_some, b2_if, if_neg d]; exact co_same vx) (fun S1 v => ?_)
    unfold sp_X12_declareField bnd
    dsimp only
    rw [rcl v, Option.bind_some, b2_if, if_pos c]
    dsimp only
    rw [rt v, Option.bind_some, b2_if, if_neg d]
    exact ro_no Lm v
  by_cases hn : fcnt z.1.2.1 < 30
  rotate_left
  · refine gos_no L Lm h3 vy iz "java/lang/IllegalStateException" 2 (by decide) (by decide) (by unfold sp_X11_declareField; rw [tc, Option.bind_some, b2_if, if_pos c]; dsimp only; rw [tt, Option.bind_some, b2_if, if_pos d]; dsimp only; rw [k2, show (30 : Int32) = n32 30 from rfl, zi_lt (by omega) (by decide), if_neg hn]; exact co_same vx) (fun S1 v => ?_)
    unfold sp_X12_declareField bnd
    dsimp only
    rw [rcl v, Option.bind_some, b2_if, if_pos c]
    dsimp only
    rw [rt v, Option.bind_some, b2_if, if_pos d]
    dsimp only
    rw [r4 v, show (30 : Int32) = n32 30 from rfl, zi_eq (by omega) (by decide), if_pos (by omega)]
    exact ro_no Lm v
  have c' := c
  rw [Bool.and_eq_true] at c'
  obtain ⟨o, ho31, rfl⟩ := ge0_n c'.1
  have hoc : cls z.1.1 o = true := by
    have := c'.2
    rw [z_nat ho31] at this
    exact this
  have d' := d
  rw [Bool.and_eq_true] at d'
  obtain ⟨t, ht31, rfl⟩ := ge0_n d'.1
  have htt : isT z.1.1 t = true := by
    have := d'.2
    rw [z_nat ht31] at this
    exact this
  refine gos_ok (z' := zFd z o t) L Lm h3 vy (iz_Fd iz hoc htt hn) (w := n32 (fcnt z.1.2.1 + 1) - 1) (by unfold sp_X11_declareField; rw [tc, Option.bind_some, b2_if, if_pos c]; dsimp only; rw [tt, Option.bind_some, b2_if, if_pos d]; dsimp only; rw [k2, show (30 : Int32) = n32 30 from rfl, zi_lt (by omega) (by decide), if_pos hn]; exact c_Fd L Lm vx hn) (fun S1 v => ?_)
  unfold sp_X12_declareField bnd
  dsimp only
  rw [rcl v, Option.bind_some, b2_if, if_pos c]
  dsimp only
  rw [rt v, Option.bind_some, b2_if, if_pos d]
  dsimp only
  have v0 := vy_0 Lm (x := 0) v
  have e0 : (sF S1 m 0 0).1 m 0 = 0 := up2_s _ _
  have ag0 : Ag (RFc E m) S1 (sF S1 m 0 0) := rfc_F Lm
  have q4 := r4 v
  generalize sF S1 m 0 0 = S0 at v0 e0 ag0 q4 ⊢
  have hin : inb (n32 (fcnt z.1.2.1)) 30 = true := by rw [z_inb (by omega)]; exact hn
  rw [q4, show (30 : Int32) = n32 30 from rfl, zi_eq (by omega) (by decide), if_neg (by omega), if_pos hin, z_nat (show fcnt z.1.2.1 < 2 ^ 31 by omega)]
  rw [show (sG S0 (E.2 m 5) (fcnt z.1.2.1) (n32 o)).1 m 4 = n32 (fcnt z.1.2.1) from q4, if_pos hin, z_nat (show fcnt z.1.2.1 < 2 ^ 31 by omega)]
  rw [show (sG (sG S0 (E.2 m 5) (fcnt z.1.2.1) (n32 o)) (E.2 m 6) (fcnt z.1.2.1) (n32 t)).1 m 4 = n32 (fcnt z.1.2.1) from q4, show n32 (fcnt z.1.2.1) + 1 = n32 (fcnt z.1.2.1 + 1) from z_add _ 1]
  have n56 : E.2 m 5 ≠ E.2 m 6 := lr_ne Lm rfl rfl (by decide)
  have al : AgL E m [4] [5, 6] S0 (sF (sG (sG S0 (E.2 m 5) (fcnt z.1.2.1) (n32 o)) (E.2 m 6) (fcnt z.1.2.1) (n32 t)) m 4 (n32 (fcnt z.1.2.1 + 1))) := agl_trans (agl_sG (by decide)) (agl_trans (agl_sG (by decide)) (agl_sF (by decide)))
  have vb : VRb E (sF (sG (sG S0 (E.2 m 5) (fcnt z.1.2.1) (n32 o)) (E.2 m 6) (fcnt z.1.2.1) (n32 t)) m 4 (n32 (fcnt z.1.2.1 + 1))) m (bF z.1.2.1 o t) := by
    obtain ⟨b1, b2, b3, b4⟩ := v0.1.2.1
    refine ⟨up2_s _ _, (agl_f al rfl).trans b2, fun i hi => ⟨?_, ?_⟩, fun k hk => ?_⟩
    · have hi : i < fcnt z.1.2.1 + 1 := hi
      exact (up2_n _ _ (fun e => n56 e.1)).trans (app_n (fun q => (b3 i q).1) hi)
    · have hi : i < fcnt z.1.2.1 + 1 := hi
      exact app_n (fun q => (up2_n _ _ (fun e => n56 e.1.symm)).trans (b3 i q).2) hi
    · have w := b4 k hk
      rw [agl_a Lm al (j := 8) rfl rfl rfl, agl_a Lm al (j := 9) rfl rfl rfl, agl_a Lm al (j := 10) rfl rfl rfl, agl_a Lm al (j := 11) rfl rfl rfl, agl_a Lm al (j := 12) rfl rfl rfl]
      exact w
  refine ⟨_, congrArg some (Prod.ext (congrArg (· - 1) (up2_s _ _)) rfl), (agl_f al rfl).trans e0, ?_, Ag_trans ag0 (agl_rf al rfl)⟩
  exact vy_mk (vrt_agl Lm v0.1.1 al rfl rfl rfl) vb (vrc_agl Lm v0.1.2.2 al rfl rfl rfl) (vyp_agl Lm v0.2.1 al rfl rfl rfl) (vyd_agl Lm v0.2.2.1 al rfl rfl rfl) (vri_ag Lm v0.2.2.2.1 al rfl rfl rfl) (vrd_ag Lm v0.2.2.2.2.1 al rfl rfl rfl) ((agl_f al rfl).trans v0.2.2.2.2.2.1) ((agl_f al rfl).trans v0.2.2.2.2.2.2.1) ((agl_f al rfl).trans v0.2.2.2.2.2.2.2)
end FLD
