/-! adoptFrames, put together -/
section AD3
variable {E : Ev} {S : St} {a m a3 fu : Nat} {z : Zs} {rc : Int32 → St → Option (Int32 × St)} {x4 : Int32}
theorem cnt_0 {tb : Nat → Option Fr} (h : ∀ i, i < 100 → tb i = none) : cntT tb 100 = 0 := by
  rw [cntT_congr (tb' := fun _ => none) 100 (fun i hi => by rw [h i hi])]
  exact cntT_none 100
theorem cnt_p {tb : Nat → Option Fr} {i : Nat} (h : (tb i).isSome = true) : ∀ k, i < k → 0 < cntT tb k
  | 0, hk => absurd hk (Nat.not_lt_zero _)
  | k + 1, hk => by
    show 0 < cntT tb k + (if (tb k).isSome = true then 1 else 0)
    by_cases c : i = k
    · rw [← c, if_pos h]; omega
    · have := cnt_p h k (by omega)
      omega
theorem ad_lt {c : Cd} {ti : Nat → Option Fr} (hc : CloT c ti) {j t : Nat} (hj : j < cn c) (hs : (ti j).isSome = true) (h : AdQ c j t) : t < cn c := by
  rcases h with ⟨h1, h2⟩ | ⟨_, _, h2⟩ | ⟨g, g1, g2, g3⟩
  · rw [h2]; exact ((hc j hj hs).1 h1).2.1
  · rw [h2]; exact hj
  · rw [g3]; exact ((hc j hj hs).2 g g1 g2).2.1
theorem iz_Ad {tb : Nat → Option Fr} {P : Nat → Prop} (iz : IZ z) (h : Adp (zI z) P tb) (hP : ∀ t, P t → t < cn z.1.2.2) : IZ (zt z tb) := by
  refine ⟨iz.1, iz.2.1, iz.2.2.1, iz.2.2.2.1, fun i x hi e => iz.2.2.2.1 i x hi (adp_h h e), iz.2.2.2.2.2.1, fun i hi => (h i).2 (fun p => ?_)⟩
  have hi : cn z.1.2.2 ≤ i := hi
  have := hP i p
  omega
def PAd (z : Zs) : Nat → Prop := fun t => ∃ j, j < cn z.1.2.2 ∧ (zI z j).isSome = true ∧ AdQ z.1.2.2 j t
theorem c_Ad (L : LX E a) (Lm : LR E m) (hfu : 200 ≤ fu) (iz : IZ z) (vx : VX E S a z) (hc : CloT z.1.2.2 (zI z)) : ∃ tb, Adp (zI z) (PAd z) tb ∧ CO E S a m ((sp_X4_clear fu E S (E.2 a 6)).bind fun u3 => (sp_X11_adoptAtJumps fu E u3 a).bind fun u4 => (sp_X11_adoptAtHandlers fu E u4 a).bind fun u5 => (sp_X11_adoptBehindEnds fu E u5 a).bind fun u6 => some ((.inr (u6.1 (E.2 a 6) 2)), u6)) (.inr (n32 (cntT tb 100))) (zt z tb) := by
  have h100 := iz.1.2.2.2.2.2.1
  have h10 := iz.1.2.2.2.2.2.2.1
  obtain ⟨S1, e1, v1, a1⟩ := vx_cR (fu := fu) L hfu vx
  obtain ⟨S2, tb2, e2, v2, A2, a2⟩ := c_atJ (fu := fu) L iz hc (cn z.1.2.2) 0 fu S1 (fun _ => none) (fun _ => False) (by omega) (by omega) v1 adp_0
  obtain ⟨S3, tb3, e3, v3, A3, a3'⟩ := c_atH (fu := fu) L hfu iz hc (chn z.1.2.2) 0 fu S2 tb2 _ (by omega) (by omega) v2 A2
  obtain ⟨S4, tb4, e4, v4, A4, a4⟩ := c_atE (fu := fu) L iz (max 1 (cn z.1.2.2) - 1) 1 fu S3 tb3 _ (by omega) (by omega) (by omega) v3 A3
  refine ⟨tb4, adp_c A4 (fun t ht => ⟨fun w => ?_, fun w => ?_⟩), ?_⟩
  · rcases w with ((w | ⟨j, _, h2, h3, h4, h5⟩) | ⟨g, _, g2, j, h2, h3, h4, h5⟩) | ⟨h1, h2, h3⟩
    · exact w.elim
    · exact ⟨j, h2, h3, Or.inl ⟨h4, h5⟩⟩
    · exact ⟨j, h2, h3, Or.inr (Or.inr ⟨g, g2, h4, h5⟩)⟩
    · exact ⟨t, h2, ht, Or.inr (Or.inl ⟨h1, h3, rfl⟩)⟩
  · obtain ⟨j, h2, h3, h4⟩ := w
    rcases h4 with ⟨w1, w2⟩ | ⟨w1, w2, w3⟩ | ⟨g, g2, g3, g4⟩
    · exact Or.inl (Or.inl (Or.inr ⟨j, Nat.zero_le j, h2, h3, w1, w2⟩))
    · rw [w3]; exact Or.inr ⟨w1, h2, w2⟩
    · exact Or.inl (Or.inr ⟨g, Nat.zero_le g, g2, j, h2, h3, g3, g4⟩)
  · have kk : S4.1 (E.2 a 6) 2 = n32 (cntT tb4 100) := v4.2.2.2.2.1.2.2
    unfold sp_X11_adoptAtJumps sp_X11_adoptAtHandlers sp_X11_adoptBehindEnds
    rw [e1, Option.bind_some, show lp_X11_adoptAtJumps_2 fu E a fu 0 S1 = some S2 from e2, Option.bind_some, show lp_X11_adoptAtHandlers_2 fu E a fu 0 S2 = some S3 from e3, Option.bind_some, show lp_X11_adoptBehindEnds_2 fu E a fu 1 S3 = some S4 from e4, Option.bind_some, kk]
    have n6 := nrf_pt Lm (lx_R L)
    exact ⟨S4, rfl, v4, Ag_trans (Ag_mono a1 n6) (Ag_trans (Ag_mono a2 n6) (Ag_trans (Ag_mono a3' n6) (Ag_mono a4 n6)))⟩
/-- the declared table is emptied, the adopted frames come in -/
theorem r_AdL (Lm : LR E m) (hfu : 200 ≤ fu) (iz : IZ z) {S0 : St} (v0 : VY E S0 m z) (hc : CloT z.1.2.2 (zI z)) : ∀ (k i F : Nat) (S : St), i + k = 100 → k + 1 ≤ F → AgL E m [] [30, 31] S0 S → (∀ j, j < i → S.2.1 (E.2 m 30) j = 0) → ∃ S' tb, lp_X12_adoptFrames_20 fu E m F (n32 i) S = some (n32 (cntT tb (cn z.1.2.2)), S') ∧ VRD E S' m tb ∧ Adp (zI z) (PAd z) tb ∧ AgL E m [] [30, 31] S0 S' := by
  have h100 := iz.1.2.2.2.2.2.1
  intro k
  induction k with
  | zero =>
    intro i F S hk hF al h
    obtain ⟨F, rfl⟩ : ∃ z, F = z + 1 := ⟨F - 1, by omega⟩
    show ∃ S' tb, bd_X12_adoptFrames_20 fu E m _ (n32 i) S = _ ∧ _
    unfold bd_X12_adoptFrames_20
    rw [show (100 : Int32) = n32 100 from rfl, zi_le (by decide) (by omega), if_pos (by omega)]
    obtain ⟨S', tb, e, v, A, al'⟩ := r_atA (fu := fu) Lm hfu iz v0 hc (cn z.1.2.2) 0 fu S (fun _ => none) (fun _ => False) (by omega) (by omega) al ⟨fun j hj => h j (by omega), fun _ _ _ e => (by cases e)⟩ adp_0
    exact ⟨S', tb, e, v, adp_c A (fun t _ => ⟨fun w => w.elim (fun f => f.elim) (fun ⟨j, _, h2⟩ => ⟨j, h2⟩), fun ⟨j, h2⟩ => Or.inr ⟨j, Nat.zero_le j, h2⟩⟩), al'⟩
  | succ k ih =>
    intro i F S hk hF al h
    obtain ⟨F, rfl⟩ : ∃ z, F = z + 1 := ⟨F - 1, by omega⟩
    have hin : inb (n32 i) 100 = true := by rw [z_inb (by omega)]; omega
    show ∃ S' tb, bd_X12_adoptFrames_20 fu E m (lp_X12_adoptFrames_20 fu E m F) (n32 i) S = _ ∧ _
    unfold bd_X12_adoptFrames_20 bnd
    rw [show (100 : Int32) = n32 100 from rfl, zi_le (by decide) (by omega), if_neg (by omega), if_pos hin, z_nat (show i < 2 ^ 31 by omega), show n32 i + 1 = n32 (i + 1) from z_add i 1]
    exact ih (i + 1) F (sG S (E.2 m 30) i 0) (by omega) (by omega) (agl_trans al (agl_sG (by decide))) (fun j hj => by
      show up2 S.2.1 (E.2 m 30) i 0 (E.2 m 30) j = 0
      by_cases c : j = i
      · rw [c, up2_s]
      · rw [up2_n _ _ (fun u => c u.2)]; exact h j (by omega))
theorem go_ad (L : LX E a) (Lm : LR E m) (h3 : E.1 a3 = some (1, 2, 1)) (hfu : 200 ≤ fu) (iz : IZ z) (vx : VX E S a z) (vy : VY E S m z) : GoS E a m a3 fu rc x4 (sp_L_adoptFrames fu E S a a3) (fun S => sp_X12_adoptFrames fu E S m) := by
  have h100 := iz.1.2.2.2.2.2.1
  have kI : S.1 (E.2 a 5) 2 = n32 (cntT (zI z) 100) := vx.2.2.2.1.2.2
  have c100 := cntT_le (tb := zI z) 100
  have r27 : ∀ {S1 : St}, VY E S1 m z → (sF S1 m 0 0).1 m 27 = b2 (zI z 0).isSome := fun v => (vy_0 Lm v).2.2.2.2.2.2.2
  unfold sp_L_adoptFrames
  rcases iz.2.2.2.2.2.1 with hn | ⟨hs, hp, hc⟩
  · refine gos_no L Lm h3 vy iz "java/lang/IllegalStateException" 1 (by decide) (by decide) (by unfold sp_X11_adoptFrames; rw [kI, cnt_0 hn, if_pos (show n32 0 = 0 from rfl)]; exact co_same vx) (fun S1 v => ?_)
    unfold sp_X12_adoptFrames bnd
    dsimp only
    rw [r27 v, hn 0 (by decide), if_pos (show b2 (none : Option Fr).isSome = 0 from rfl)]
    exact ro_no Lm v
  · obtain ⟨tb, hA, cl⟩ := c_Ad (fu := fu) (S := S) L Lm hfu iz vx hc
    have hlt : ∀ t, PAd z t → t < cn z.1.2.2 := fun t ⟨j, h1, h2, h3⟩ => ad_lt hc h1 h2 h3
    have cp := cnt_p hs 100 (by decide)
    refine gos_ok (z' := zt z tb) L Lm h3 vy (iz_Ad iz hA hlt) (w := n32 (cntT tb 100)) (by unfold sp_X11_adoptFrames; rw [kI, if_neg (show ¬ n32 (cntT (zI z) 100) = 0 by rw [show (0 : Int32) = n32 0 from rfl, z_eq (by omega) (by decide)]; omega)]; exact cl) (fun S1 v => ?_)
    unfold sp_X12_adoptFrames bnd
    dsimp only
    rw [r27 v, hs, if_neg (show ¬ b2 true = 0 by decide)]
    have v0 := vy_0 Lm (x := 0) v
    have e0 : (sF S1 m 0 0).1 m 0 = 0 := up2_s _ _
    obtain ⟨S', tb', e, vd, A', al⟩ := r_AdL (fu := fu) Lm hfu iz v0 hc 100 0 fu (sF S1 m 0 0) (by omega) (by omega) agl_refl (fun j hj => absurd hj (Nat.not_lt_zero j))
    have et : tb' = tb := adp_u A' hA
    subst et
    have ec : cntT tb' 100 = cntT tb' (cn z.1.2.2) := cnt_100 h100 (iz_Ad iz hA hlt).2.2.2.2.2.2
    rw [ec]
    refine ⟨S', e, (agl_f al rfl).trans e0, ?_, Ag_trans (rfc_F Lm) (agl_rf al rfl)⟩
    exact vy_mk (vrt_agl Lm v0.1.1 al rfl rfl rfl) (vrb_agl Lm v0.1.2.1 al rfl rfl rfl) (vrc_agl Lm v0.1.2.2 al rfl rfl rfl) (vyp_agl Lm v0.2.1 al rfl rfl rfl) (vyd_agl Lm v0.2.2.1 al rfl rfl rfl) (vri_ag Lm v0.2.2.2.1 al rfl rfl rfl) vd ((agl_f al rfl).trans v0.2.2.2.2.2.1) ((agl_f al rfl).trans v0.2.2.2.2.2.2.1) ((agl_f al rfl).trans v0.2.2.2.2.2.2.2)
end AD3
