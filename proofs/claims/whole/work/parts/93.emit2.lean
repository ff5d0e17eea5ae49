/-! emit, both sides -/
section EM2
variable {E : Ev} {S : St} {a m a3 fu : Nat} {z : Zs}
theorem c_Em (L : LX E a) (Lm : LR E m) (hfu : 200 ≤ fu) (iz : IZ z) (vx : VX E S a z) {op : Nat} {x : Int32} (hop : op ≤ 45) (hn : cn z.1.2.2 < 100) : CO E S a m ((sp_X4_clear fu E S (E.2 a 5)).bind fun u4 => (sp_X1_addInstruction fu E u4 (E.2 a 2) (n32 op) x).bind fun u6 => some ((.inr u6.1), u6.2)) (.inr (n32 (cn z.1.2.2 + 1) - 1)) (zEm z op x) := by
  obtain ⟨S1, e1, v1, a1⟩ := vx_cI (fu := fu) L hfu vx
  rw [e1, Option.bind_some]
  have C := lx_C L
  have vc : VCd E S1 (E.2 a 2) z.1.2.2 := v1.1.2.2
  obtain ⟨c0, c1, c2, c3, c6, c11, ci, ch⟩ := vc
  have hin : inb (n32 (cn z.1.2.2)) 100 = true := by rw [z_inb (by omega)]; exact hn
  have n45 : E.2 (E.2 a 2) 4 ≠ E.2 (E.2 a 2) 5 := arr_ne L.1 L.2.1 C C (show (ftab 0)[4]? = some (some (1, 0, 100)) from rfl) (show (ftab 0)[5]? = some (some (1, 0, 100)) from rfl) rfl rfl (fun e => by simp at e)
  have nh : ∀ j, j = 7 ∨ j = 8 ∨ j = 9 ∨ j = 10 → E.2 (E.2 a 2) j ≠ E.2 (E.2 a 2) 4 ∧ E.2 (E.2 a 2) j ≠ E.2 (E.2 a 2) 5 := fun j hj => by
    have hu : (ftab 0)[j]? = some (some (1, 0, 10)) := by rcases hj with rfl | rfl | rfl | rfl <;> rfl
    exact ⟨arr_ne L.1 L.2.1 C C hu (show (ftab 0)[4]? = some (some (1, 0, 100)) from rfl) rfl rfl (fun e => by omega), arr_ne L.1 L.2.1 C C hu (show (ftab 0)[5]? = some (some (1, 0, 100)) from rfl) rfl rfl (fun e => by omega)⟩
  unfold sp_X1_addInstruction bnd
  rw [c6, if_pos hin]
  dsimp only
  rw [show (sG S1 (E.2 (E.2 a 2) 4) (n32 (cn z.1.2.2)).toNatClampNeg (n32 op)).1 (E.2 a 2) 6 = n32 (cn z.1.2.2) from c6, if_pos hin, z_nat (show cn z.1.2.2 < 2 ^ 31 by omega), show (sG (sG S1 (E.2 (E.2 a 2) 4) (cn z.1.2.2) (n32 op)) (E.2 (E.2 a 2) 5) (cn z.1.2.2) x).1 (E.2 a 2) 6 = n32 (cn z.1.2.2) from c6, show n32 (cn z.1.2.2) + 1 = n32 (cn z.1.2.2 + 1) from z_add _ 1, Option.bind_some]
  dsimp only
  rw [show (sF (sG (sG S1 (E.2 (E.2 a 2) 4) (cn z.1.2.2) (n32 op)) (E.2 (E.2 a 2) 5) (cn z.1.2.2) x) (E.2 a 2) 6 (n32 (cn z.1.2.2 + 1))).1 (E.2 a 2) 6 = n32 (cn z.1.2.2 + 1) from up2_s _ _]
  have a2 : Ag (PC E (E.2 a 2)) S1 (sF (sG (sG S1 (E.2 (E.2 a 2) 4) (cn z.1.2.2) (n32 op)) (E.2 (E.2 a 2) 5) (cn z.1.2.2) x) (E.2 a 2) 6 (n32 (cn z.1.2.2 + 1))) := Ag_trans (Ag_mono sG_ag (fun q e => Or.inr ⟨4, (1, 0, 100), rfl, rfl, e⟩)) (Ag_trans (Ag_mono sG_ag (fun q e => Or.inr ⟨5, (1, 0, 100), rfl, rfl, e⟩)) (Ag_mono sF_ag (fun q e => Or.inl e)))
  refine ⟨_, rfl, vx_C (z' := zEm z op x) L v1 a2 ⟨rfl, rfl⟩ rfl ?_, Ag_trans (Ag_mono a1 (nrf_pt Lm (lx_I L))) (Ag_mono a2 (nrf_pc Lm C))⟩
  have f : ∀ j, j ≠ 6 → (sF (sG (sG S1 (E.2 (E.2 a 2) 4) (cn z.1.2.2) (n32 op)) (E.2 (E.2 a 2) 5) (cn z.1.2.2) x) (E.2 a 2) 6 (n32 (cn z.1.2.2 + 1))).1 (E.2 a 2) j = S1.1 (E.2 a 2) j := fun j hj => up2_n _ _ (fun e => hj e.2)
  refine ⟨(f 0 (by decide)).trans c0, (f 1 (by decide)).trans c1, (f 2 (by decide)).trans c2, (f 3 (by decide)).trans c3, up2_s _ _, (f 11 (by decide)).trans c11, fun i hi => ⟨?_, ?_⟩, fun h hh => ?_⟩
  · show up2 (up2 S1.2.1 (E.2 (E.2 a 2) 4) (cn z.1.2.2) (n32 op)) (E.2 (E.2 a 2) 5) (cn z.1.2.2) x (E.2 (E.2 a 2) 4) i = n32 (if i = cn z.1.2.2 then op else cop z.1.2.2 i)
    have hi : i < cn z.1.2.2 + 1 := hi
    rw [up2_n _ _ (fun e => n45 e.1)]
    by_cases e : i = cn z.1.2.2
    · rw [if_pos e, e, up2_s]
    · rw [if_neg e, up2_n _ _ (fun w => e w.2)]; exact (ci i (by omega)).1
  · show up2 (up2 S1.2.1 (E.2 (E.2 a 2) 4) (cn z.1.2.2) (n32 op)) (E.2 (E.2 a 2) 5) (cn z.1.2.2) x (E.2 (E.2 a 2) 5) i = up1 (cx z.1.2.2) (cn z.1.2.2) x i
    have hi : i < cn z.1.2.2 + 1 := hi
    by_cases e : i = cn z.1.2.2
    · rw [e, up2_s, up1_s]
    · rw [up2_n _ _ (fun w => e w.2), up2_n _ _ (fun w => n45 w.1.symm), up1_n _ _ e]; exact (ci i (by omega)).2
  · have g : ∀ j, j = 7 ∨ j = 8 ∨ j = 9 ∨ j = 10 → (sF (sG (sG S1 (E.2 (E.2 a 2) 4) (cn z.1.2.2) (n32 op)) (E.2 (E.2 a 2) 5) (cn z.1.2.2) x) (E.2 a 2) 6 (n32 (cn z.1.2.2 + 1))).2.1 (E.2 (E.2 a 2) j) h = S1.2.1 (E.2 (E.2 a 2) j) h := fun j hj => (up2_n _ _ (fun e => (nh j hj).2 e.1)).trans (up2_n _ _ (fun e => (nh j hj).1 e.1))
    have w := ch h hh
    exact ⟨(g 7 (by omega)).trans w.1, (g 8 (by omega)).trans w.2.1, (g 9 (by omega)).trans w.2.2.1, (g 10 (by omega)).trans w.2.2.2⟩
theorem go_em (L : LX E a) (Lm : LR E m) (h3 : E.1 a3 = some (1, 2, 1)) (hfu : 200 ≤ fu) (iz : IZ z) (vx : VX E S a z) (vy : VY E S m z) (x y : Int32) {rc : Int32 → St → Option (Int32 × St)} {x4 : Int32} : ∃ S' z', ((sp_L_emit fu E S a x y a3).bind fun u6 => (sp_X12_emit fu E u6.2 m x y).bind fun u9 => (sp_X12_thrown fu E u9.2 m).bind fun u10 => if u10.1 = u6.1 then (if u6.1 = 0 then (if (lg_cmp (u10.2.2.2.2 a3 (0 : Int32).toNatClampNeg) u9.1.toInt64) = 0 then rc (x4 + 5) u10.2 else some (0, u10.2)) else rc (x4 + 5) u10.2) else some (0, u10.2)) = rc (x4 + 5) S' ∧ IZ z' ∧ VX E S' a z' ∧ VY E S' m z' := by
  have h100 := iz.1.2.2.2.2.2.1
  have k0 : S.1 (E.2 a 2) 0 = b2 (cst z.1.2.2) := vx.1.2.2.1
  have k6 : S.1 (E.2 a 2) 6 = n32 (cn z.1.2.2) := vx.1.2.2.2.2.2.2.1
  have r15 : ∀ {S1 : St}, VY E S1 m z → (sF S1 m 0 0).1 m 15 = b2 (cst z.1.2.2) := fun v => (vy_0 Lm v).1.2.2.1
  have r19 : ∀ {S1 : St}, VY E S1 m z → (sF S1 m 0 0).1 m 19 = n32 (cn z.1.2.2) := fun v => (vy_0 Lm v).1.2.2.2.2.2.2.1
  unfold sp_L_emit
  -- refused
  have bad : ∀ (e : String) (k : Int32), eNo [("java/lang/IllegalArgumentException", 1), ("java/lang/IllegalStateException", 2)] (.inl e) = some k → k ≠ 0 → sp_X11_emit fu E S a x y = some (.inl e, S) → (∀ S1, VY E S1 m z → RO E S1 m (sp_X12_emit fu E S1 m x y) k 0 z) → ∃ S' z', (((sp_X11_emit fu E S a x y).bind fun u1 => hcat u1 [("java/lang/IllegalArgumentException", 1), ("java/lang/IllegalStateException", 2)] fun r2 S3 => bnd (sL S3 a3 ((0 : Int32).toNatClampNeg) r2.toInt64) fun S4 => some (0, S4)).bind fun u6 => (sp_X12_emit fu E u6.2 m x y).bind fun u9 => (sp_X12_thrown fu E u9.2 m).bind fun u10 => if u10.1 = u6.1 then (if u6.1 = 0 then (if (lg_cmp (u10.2.2.2.2 a3 (0 : Int32).toNatClampNeg) u9.1.toInt64) = 0 then rc (x4 + 5) u10.2 else some (0, u10.2)) else rc (x4 + 5) u10.2) else some (0, u10.2)) = rc (x4 + 5) S' ∧ IZ z' ∧ VX E S' a z' ∧ VY E S' m z' := by
    intro e k he hk h1 h2
    have cl : CO E S a m (sp_X11_emit fu E S a x y) (.inl e) z := by rw [h1]; exact co_same vx
    obtain ⟨S', e', k1, k2⟩ := law_go (fu := fu) (rc := rc) (x4 := x4) (g := fun S => sp_X12_emit fu E S m x y) (w := 0) (n := k) L Lm h3 vy cl he (fun r w => by cases w) (fun _ _ => hk) (fun S1 _ vy1 => h2 S1 vy1)
    exact ⟨S', z, e', iz, k1, k2⟩
  rcases z_sgn x with hx | ⟨op, hop31, rfl⟩
  · refine bad "java/lang/IllegalArgumentException" 1 (by decide) (by decide) (by unfold sp_X11_emit; rw [if_pos hx]) (fun S1 v => ?_)
    unfold sp_X12_emit bnd
    dsimp only
    rw [if_pos hx]
    exact ro_no Lm v
  · by_cases hop : op ≤ 45
    · cases hs : cst z.1.2.2 with
      | false =>
        refine bad "java/lang/IllegalStateException" 2 (by decide) (by decide) (by
          unfold sp_X11_emit
          rw [zi_nlt hop31, show (45 : Int32) = n32 45 from rfl, zi_le hop31 (by decide), if_pos hop, k0, hs, if_pos (show b2 false = 0 from rfl)]) (fun S1 v => ?_)
        unfold sp_X12_emit bnd
        dsimp only
        rw [zi_nlt hop31, show (45 : Int32) = n32 45 from rfl, zi_le hop31 (by decide), if_pos hop, r15 v, hs, if_pos (show b2 false = 0 from rfl)]
        exact ro_no Lm v
      | true =>
        by_cases hn : cn z.1.2.2 < 100
        · have cl : CO E S a m (sp_X11_emit fu E S a (n32 op) y) (.inr (n32 (cn z.1.2.2 + 1) - 1)) (zEm z op y) := by
            unfold sp_X11_emit
            rw [zi_nlt hop31, show (45 : Int32) = n32 45 from rfl, zi_le hop31 (by decide), if_pos hop, k0, hs, if_neg (show ¬ b2 true = 0 by decide), k6, show (100 : Int32) = n32 100 from rfl, zi_lt (by omega) (by decide), if_pos hn]
            exact c_Em L Lm hfu iz vx hop hn
          obtain ⟨S', e, k1, k2⟩ := law_go (fu := fu) (rc := rc) (x4 := x4) (g := fun S => sp_X12_emit fu E S m (n32 op) y) (w := n32 (cn z.1.2.2 + 1) - 1) (l := [("java/lang/IllegalArgumentException", 1), ("java/lang/IllegalStateException", 2)]) L Lm h3 vy cl rfl (fun r e => by cases e; rfl) (fun e w => by cases w) (fun S1 _ vy1 => by
            show RO E S1 m (sp_X12_emit fu E S1 m (n32 op) y) 0 (n32 (cn z.1.2.2 + 1) - 1) (zEm z op y)
            unfold sp_X12_emit bnd
            dsimp only
            rw [zi_nlt hop31, show (45 : Int32) = n32 45 from rfl, zi_le hop31 (by decide), if_pos hop, r15 vy1, hs, if_neg (show ¬ b2 true = 0 by decide)]
            have v0 := vy_0 Lm (x := 0) vy1
            have e0 : (sF S1 m 0 0).1 m 0 = 0 := up2_s _ _
            have ag0 : Ag (RFc E m) S1 (sF S1 m 0 0) := rfc_F Lm
            have q19 := r19 vy1
            generalize sF S1 m 0 0 = S0 at v0 e0 ag0 q19 ⊢
            have hin : inb (n32 (cn z.1.2.2)) 100 = true := by rw [z_inb (by omega)]; exact hn
            rw [q19, show (100 : Int32) = n32 100 from rfl, zi_eq (by omega) (by decide), if_neg (by omega), if_pos hin, show (sG S0 (E.2 m 20) (n32 (cn z.1.2.2)).toNatClampNeg (n32 op)).1 m 19 = n32 (cn z.1.2.2) from q19, if_pos hin, z_nat (show cn z.1.2.2 < 2 ^ 31 by omega), show (sG (sG S0 (E.2 m 20) (cn z.1.2.2) (n32 op)) (E.2 m 21) (cn z.1.2.2) y).1 m 19 = n32 (cn z.1.2.2) from q19, show n32 (cn z.1.2.2) + 1 = n32 (cn z.1.2.2 + 1) from z_add _ 1]
            have n01 : E.2 m 20 ≠ E.2 m 21 := lr_ne Lm rfl rfl (by decide)
            have al : AgL E m [19] [20, 21] S0 (sF (sG (sG S0 (E.2 m 20) (cn z.1.2.2) (n32 op)) (E.2 m 21) (cn z.1.2.2) y) m 19 (n32 (cn z.1.2.2 + 1))) := agl_trans (agl_sG (by decide)) (agl_trans (agl_sG (by decide)) (agl_sF (by decide)))
            have vc : VRc E (sF (sG (sG S0 (E.2 m 20) (cn z.1.2.2) (n32 op)) (E.2 m 21) (cn z.1.2.2) y) m 19 (n32 (cn z.1.2.2 + 1))) m (cE z.1.2.2 op y) := by
              obtain ⟨c0, c1, c2, c3, c4, c5, c6, c7⟩ := v0.1.2.2
              refine ⟨(agl_f al rfl).trans c0, (agl_f al rfl).trans c1, (agl_f al rfl).trans c2, (agl_f al rfl).trans c3, up2_s _ _, (agl_f al rfl).trans c5, fun i hi => ⟨?_, ?_⟩, fun h hh => ?_⟩
              · show up2 (up2 S0.2.1 (E.2 m 20) (cn z.1.2.2) (n32 op)) (E.2 m 21) (cn z.1.2.2) y (E.2 m 20) i = n32 (if i = cn z.1.2.2 then op else cop z.1.2.2 i)
                have hi : i < cn z.1.2.2 + 1 := hi
                rw [up2_n _ _ (fun e => n01 e.1)]
                by_cases e : i = cn z.1.2.2
                · rw [if_pos e, e, up2_s]
                · rw [if_neg e, up2_n _ _ (fun w => e w.2)]; exact (c6 i (by omega)).1
              · show up2 (up2 S0.2.1 (E.2 m 20) (cn z.1.2.2) (n32 op)) (E.2 m 21) (cn z.1.2.2) y (E.2 m 21) i = up1 (cx z.1.2.2) (cn z.1.2.2) y i
                have hi : i < cn z.1.2.2 + 1 := hi
                by_cases e : i = cn z.1.2.2
                · rw [e, up2_s, up1_s]
                · rw [up2_n _ _ (fun w => e w.2), up2_n _ _ (fun w => n01 w.1.symm), up1_n _ _ e]; exact (c6 i (by omega)).2
              · rw [agl_a Lm al (j := 23) rfl rfl rfl, agl_a Lm al (j := 24) rfl rfl rfl, agl_a Lm al (j := 25) rfl rfl rfl, agl_a Lm al (j := 26) rfl rfl rfl]; exact c7 h hh
            have e19 : (sF (sG (sG S0 (E.2 m 20) (cn z.1.2.2) (n32 op)) (E.2 m 21) (cn z.1.2.2) y) m 19 (n32 (cn z.1.2.2 + 1))).1 m 19 = n32 (cn z.1.2.2 + 1) := up2_s _ _
            generalize sF (sG (sG S0 (E.2 m 20) (cn z.1.2.2) (n32 op)) (E.2 m 21) (cn z.1.2.2) y) m 19 (n32 (cn z.1.2.2 + 1)) = S5 at al vc e19 ⊢
            obtain ⟨S6, e6, vi6, k27, a6⟩ := r_dis (fu := fu) (S := S5) Lm hfu
            rw [e6, Option.bind_some, show S6.1 m 19 = n32 (cn z.1.2.2 + 1) from (agl_f a6 rfl).trans e19]
            have al6 : AgL E m [19, 27] [20, 21, 28] S0 S6 := agl_trans (agl_mono al (by decide) (by decide)) (agl_mono a6 (by decide) (by decide))
            exact ⟨S6, rfl, (agl_f al6 rfl).trans e0, vy_mk (vrt_agl Lm v0.1.1 al6 rfl rfl rfl) (vrb_agl Lm v0.1.2.1 al6 rfl rfl rfl) (vrc_agl Lm vc a6 rfl rfl rfl) (vyp_agl Lm v0.2.1 al6 rfl rfl rfl) (vyd_agl Lm v0.2.2.1 al6 rfl rfl rfl) vi6 (vrd_ag Lm v0.2.2.2.2.1 al6 rfl rfl rfl) ((agl_f al6 rfl).trans v0.2.2.2.2.2.1) ((agl_f al6 rfl).trans v0.2.2.2.2.2.2.1) k27, Ag_trans ag0 (agl_rf al6 rfl)⟩)
          exact ⟨S', zEm z op y, e, iz_Em iz hop hn, k1, k2⟩
        · refine bad "java/lang/IllegalStateException" 2 (by decide) (by decide) (by
            unfold sp_X11_emit
            rw [zi_nlt hop31, show (45 : Int32) = n32 45 from rfl, zi_le hop31 (by decide), if_pos hop, k0, hs, if_neg (show ¬ b2 true = 0 by decide), k6, show (100 : Int32) = n32 100 from rfl, zi_lt (by omega) (by decide), if_neg hn]) (fun S1 v => ?_)
          unfold sp_X12_emit bnd
          dsimp only
          rw [zi_nlt hop31, show (45 : Int32) = n32 45 from rfl, zi_le hop31 (by decide), if_pos hop, r15 v, hs, if_neg (show ¬ b2 true = 0 by decide), r19 v, show (100 : Int32) = n32 100 from rfl, zi_eq (by omega) (by decide), if_pos (by omega)]
          exact ro_no Lm v
    · refine bad "java/lang/IllegalArgumentException" 1 (by decide) (by decide) (by
        unfold sp_X11_emit
        rw [zi_nlt hop31, show (45 : Int32) = n32 45 from rfl, zi_le hop31 (by decide), if_neg hop]) (fun S1 v => ?_)
      unfold sp_X12_emit bnd
      dsimp only
      rw [zi_nlt hop31, show (45 : Int32) = n32 45 from rfl, zi_le hop31 (by decide), if_neg hop]
      exact ro_no Lm v
end EM2
