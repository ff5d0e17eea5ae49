/-! a draft's slots are pushed; slot values are compared -/
section PSH
variable {E : Ev} {S : St} {a m a3 fu : Nat} {z : Zs}
theorem vy_0 (Lm : LR E m) {x : Int32} (v : VY E S m z) : VY E (sF S m 0 x) m z := by
  have ag : AgL E m [0] [] S (sF S m 0 x) := agl_sF (by decide)
  have f : ∀ j, j ≠ 0 → (sF S m 0 x).1 m j = S.1 m j := fun j hj => up2_n _ _ (fun e => hj e.2)
  exact ⟨vre_ag Lm v.1 (agl_mono ag (by decide) (by decide)), ⟨(f 13 (by decide)).trans v.2.1.1, v.2.1.2⟩, ⟨(f 32 (by decide)).trans v.2.2.1.1, (f 33 (by decide)).trans v.2.2.1.2.1, v.2.2.1.2.2⟩, v.2.2.2.1, v.2.2.2.2.1, (f 36 (by decide)).trans v.2.2.2.2.2.1, (f 37 (by decide)).trans v.2.2.2.2.2.2.1, (f 27 (by decide)).trans v.2.2.2.2.2.2.2⟩
theorem rfc_F (Lm : LR E m) {j : Nat} {x : Int32} : Ag (RFc E m) S (sF S m j x) := Ag_mono sF_ag (fun q e => Or.inl e)
theorem rfc_G (Lm : LR E m) {j i : Nat} {x : Int32} (hj : isA10 j = true) : Ag (RFc E m) S (sG S (E.2 m j) i x) := Ag_mono sG_ag (fun q e => Or.inr ⟨j, hj, e⟩)
/-- the reference refuses -/
theorem ro_no (Lm : LR E m) {k : Int32} (v : VY E S m z) : RO E S m ((sp_X12_no fu E (sF S m 0 0) m k).bind fun u => some (u.1, u.2)) k 0 z := ⟨_, rfl, up2_s _ _, vy_0 Lm (vy_0 Lm v), Ag_trans (rfc_F Lm) (rfc_F Lm)⟩
theorem co_same (v : VX E S a z) {c : String ⊕ Int32} : CO E S a m (some (c, S)) c z := ⟨S, rfl, v, Ag_refl⟩
def zPL (z : Zs) (x : Int32) : Zs := (z.1, (zP z, (up1 (zD z).1 (zL z) x, (zD z).2), zL z + 1), z.2.2)
def zPS (z : Zs) (x : Int32) : Zs := (z.1, (zP z, ((zD z).1, up1 (zD z).2.1 (zD z).2.2.1 x, (zD z).2.2.1 + 1, (zD z).2.2.2), zL z), z.2.2)
theorem iz_PL {x : Int32} (iz : IZ z) (hx : svA z.1.1 x) (h : zL z < 12) : IZ (zPL z x) := by
  refine ⟨iz.1, iz.2.1, ⟨show zL z + 1 ≤ 12 by omega, ⟨fun i hi => ?_, iz.2.2.1.2.1.2⟩, fun i h1 h2 => ?_, iz.2.2.1.2.2.2⟩, iz.2.2.2⟩
  · show svA z.1.1 (up1 (zD z).1 (zL z) x i)
    by_cases e : i = zL z
    · rw [e, up1_s]; exact hx
    · rw [up1_n _ _ e]; exact iz.2.2.1.2.1.1 i hi
  · have h1 : zL z + 1 ≤ i := h1
    show up1 (zD z).1 (zL z) x i = -2
    rw [up1_n _ _ (by omega)]; exact iz.2.2.1.2.2.1 i (by omega) h2
theorem iz_PS {x : Int32} (iz : IZ z) (hx : svA z.1.1 x) (h : (zD z).2.2.1 < 12) : IZ (zPS z x) := by
  refine ⟨iz.1, iz.2.1, ⟨iz.2.2.1.1, ⟨iz.2.2.1.2.1.1, fun i hi => ?_, show (zD z).2.2.1 + 1 ≤ 12 by omega⟩, iz.2.2.1.2.2.1, iz.2.2.1.2.2.2⟩, iz.2.2.2⟩
  have hi : i < (zD z).2.2.1 + 1 := hi
  show svA z.1.1 (up1 (zD z).2.1 (zD z).2.2.1 x i)
  by_cases e : i = (zD z).2.2.1
  · rw [e, up1_s]; exact hx
  · rw [up1_n _ _ e]; exact iz.2.2.1.2.1.2.1 i (by omega)
/-- a and its draft change -/
theorem vx_D {S' : St} {z' : Zs} (L : LX E a) (v : VX E S a z) (h : Ag (fun q => q = a ∨ PF E (E.2 a 3) q) S S') (e1 : z'.1 = z.1) (e2 : zP z' = zP z) (e3 : zI z' = zI z ∧ zT z' = zT z) (e4 : zE z' = zE z ∧ zV z' = zV z) (vd : VF E S' (E.2 a 3) (zD z')) (h4 : S'.1 a 4 = n32 (zL z')) (h9 : S'.1 a 9 = S.1 a 9) (h10 : S'.1 a 10 = S.1 a 10) : VX E S' a z' := by
  have nop : ∀ {b ci : Nat}, E.1 b = some (0, ci, 0) → ci ≠ 2 → ci ≠ 9 → NoP E (fun q => q = a ∨ PF E (E.2 a 3) q) b ci := fun hb h2 h9 => nop_or (nop_one L.1 L.2.2.1 hb h9) (nop_PF L.1 L.2.1 (lx_D L) hb h2)
  have pt : ∀ {t : Nat}, E.1 t = some (0, 3, 0) → ∀ q, PT E t q → ¬ (q = a ∨ PF E (E.2 a 3) q) := fun ht q hq w => by
    rcases w with w | w
    · rw [w] at hq
      rcases hq with hq | hq | ⟨i, hi, hq⟩
      · exact ne_ty L.2.2.1 ht (by decide) hq
      · exact ne_ty L.2.2.1 (tb_z L.1 ht) (by decide) hq
      · rcases hq with hq | hq | hq
        · exact ne_ty L.2.2.1 (tb_f L.1 ht hi) (by decide) hq
        · exact ne_ty L.2.2.1 (pf_t0 L.1 (tb_f L.1 ht hi)) (by decide) hq
        · exact ne_ty L.2.2.1 (pf_t1 L.1 (tb_f L.1 ht hi)) (by decide) hq
    · exact pf_pt L.1 L.2.1 ht (lx_D L) (lx_Dt L ht) q w hq
  unfold VX
  rw [e1, e2, e3.1, e3.2, e4.1, e4.2, h9, h10]
  exact ⟨venv_ag v.1 h (nop (lx_T L) (by decide) (by decide)) (nop (lx_B L) (by decide) (by decide)) (nop (lx_C L) (by decide) (by decide)), pn_ag L v.2.1 h (nop (lx_B L) (by decide) (by decide)), ⟨vd, h4⟩, vtb_ag v.2.2.2.1 h (pt (lx_I L)), vtb_ag v.2.2.2.2.1 h (pt (lx_R L)), v.2.2.2.2.2.1, v.2.2.2.2.2.2⟩
theorem nrf_D (L : LX E a) (Lm : LR E m) : ∀ q, (q = a ∨ PF E (E.2 a 3) q) → NRf E m q := fun q w => by
  rcases w with rfl | w
  · exact nrf_o Lm L.2.2.1 (by decide)
  · exact nrf_pf Lm (lx_D L) q w
theorem go_PL (L : LX E a) (Lm : LR E m) (h3 : E.1 a3 = some (1, 2, 1)) (iz : IZ z) (vx : VX E S a z) (vy : VY E S m z) (x : Int32) {rc : Int32 → St → Option (Int32 × St)} {x4 : Int32} : ∃ S' z', ((sp_L_pushLocal fu E S a x a3).bind fun u6 => (sp_X12_pushLocal fu E u6.2 m x).bind fun u9 => (sp_X12_thrown fu E u9.2 m).bind fun u10 => if u10.1 = u6.1 then (if u6.1 = 0 then (if (lg_cmp (u10.2.2.2.2 a3 (0 : Int32).toNatClampNeg) u9.1.toInt64) = 0 then rc (x4 + 5) u10.2 else some (0, u10.2)) else rc (x4 + 5) u10.2) else some (0, u10.2)) = rc (x4 + 5) S' ∧ IZ z' ∧ VX E S' a z' ∧ VY E S' m z' := by
  have hl := iz.2.2.1.1
  have t1 := t_sv (fu := fu) iz.1.1 vx.1.1 x
  have r1 : ∀ {S1 : St}, VY E S1 m z → sp_X12_isSlotValue fu E (sF S1 m 0 0) m x = some (b2 (svB z.1.1 x), sF S1 m 0 0) := fun v => r_sv (fu := fu) iz.1.1 (vy_0 Lm v).1.1 x
  unfold sp_L_pushLocal
  by_cases c : svB z.1.1 x = true
  · by_cases c2 : zL z < 12
    · have hin : inb (n32 (zL z)) 12 = true := by rw [z_inb (by omega)]; exact c2
      have cl : CO E S a m (sp_X11_pushLocal fu E S a x) (.inr (n32 (zL z + 1))) (zPL z x) := by
        unfold sp_X11_pushLocal bnd
        rw [t1, Option.bind_some, b2_if, if_pos c]
        dsimp only
        rw [vx.2.2.1.2, show (12 : Int32) = n32 12 from rfl, zi_lt (by omega) (by decide), if_pos c2, if_pos hin, z_nat (show zL z < 2 ^ 31 by omega)]
        have nD : E.2 (E.2 a 3) 0 ≠ a := ne_ty (pf_t0 L.1 (lx_D L)) L.2.2.1 (by decide)
        have e4 : (sG S (E.2 (E.2 a 3) 0) (zL z) x).1 a 4 = n32 (zL z) := vx.2.2.1.2
        rw [e4, show n32 (zL z) + 1 = n32 (zL z + 1) from z_add _ 1]
        have a1 : Ag (fun q => q = a ∨ PF E (E.2 a 3) q) S (sF (sG S (E.2 (E.2 a 3) 0) (zL z) x) a 4 (n32 (zL z + 1))) := Ag_trans (Ag_mono sG_ag (fun q e => Or.inr (Or.inr (Or.inl e)))) (Ag_mono sF_ag (fun q e => Or.inl e))
        have nfa : E.2 a 3 ≠ a := ne_ty (lx_D L) L.2.2.1 (by decide)
        refine ⟨_, congrArg some (Prod.ext (congrArg Sum.inr (up2_s _ _)) rfl), vx_D L vx a1 rfl rfl ⟨rfl, rfl⟩ ⟨rfl, rfl⟩ ⟨fun i hi => ?_, fun i hi => ?_, ?_, ?_⟩ (up2_s _ _) (up2_n _ _ (fun e => by simp at e)) (up2_n _ _ (fun e => by simp at e)), Ag_mono a1 (nrf_D L Lm)⟩
        · show up2 S.2.1 (E.2 (E.2 a 3) 0) (zL z) x (E.2 (E.2 a 3) 0) i = up1 (zD z).1 (zL z) x i
          by_cases e : i = zL z
          · rw [e, up2_s, up1_s]
          · rw [up2_n _ _ (fun w => e w.2), up1_n _ _ e]; exact vx.2.2.1.1.1 i hi
        · have n01 : E.2 (E.2 a 3) 1 ≠ E.2 (E.2 a 3) 0 := pf_ar L.1 L.2.1 (lx_D L) (lx_D L) (by decide) (by decide) (fun e => by simp at e)
          exact (up2_n _ _ (fun w => n01 w.1)).trans (vx.2.2.1.1.2.1 i hi)
        · exact (up2_n _ _ (fun w => nfa w.1)).trans vx.2.2.1.1.2.2.1
        · exact (up2_n _ _ (fun w => nfa w.1)).trans vx.2.2.1.1.2.2.2
      obtain ⟨S', e, k1, k2⟩ := law_go (rc := rc) (x4 := x4) (g := fun S => sp_X12_pushLocal fu E S m x) (w := n32 (zL z + 1)) (l := [("java/lang/IllegalArgumentException", 1), ("java/lang/IllegalStateException", 2)]) L Lm h3 vy cl rfl (fun r e => by cases e; rfl) (fun e w => by cases w) (fun S1 _ vy1 => by
        show RO E S1 m (sp_X12_pushLocal fu E S1 m x) 0 (n32 (zL z + 1)) (zPL z x)
        unfold sp_X12_pushLocal bnd
        dsimp only
        rw [r1 vy1, Option.bind_some, b2_if, if_pos c]
        dsimp only
        have v0 := vy_0 Lm (x := 0) vy1
        have e0 : (sF S1 m 0 0).1 m 0 = 0 := up2_s _ _
        have ag0 : Ag (RFc E m) S1 (sF S1 m 0 0) := rfc_F Lm
        generalize sF S1 m 0 0 = S0 at v0 e0 ag0 ⊢
        have h32 := v0.2.2.1.1
        rw [h32, show (12 : Int32) = n32 12 from rfl, zi_eq (by omega) (by decide), if_neg (by omega), if_pos (by rw [z_inb (by omega)]; omega), z_nat (show zL z < 2 ^ 31 by omega)]
        have e4 : (sG S0 (E.2 m 34) (zL z) x).1 m 32 = n32 (zL z) := h32
        rw [e4, show n32 (zL z) + 1 = n32 (zL z + 1) from z_add _ 1]
        have al : AgL E m [32] [34] S0 (sF (sG S0 (E.2 m 34) (zL z) x) m 32 (n32 (zL z + 1))) := agl_trans (agl_sG (by decide)) (agl_sF (by decide))
        refine ⟨_, congrArg some (Prod.ext (up2_s _ _) rfl), (agl_f al rfl).trans e0, ?_, Ag_trans ag0 (agl_rf al rfl)⟩
        refine vy_mk (vrt_agl Lm v0.1.1 al rfl rfl rfl) (vrb_agl Lm v0.1.2.1 al rfl rfl rfl) (vrc_agl Lm v0.1.2.2 al rfl rfl rfl) (vyp_agl Lm v0.2.1 al rfl rfl rfl) ⟨up2_s _ _, (agl_f al rfl).trans v0.2.2.1.2.1, fun i hi => ?_, fun i hi => ?_⟩ (vri_ag Lm v0.2.2.2.1 al rfl rfl rfl) (vrd_ag Lm v0.2.2.2.2.1 al rfl rfl rfl) ((agl_f al rfl).trans v0.2.2.2.2.2.1) ((agl_f al rfl).trans v0.2.2.2.2.2.2.1) ((agl_f al rfl).trans v0.2.2.2.2.2.2.2)
        · show up2 S0.2.1 (E.2 m 34) (zL z) x (E.2 m 34) i = up1 (zD z).1 (zL z) x i
          have hi : i < zL z + 1 := hi
          by_cases e : i = zL z
          · rw [e, up2_s, up1_s]
          · rw [up2_n _ _ (fun w => e w.2), up1_n _ _ e]; exact v0.2.2.1.2.2.1 i (by omega)
        · exact (up2_n _ _ (fun w => by have := w.2; omega)).trans (v0.2.2.1.2.2.2 i hi))
      exact ⟨S', _, e, iz_PL iz (svB_iff c) c2, k1, k2⟩
    · have cl : CO E S a m (sp_X11_pushLocal fu E S a x) (.inl "java/lang/IllegalStateException") z := by
        unfold sp_X11_pushLocal
        rw [t1, Option.bind_some, b2_if, if_pos c]
        dsimp only
        rw [vx.2.2.1.2, show (12 : Int32) = n32 12 from rfl, zi_lt (by omega) (by decide), if_neg c2]
        exact co_same vx
      obtain ⟨S', e, k1, k2⟩ := law_go (rc := rc) (x4 := x4) (g := fun S => sp_X12_pushLocal fu E S m x) (w := 0) (n := 2) (l := [("java/lang/IllegalArgumentException", 1), ("java/lang/IllegalStateException", 2)]) L Lm h3 vy cl (by decide) (fun r e => by cases e) (fun e _ => by decide) (fun S1 _ vy1 => by
        show RO E S1 m (sp_X12_pushLocal fu E S1 m x) 2 0 z
        unfold sp_X12_pushLocal bnd
        dsimp only
        rw [r1 vy1, Option.bind_some, b2_if, if_pos c]
        dsimp only
        have h32 := (vy_0 Lm (x := 0) vy1).2.2.1.1
        rw [h32, show (12 : Int32) = n32 12 from rfl, zi_eq (by omega) (by decide), if_pos (by omega)]
        exact ro_no Lm vy1)
      exact ⟨S', _, e, iz, k1, k2⟩
  · have cl : CO E S a m (sp_X11_pushLocal fu E S a x) (.inl "java/lang/IllegalArgumentException") z := by
      unfold sp_X11_pushLocal
      rw [t1, Option.bind_some, b2_if, if_neg c]
      exact co_same vx
    obtain ⟨S', e, k1, k2⟩ := law_go (rc := rc) (x4 := x4) (g := fun S => sp_X12_pushLocal fu E S m x) (w := 0) (n := 1) (l := [("java/lang/IllegalArgumentException", 1), ("java/lang/IllegalStateException", 2)]) L Lm h3 vy cl (by decide) (fun r e => by cases e) (fun e _ => by decide) (fun S1 _ vy1 => by
      show RO E S1 m (sp_X12_pushLocal fu E S1 m x) 1 0 z
      unfold sp_X12_pushLocal bnd
      dsimp only
      rw [r1 vy1, Option.bind_some, b2_if, if_neg c]
      exact ro_no Lm vy1)
    exact ⟨S', _, e, iz, k1, k2⟩
end PSH
