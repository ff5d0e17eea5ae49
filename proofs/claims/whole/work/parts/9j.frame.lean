/-! declareFrame: the class's side -/
section DFR
variable {E : Ev} {S : St} {a m a3 fu : Nat} {z : Zs}
def zDd (z : Zs) : Zs := (z.1, (zP z, ((fun _ => -2), (zD z).2.1, 0, false), 0), z.2.2)
def fDf (z : Zs) (f : Bool) : Fr := ((zD z).1, (zD z).2.1, (zD z).2.2.1, f)
def zDf (z : Zs) (q : Nat) (f : Bool) : Zs := (z.1, (zP z, ((fun _ => -2), (zD z).2.1, 0, false), 0), (zI z, upT (zT z) q (fDf z f)), zE z, zV z)
theorem iz_Dd (iz : IZ z) : IZ (zDd z) := ⟨iz.1, iz.2.1, ⟨Nat.zero_le _, ⟨fun _ _ => (Or.inr (Or.inl ⟨by decide, by decide⟩) : svA z.1.1 (-2)), fun i hi => absurd hi (Nat.not_lt_zero i), Nat.zero_le _⟩, fun _ _ _ => rfl, rfl⟩, iz.2.2.2⟩
theorem iz_Df {q : Nat} {f : Bool} (iz : IZ z) (hq : q < cn z.1.2.2) (hl : zL z ≤ cloc z.1.2.2) (hs : (zD z).2.2.1 ≤ cmost z.1.2.2) (hp : PrB (zD z).1 12 = true) (hp2 : PrB (zD z).2.1 (zD z).2.2.1 = true) : IZ (zDf z q f) := by
  refine ⟨iz.1, iz.2.1, (iz_Dd iz).2.2.1, iz.2.2.2.1, fun i x hi e => ?_, iz.2.2.2.2.2.1, fun i hi => ?_⟩
  · show WX z.1 x
    have e : upT (zT z) q (fDf z f) i = some x := e
    by_cases c : i = q
    · have e1 : upT (zT z) q (fDf z f) i = some (fDf z f) := if_pos c
      rw [e1] at e
      cases e
      refine ⟨iz.2.2.1.2.1, ?_, ?_, hs, fun j h1 h2 => iz.2.2.1.2.2.1 j (Nat.le_trans hl h1) h2⟩
      · exact PrB_iff.mp hp
      · exact PrB_iff.mp hp2
    · have e1 : upT (zT z) q (fDf z f) i = zT z i := if_neg c
      rw [e1] at e
      exact iz.2.2.2.2.1 i x hi e
  · have hi : cn z.1.2.2 ≤ i := hi
    show upT (zT z) q (fDf z f) i = none
    have e1 : upT (zT z) q (fDf z f) i = zT z i := if_neg (by omega)
    rw [e1]
    exact iz.2.2.2.2.2.2 i hi
theorem a_pfD (L : LX E a) : ¬ PF E (E.2 a 3) a := fun w => pf_ob L.1 (lx_D L) L.2.2.1 (by decide) a w rfl
theorem c_dd (L : LX E a) (hfu : 200 ≤ fu) (vx : VX E S a z) : ∃ S', sp_X11_dropDraft fu E S a = some S' ∧ VX E S' a (zDd z) ∧ Ag (fun q => q = a ∨ PF E (E.2 a 3) q) S S' := by
  obtain ⟨S1, e1, v1, a1⟩ := f_clear (fu := fu) (S := S) hfu L.1 L.2.1 (lx_D L) (zD z).2.1
  have aa := a1 a (a_pfD L)
  unfold sp_X11_dropDraft bnd
  rw [e1, Option.bind_some]
  have ag : Ag (fun q => q = a ∨ PF E (E.2 a 3) q) S (sF S1 a 4 0) := Ag_trans (Ag_mono a1 (fun q w => Or.inr w)) (Ag_mono sF_ag (fun q w => Or.inl w))
  refine ⟨_, rfl, vx_D (z' := zDd z) L vx ag rfl rfl ⟨rfl, rfl⟩ ⟨rfl, rfl⟩ (vf_ag v1 sF_ag (pf_ob L.1 (lx_D L) L.2.2.1 (by decide))) (up2_s _ _) ?_ ?_, ag⟩
  · exact (up2_n _ _ (fun e => by simp at e)).trans (congrFun aa.1 9)
  · exact (up2_n _ _ (fun e => by simp at e)).trans (congrFun aa.1 10)
/-- the declared table changes -/
theorem vx_R {S' : St} {tb : Nat → Option Fr} (L : LX E a) (v : VX E S a z) (a1 : Ag (PT E (E.2 a 6)) S S') (v1 : VTb E S' (E.2 a 6) tb) : VX E S' a (z.1, z.2.1, (zI z, tb), zE z, zV z) := by
  have hP : ∀ q, PT E (E.2 a 6) q → muT (E.1 q) = true := mu_pt L.1 (lx_R L)
  have na : ¬ PT E (E.2 a 6) a := fun w => pt_ob L.1 (lx_R L) L.2.2.1 (by decide) (by decide) a w rfl
  have aa := a1 a na
  exact ⟨venv_mu L.1 v.1 a1 hP (lx_T L) (lx_B L) (lx_C L), pn_ag L (z := z) v.2.1 a1 (nop_mu L.1 (lx_B L) hP rfl rfl), ⟨vf_ag v.2.2.1.1 a1 (pf_pt L.1 L.2.1 (lx_R L) (lx_D L) (lx_Dt L (lx_R L))), by rw [aa.1]; exact v.2.2.1.2⟩, vtb_ag v.2.2.2.1 a1 (pt_dis L.1 L.2.1 (lx_I L) (lx_R L) L.2.2.2.2.2.2.2.2.2.2), v1, by rw [aa.1]; exact v.2.2.2.2.2.1, by rw [aa.1]; exact v.2.2.2.2.2.2⟩
theorem c_Df (L : LX E a) (Lm : LR E m) (hfu : 200 ≤ fu) (iz : IZ z) (vx : VX E S a z) {q : Nat} {f : Bool} (hq : q < cn z.1.2.2) : CO E S a m (bnd (sF S (E.2 a 3) 3 (b2 f)) fun S11 => (sp_X4_put fu E S11 (E.2 a 6) (n32 q) (E.2 a 3)).bind fun u15 => (sp_X11_dropDraft fu E u15 a).bind fun u16 => some ((.inr (u16.1 (E.2 a 6) 2)), u16)) (.inr (n32 (cntT (upT (zT z) q (fDf z f)) 100))) (zDf z q f) := by
  have h100 := iz.1.2.2.2.2.2.1
  unfold bnd
  have ag0 : Ag (fun q => q = a ∨ PF E (E.2 a 3) q) S (sF S (E.2 a 3) 3 (b2 f)) := Ag_mono sF_ag (fun q w => Or.inr (Or.inl w))
  have ne3 : a ≠ E.2 a 3 := fun e => a_pfD L (Or.inl e)
  have v0 : VX E (sF S (E.2 a 3) 3 (b2 f)) a (z.1, (zP z, fDf z f, zL z), z.2.2) := by
    refine vx_D (z' := (z.1, (zP z, fDf z f, zL z), z.2.2)) L vx ag0 rfl rfl ⟨rfl, rfl⟩ ⟨rfl, rfl⟩ ⟨vx.2.2.1.1.1, vx.2.2.1.1.2.1, (up2_n _ _ (fun e => by simp at e)).trans vx.2.2.1.1.2.2.1, up2_s _ _⟩ ((up2_n _ _ (fun e => ne3 e.1)).trans vx.2.2.1.2) (up2_n _ _ (fun e => ne3 e.1)) (up2_n _ _ (fun e => ne3 e.1))
  obtain ⟨S1, e1, v1, a1⟩ := t_put (fu := fu) L.1 L.2.1 (lx_R L) v0.2.2.2.2.1 (show q < 100 by omega) (lx_D L) (lx_Dt L (lx_R L)) v0.2.2.1.1 iz.2.2.1.2.1.2.2
  dsimp only
  rw [e1, Option.bind_some]
  have v1' := vx_R L v0 a1 v1
  obtain ⟨S2, e2, v2, a2⟩ := c_dd (fu := fu) L hfu v1'
  rw [e2, Option.bind_some]
  have kk : S2.1 (E.2 a 6) 2 = n32 (cntT (upT (zT z) q (fDf z f)) 100) := v2.2.2.2.2.1.2.2
  rw [kk]
  exact ⟨S2, rfl, v2, Ag_trans (Ag_mono ag0 (nrf_D L Lm)) (Ag_trans (Ag_mono a1 (nrf_pt Lm (lx_R L))) (Ag_mono a2 (nrf_D L Lm)))⟩
end DFR
