section MIF
variable {E : Ev} {S : St} {a m a3 fu : Nat} {z : Zs}
theorem pt_ob (hE : WE E) {t b ci : Nat} (ht : E.1 t = some (0, 3, 0)) (hb : E.1 b = some (0, ci, 0)) (h3 : ci ≠ 3) (h2 : ci ≠ 2) : ∀ q, PT E t q → ¬ q = b := fun q h w => by
  rw [w] at h
  rcases h with h | h | ⟨i, hi, h⟩
  · exact ne_ty hb ht (fun e => h3 (by cases e; rfl)) h
  · exact ne_ty hb (tb_z hE ht) (fun e => by cases e) h
  · rcases h with h | h | h
    · exact ne_ty hb (tb_f hE ht hi) (fun e => h2 (by cases e; rfl)) h
    · exact ne_ty hb (pf_t0 hE (tb_f hE ht hi)) (fun e => by cases e) h
    · exact ne_ty hb (pf_t1 hE (tb_f hE ht hi)) (fun e => by cases e) h
theorem pf_ob (hE : WE E) {f b ci : Nat} (hf : E.1 f = some (0, 2, 0)) (hb : E.1 b = some (0, ci, 0)) (h2 : ci ≠ 2) : ∀ q, PF E f q → ¬ q = b := fun q h w => by
  rw [w] at h
  rcases h with h | h | h
  · exact ne_ty hb hf (fun e => h2 (by cases e; rfl)) h
  · exact ne_ty hb (pf_t0 hE hf) (fun e => by cases e) h
  · exact ne_ty hb (pf_t1 hE hf) (fun e => by cases e) h
theorem pf_in {J f : Nat} (L : LJ E J) (hf : E.1 f = some (0, 2, 0)) (h2 : f ≠ E.2 J 2) (h8 : f ≠ E.2 J 8) (ht : ∀ i, i < 100 → f ≠ frA E (E.2 J 9) i) : ∀ q, PF E f q → ¬ PIn E J q := fun q h w => by
  rcases w with (w | w | (w | w) | w) | w
  · exact pf_ob L.1 hf L.2.2.1 (by decide) q h w
  · exact pf_dis L.1 L.2.1 hf (lj_c L) h8 q h w
  · exact pf_ob L.1 hf (lj_M L) (by decide) q h w
  · exact pf_dis L.1 L.2.1 hf (lj_p L) h2 q h w
  · rcases w with w | w
    · exact pf_pt L.1 L.2.1 (lj_t L) hf ht q h w
    · exact pd_pf L.1 L.2.2.1 hf (w ▸ h)
  · exact pf_ob L.1 hf (lj_X L) (by decide) q h w
theorem pt_in {J t : Nat} (L : LJ E J) (ht : E.1 t = some (0, 3, 0)) (hn : t ≠ E.2 J 9) : ∀ q, PT E t q → ¬ PIn E J q := fun q h w => by
  rcases w with (w | w | (w | w) | w) | w
  · exact pt_ob L.1 ht L.2.2.1 (by decide) (by decide) q h w
  · exact pf_pt L.1 L.2.1 ht (lj_c L) (fun i hi => fr_ne L.1 L.2.1 ht L.2.2.1 (show (ftab 4)[8]? = some (some (0, 2, 0)) from rfl) hi) q w h
  · exact pt_ob L.1 ht (lj_M L) (by decide) (by decide) q h w
  · exact pf_pt L.1 L.2.1 ht (lj_p L) (fun i hi => fr_ne L.1 L.2.1 ht L.2.2.1 (show (ftab 4)[2]? = some (some (0, 2, 0)) from rfl) hi) q w h
  · rcases w with w | w
    · exact pt_dis L.1 L.2.1 ht (lj_t L) hn q h w
    · exact pd_pt L.1 L.2.1 L.2.2.1 ht (w ▸ h)
  · exact pt_ob L.1 ht (lj_X L) (by decide) (by decide) q h w
theorem pf_ck {K f : Nat} (L : LK E K) (hf : E.1 f = some (0, 2, 0)) (h2 : f ≠ E.2 K 2) (h8 : f ≠ E.2 K 8) : ∀ q, PF E f q → ¬ PCk E K q := fun q h w => by
  rcases w with (w | w | w | w) | w
  · exact pf_ob L.1 hf L.2.2.1 (by decide) q h w
  · exact pf_dis L.1 L.2.1 hf (lk_c L) h8 q h w
  · exact pf_ob L.1 hf (lk_M L) (by decide) q h w
  · exact pf_dis L.1 L.2.1 hf (lk_p L) h2 q h w
  · exact pf_ob L.1 hf (lk_X L) (by decide) q h w
theorem pt_ck {K t : Nat} (L : LK E K) (ht : E.1 t = some (0, 3, 0)) : ∀ q, PT E t q → ¬ PCk E K q := fun q h w => by
  rcases w with (w | w | w | w) | w
  · exact pt_ob L.1 ht L.2.2.1 (by decide) (by decide) q h w
  · exact pf_pt L.1 L.2.1 ht (lk_c L) (fun i hi => fr_ne L.1 L.2.1 ht L.2.2.1 (show (ftab 5)[8]? = some (some (0, 2, 0)) from rfl) hi) q w h
  · exact pt_ob L.1 ht (lk_M L) (by decide) (by decide) q h w
  · exact pf_pt L.1 L.2.1 ht (lk_p L) (fun i hi => fr_ne L.1 L.2.1 ht L.2.2.1 (show (ftab 5)[2]? = some (some (0, 2, 0)) from rfl) hi) q w h
  · exact pt_ob L.1 ht (lk_X L) (by decide) (by decide) q h w
theorem ob_in {J b : Nat} (L : LJ E J) (hb : E.1 b = some (0, 9, 0)) : ¬ PIn E J b := fun w => by
  rcases w with (w | w | (w | w) | w) | w
  · exact ne_ty hb L.2.2.1 (by decide) w
  · exact pf_ob L.1 (lj_c L) hb (by decide) b w rfl
  · exact ne_ty hb (lj_M L) (by decide) w
  · exact pf_ob L.1 (lj_p L) hb (by decide) b w rfl
  · rcases w with w | w
    · exact pt_ob L.1 (lj_t L) hb (by decide) (by decide) b w rfl
    · exact ne_ty hb (pd_z L.1 L.2.2.1) (by decide) w
  · exact ne_ty hb (lj_X L) (by decide) w
theorem ob_ck {K b : Nat} (L : LK E K) (hb : E.1 b = some (0, 9, 0)) : ¬ PCk E K b := fun w => by
  rcases w with (w | w | w | w) | w
  · exact ne_ty hb L.2.2.1 (by decide) w
  · exact pf_ob L.1 (lk_c L) hb (by decide) b w rfl
  · exact ne_ty hb (lk_M L) (by decide) w
  · exact pf_ob L.1 (lk_p L) hb (by decide) b w rfl
  · exact ne_ty hb (lk_X L) (by decide) w
theorem vx_9 {x y : Int32} {n : Nat} {ti td : Nat → Option Fr} (L : LX E a) (v : VX E S a (z.1, z.2.1, (ti, td), x, n)) {x' : Int32} {n' : Nat} : VX E (sF (sF S a 9 x') a 10 (n32 n')) a (z.1, z.2.1, (ti, td), x', n') := by
  have ag : Ag (fun q => q = a) S (sF (sF S a 9 x') a 10 (n32 n')) := Ag_trans sF_ag sF_ag
  have nop : ∀ {b ci : Nat}, E.1 b = some (0, ci, 0) → ci ≠ 9 → NoP E (fun q => q = a) b ci := fun hb h9 => nop_one L.1 L.2.2.1 hb h9
  exact ⟨venv_ag v.1 ag (nop (lx_T L) (by decide)) (nop (lx_B L) (by decide)) (nop (lx_C L) (by decide)), pn_ag L (z := (z.1, z.2.1, (ti, td), x, n)) v.2.1 ag (nop (lx_B L) (by decide)), ⟨vf_ag v.2.2.1.1 ag (pf_ob L.1 (lx_D L) L.2.2.1 (by decide)), ((up2_n _ _ (fun e => by simp at e)).trans (up2_n _ _ (fun e => by simp at e))).trans v.2.2.1.2⟩, vtb_ag v.2.2.2.1 ag (pt_ob L.1 (lx_I L) L.2.2.1 (by decide) (by decide)), vtb_ag v.2.2.2.2.1 ag (pt_ob L.1 (lx_R L) L.2.2.1 (by decide) (by decide)), (up2_n _ _ (fun e => by simp at e)).trans (up2_s _ _), up2_s _ _⟩
def zIn (z : Zs) : Zs := (z.1, z.2.1, (lft (aInf z.1), zT z), (aInf z.1).2.2, (aInf z.1).2.1)
def zCk (z : Zs) : Zs := (z.1, z.2.1, (zI z, zT z), (aChk z.1 (zT z)).2.2.2, (aChk z.1 (zT z)).2.2.1)
theorem c_mIn (L : LX E a) (Lm : LR E m) (hfu : 1000000 ≤ fu) (iz : IZ z) (vx : VX E S a z) (hs : cst z.1.2.2 = true) : CO E S a m (sp_X11_infer fu E S a) (.inr (aInf z.1).1.1) (zIn z) ∧ TWX z.1 (lft (aInf z.1)) := by
  have LJ' := L.2.2.2.1
  have eq := L.2.2.2.2.2.1
  have h0 : S.1 (E.2 a 2) 0 = b2 (cst z.1.2.2) := vx.1.2.2.1
  obtain ⟨S1, e1, a1, t1, w1, j4, j3⟩ := c_inf (fu := fu) (S := S) LJ' iz.1 hs hfu (by rw [eq.1, eq.2.1, eq.2.2.1]; exact vx.1)
  rw [eq.2.2.2] at t1
  refine ⟨?_, w1⟩
  unfold sp_X11_infer sp_X11_requireCode bnd
  rw [h0, hs, if_neg (show ¬ b2 true = 0 by decide), Option.bind_some]
  show CO E S a m ((sp_X5_run fu E S (E.2 a 7)).bind fun u5 => _) _ _
  rw [e1, Option.bind_some]
  dsimp only
  have hP := mu_in LJ'
  have naJ : E.2 a 7 ≠ a := ne_ty (lx_J L) L.2.2.1 (by decide)
  have nap : ¬ PIn E (E.2 a 7) a := ob_in LJ' L.2.2.1
  have nopm : ∀ {b ci : Nat}, E.1 b = some (0, ci, 0) → muT (some (0, ci, 0)) = false → fOK ci = true → NoP E (PIn E (E.2 a 7)) b ci := fun hb h1 h2 => nop_mu L.1 hb hP h1 h2
  have aa := a1 a nap
  have v1 : VX E S1 a (z.1, z.2.1, (lft (aInf z.1), zT z), zE z, zV z) := by
    refine ⟨venv_mu L.1 vx.1 a1 hP (lx_T L) (lx_B L) (lx_C L), pn_ag L (z := z) vx.2.1 a1 (nopm (lx_B L) rfl rfl), ⟨vf_ag vx.2.2.1.1 a1 (pf_in LJ' (lx_D L) ?_ ?_ ?_), by rw [aa.1]; exact vx.2.2.1.2⟩, t1, vtb_ag vx.2.2.2.2.1 a1 (pt_in LJ' (lx_R L) ?_), by rw [aa.1]; exact vx.2.2.2.2.2.1, by rw [aa.1]; exact vx.2.2.2.2.2.2⟩
    · exact fr_ne2 L.1 L.2.1 L.2.2.1 (show (ftab 9)[3]? = some (some (0, 2, 0)) from rfl) (lx_J L) (show (ftab 4)[2]? = some (some (0, 2, 0)) from rfl) (fun e => naJ e.1.symm)
    · exact fr_ne2 L.1 L.2.1 L.2.2.1 (show (ftab 9)[3]? = some (some (0, 2, 0)) from rfl) (lx_J L) (show (ftab 4)[8]? = some (some (0, 2, 0)) from rfl) (fun e => naJ e.1.symm)
    · exact lx_Dt L (lj_t LJ')
    · rw [eq.2.2.2]; exact (Ne.symm L.2.2.2.2.2.2.2.2.2.2)
  have e4 : (sF S1 a 9 (S1.1 (E.2 a 7) 3)).1 (E.2 a 7) 4 = n32 (aInf z.1).2.1 := (up2_n _ _ (fun e => naJ e.1)).trans j4
  rw [e4, j3]
  refine ⟨_, rfl, vx_9 (y := 0) L v1, Ag_trans (Ag_mono a1 (nrf_in LJ' Lm)) (Ag_mono (Ag_trans sF_ag sF_ag) (fun q e => by rw [e]; exact nrf_o Lm L.2.2.1 (by decide)))⟩
theorem c_mCk (L : LX E a) (Lm : LR E m) (hfu : 200 ≤ fu) (iz : IZ z) (vx : VX E S a z) (hs : cst z.1.2.2 = true) : CO E S a m (sp_X11_check fu E S a) (.inr (aChk z.1 (zT z)).1) (zCk z) := by
  have LK' := L.2.2.2.2.1
  have eq := L.2.2.2.2.2.2
  have h0 : S.1 (E.2 a 2) 0 = b2 (cst z.1.2.2) := vx.1.2.2.1
  obtain ⟨S1, e1, a1, j4, j3⟩ := c_chk (fu := fu) (S := S) (tb := zT z) LK' iz.1 hs hfu iz.2.2.2.2.1 (by rw [eq.1, eq.2.1, eq.2.2.1]; exact vx.1) (by rw [eq.2.2.2.1]; exact vx.2.2.2.2.1)
  unfold sp_X11_check sp_X11_requireCode bnd
  rw [h0, hs, if_neg (show ¬ b2 true = 0 by decide), Option.bind_some]
  show CO E S a m ((sp_X6_run fu E S (E.2 a 8)).bind fun u5 => _) _ _
  rw [e1, Option.bind_some]
  dsimp only
  have hP := mu_ck LK'
  have naK : E.2 a 8 ≠ a := ne_ty (lx_K L) L.2.2.1 (by decide)
  have nap : ¬ PCk E (E.2 a 8) a := ob_ck LK' L.2.2.1
  have nopm : ∀ {b ci : Nat}, E.1 b = some (0, ci, 0) → muT (some (0, ci, 0)) = false → fOK ci = true → NoP E (PCk E (E.2 a 8)) b ci := fun hb h1 h2 => nop_mu L.1 hb hP h1 h2
  have v1 : VX E S1 a z := by
    refine vx_ag L vx a1 (nopm (lx_T L) rfl rfl) (nopm (lx_B L) rfl rfl) (nopm (lx_C L) rfl rfl) nap (pf_ck LK' (lx_D L) ?_ ?_) (pt_ck LK' (lx_I L)) (pt_ck LK' (lx_R L))
    · exact fr_ne2 L.1 L.2.1 L.2.2.1 (show (ftab 9)[3]? = some (some (0, 2, 0)) from rfl) (lx_K L) (show (ftab 5)[2]? = some (some (0, 2, 0)) from rfl) (fun e => naK e.1.symm)
    · exact fr_ne2 L.1 L.2.1 L.2.2.1 (show (ftab 9)[3]? = some (some (0, 2, 0)) from rfl) (lx_K L) (show (ftab 5)[8]? = some (some (0, 2, 0)) from rfl) (fun e => naK e.1.symm)
  have e4 : (sF S1 a 9 (S1.1 (E.2 a 8) 3)).1 (E.2 a 8) 4 = n32 (aChk z.1 (zT z)).2.2.1 := (up2_n _ _ (fun e => naK e.1)).trans j4
  rw [e4, j3]
  refine ⟨_, rfl, vx_9 (z := z) (x := zE z) (y := 0) (n := zV z) (ti := zI z) (td := zT z) L v1, Ag_trans (Ag_mono a1 (nrf_ck LK' Lm)) (Ag_mono (Ag_trans sF_ag sF_ag) (fun q e => by rw [e]; exact nrf_o Lm L.2.2.1 (by decide)))⟩
end MIF
