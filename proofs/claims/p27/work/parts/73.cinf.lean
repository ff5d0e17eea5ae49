def PIn (E : Ev) (J : Nat) : Nat → Prop := fun q => PPr E J q ∨ q = E.2 J 6
section CIN
variable {E : Ev} {S : St} {fu J : Nat} {A : Enw}
theorem mu_in (L : LJ E J) : ∀ q, PIn E J q → muT (E.1 q) = true := fun q z => by
  rcases z with z | z
  · exact mu_pr L q z
  · rw [z, lj_X L]; rfl
theorem c_setL (L : LJ E J) (hA : EI A) (hs : cst A.2.2 = true) (hG : Good A) (hfu : 200 ≤ fu) : ∀ (k i F : Nat) (S : St), i + k = 100 → k + 1 ≤ F → VEnv E S (E.2 J 1) (E.2 J 5) (E.2 J 0) A → VTb E S (E.2 J 9) (fun _ => none) → (∀ z, z < i → S.2.1 (E.2 J 10) z = 0) → ∃ S', lp_X5_setFirstFrame_2 fu E J F (n32 i) S = some S' ∧ Ag (fun q => PF E (E.2 J 2) q ∨ PFl E J q) S S' ∧ VTb E S' (E.2 J 9) (ist0 A).1 ∧ VPd E S' J (ist0 A).2 := by
  have hE := L.1
  have hI := L.2.1
  have nt10 : ∀ q, PT E (E.2 J 9) q → ¬ q = E.2 J 10 := fun q h z => pd_pt hE hI L.2.2.1 (lj_t L) (z ▸ h)
  have hP : ∀ q, (PF E (E.2 J 2) q ∨ PFl E J q) → muT (E.1 q) = true := fun q z => z.elim (mu_pf hE (lj_p L) q) (mu_fl hE L.2.2.1 q)
  intro k
  induction k with
  | zero =>
    intro i F S hk hF v vt hz
    obtain ⟨F, rfl⟩ : ∃ z, F = z + 1 := ⟨F - 1, by omega⟩
    have hi : i = 100 := by omega
    subst hi
    show ∃ S', bd_X5_setFirstFrame_2 fu E J _ (n32 100) S = some S' ∧ _
    unfold bd_X5_setFirstFrame_2 bnd
    rw [if_pos (show (100 : Int32) ≤ n32 100 by decide)]
    obtain ⟨S1, e1, v1, a1⟩ := m_first_4 (fu := fu) (J := J) hfu hE hI (lj_p L) (lj_B L) (lj_C L) hA hs (good_all hG).2.2 v.2.1 v.2.2
    rw [e1, Option.bind_some]
    have vt1 := vtb_ag vt a1 (fun q h z => pf_pt hE hI (lj_t L) (lj_p L) (lj_pt L) q z h)
    have wx := wx_fst hA hs (good_all hG).2.2
    obtain ⟨S2, e2, v2, a2⟩ := t_put (fu := fu) hE hI (lj_t L) vt1 (show 0 < 100 by decide) (lj_p L) (lj_pt L) v1 wx.1.2.2
    have e2 : sp_X4_put fu E S1 (E.2 J 9) 0 (E.2 J 2) = some S2 := e2
    rw [e2, Option.bind_some]
    have a3 : Ag (fun q => q = E.2 J 10) S2 (sG S2 (E.2 J 10) 0 1) := sG_ag
    refine ⟨sG S2 (E.2 J 10) 0 1, rfl, Ag_trans (Ag_mono a1 (fun q z => Or.inl z)) (Ag_trans (Ag_mono a2 (fun q z => Or.inr (Or.inl z))) (Ag_mono a3 (fun q z => Or.inr (Or.inr z)))), vtb_ag v2 a3 nt10, fun i hi => ?_⟩
    show up2 S2.2.1 (E.2 J 10) 0 1 (E.2 J 10) i = b2 (if i = 0 then true else false)
    by_cases e : i = 0
    · rw [e, up2_s]; rfl
    · rw [up2_n _ _ (fun z => e z.2), if_neg e, (a2 _ (pd_pt hE hI L.2.2.1 (lj_t L))).2.1, (a1 _ (pd_pf hE L.2.2.1 (lj_p L))).2.1]
      exact hz i hi
  | succ k ih =>
    intro i F S hk hF v vt hz
    obtain ⟨F, rfl⟩ : ∃ z, F = z + 1 := ⟨F - 1, by omega⟩
    have hin : inb (n32 i) 100 = true := by rw [z_inb (by omega)]; omega
    show ∃ S', bd_X5_setFirstFrame_2 fu E J (lp_X5_setFirstFrame_2 fu E J F) (n32 i) S = some S' ∧ _
    unfold bd_X5_setFirstFrame_2 bnd
    rw [show (100 : Int32) = n32 100 from rfl, zi_le (by decide) (by omega), if_neg (by omega), if_pos hin, z_nat (show i < 2 ^ 31 by omega), show n32 i + 1 = n32 (i + 1) from z_add i 1]
    dsimp only
    have a1 : Ag (fun q => q = E.2 J 10) S (sG S (E.2 J 10) i 0) := sG_ag
    have a1' : Ag (fun q => PF E (E.2 J 2) q ∨ PFl E J q) S (sG S (E.2 J 10) i 0) := Ag_mono a1 (fun q z => Or.inr (Or.inr z))
    obtain ⟨S', e, a, r⟩ := ih (i + 1) F (sG S (E.2 J 10) i 0) (by omega) (by omega) (venv_mu hE v a1' hP (lj_T L) (lj_B L) (lj_C L)) (vtb_ag vt a1 nt10) (fun z hz2 => by
      show up2 S.2.1 (E.2 J 10) i 0 (E.2 J 10) z = 0
      by_cases e : z = i
      · rw [e, up2_s]
      · rw [up2_n _ _ (fun w => e w.2)]; exact hz z (by omega))
    exact ⟨S', e, Ag_trans a1' a, r⟩
theorem c_inf (L : LJ E J) (hA : EI A) (hs : cst A.2.2 = true) (hfu : 1000000 ≤ fu) (v : VEnv E S (E.2 J 1) (E.2 J 5) (E.2 J 0) A) : ∃ S', sp_X5_run fu E S J = some ((aInf A).1.1, S') ∧ Ag (PIn E J) S S' ∧ VTb E S' (E.2 J 9) (lft (aInf A)) ∧ TWX A (lft (aInf A)) ∧ S'.1 J 4 = n32 (aInf A).2.1 ∧ S'.1 J 3 = (aInf A).2.2 := by
  have hE := L.1
  have hI := L.2.1
  have hP := mu_in L
  have nXJ : ¬ J = E.2 J 6 := fun z => ne_ty L.2.2.1 (lj_X L) (by decide) z
  have ptX : ∀ q, PT E (E.2 J 9) q → ¬ q = E.2 J 6 := fun q h z => by
    rw [z] at h
    rcases h with h | h | ⟨i, hi, h⟩
    · exact ne_ty (lj_X L) (lj_t L) (by decide) h
    · exact ne_ty (lj_X L) (tb_z hE (lj_t L)) (by decide) h
    · rcases h with h | h | h
      · exact ne_ty (lj_X L) (tb_f hE (lj_t L) hi) (by decide) h
      · exact ne_ty (lj_X L) (pf_t0 hE (tb_f hE (lj_t L) hi)) (by decide) h
      · exact ne_ty (lj_X L) (pf_t1 hE (tb_f hE (lj_t L) hi)) (by decide) h
  unfold sp_X5_run sp_X0_examine_4 bnd
  obtain ⟨S1, e1, v1, a1⟩ := t_clear (fu := fu) (S := S) (by omega) (lj_t L)
  have a1' : Ag (PIn E J) S S1 := Ag_mono a1 (fun q z => Or.inl (pr_pt L q z))
  rw [e1, Option.bind_some]
  have ve1 := venv_mu hE v a1' hP (lj_T L) (lj_B L) (lj_C L)
  obtain ⟨S2, e2, x3, a2⟩ := t_exam (fu := fu) (S := S1) hA hs (by omega) hE (lj_X L) (by rw [L.2.2.2.2.1, L.2.2.2.2.2.1, L.2.2.2.2.2.2]; exact ve1)
  have a2' : Ag (PIn E J) S1 S2 := Ag_mono a2 (fun q z => Or.inr z)
  rw [e2, Option.bind_some, Option.bind_some]
  dsimp only
  rw [x3]
  have a3 : Ag (fun q => q = J) S2 (sF (sF S2 J 3 (exam A).2) J 4 0) := Ag_trans sF_ag sF_ag
  have a3' : Ag (PIn E J) S2 (sF (sF S2 J 3 (exam A).2) J 4 0) := Ag_mono a3 (fun q z => Or.inl (Or.inl z))
  have j4 : (sF (sF S2 J 3 (exam A).2) J 4 0).1 J 4 = 0 := up2_s _ _
  have j3 : (sF (sF S2 J 3 (exam A).2) J 4 0).1 J 3 = (exam A).2 := (up2_n _ _ (fun e => by simp at e)).trans (up2_s _ _)
  generalize sF (sF S2 J 3 (exam A).2) J 4 0 = S3 at a3 a3' j4 j3 ⊢
  have ag3 := Ag_trans a1' (Ag_trans a2' a3')
  have ve3 := venv_mu hE v ag3 hP (lj_T L) (lj_B L) (lj_C L)
  have vt3 : VTb E S3 (E.2 J 9) (fun _ => none) := vtb_ag (vtb_ag v1 a2 ptX) a3 (pt_J L)
  unfold aInf
  by_cases c : (exam A).1 = 0
  · rw [if_pos c, if_pos c]
    have hG := exam_good c
    have hp : (exam A).2 = -1 := by rw [show exam A = (0, -1) from hG]
    unfold sp_X5_setFirstFrame
    obtain ⟨S4, e4, a4, vt4, vp4⟩ := c_setL (fu := fu) L hA hs hG (by omega) 100 0 fu S3 rfl (by omega) ve3 vt3 (fun z hz => absurd hz (Nat.not_lt_zero z))
    have e4 : lp_X5_setFirstFrame_2 fu E J fu 0 S3 = some S4 := e4
    rw [e4, Option.bind_some]
    have nj4 : ¬ (PF E (E.2 J 2) J ∨ PFl E J J) := fun z => z.elim (nJ_pf L (lj_p L)) (nJ_fl L)
    have a4' : Ag (PIn E J) S3 S4 := Ag_mono a4 (fun q z => Or.inl (z.elim (fun w => Or.inr (Or.inr (Or.inl (Or.inr w)))) (fun w => Or.inr (Or.inr (Or.inr w)))))
    have ag4 := Ag_trans ag3 a4'
    obtain ⟨S5, e5, a5, r5⟩ := c_run (fu := fu) L hA hs hG (by omega) 600000 fu 0 S4 ((0, ist0 A), 0, -1) (by omega) (by omega) (venv_mu hE v ag4 hP (lj_T L) (lj_B L) (lj_C L)) (fun _ => ⟨vt4, vp4⟩) (inv_ist0 hA hs hG) (by rw [(a4 J nj4).1]; exact j4) (by rw [(a4 J nj4).1, j3, hp])
    have e5 : lp_X5_run_22 fu E J fu 0 0 S4 = _ := e5
    rw [c]
    exact ⟨S5, e5, Ag_trans ag4 (Ag_mono a5 (fun q z => Or.inl z)), r5⟩
  · rw [if_neg c, if_neg c]
    obtain ⟨F, hF⟩ : ∃ z, fu = z + 1 := ⟨fu - 1, by omega⟩
    have e0 : lp_X5_run_22 fu E J fu (exam A).1 0 S3 = bd_X5_run_22 fu E J (lp_X5_run_22 fu E J F) (exam A).1 0 S3 := by
      conv => lhs; arg 4; rw [hF]
      rfl
    rw [e0]
    unfold bd_X5_run_22
    rw [if_neg (show ¬ (1000000 : Int32) ≤ 0 by decide), if_neg c]
    obtain ⟨S4, e4, v4, a4⟩ := t_clear (fu := fu) (S := S3) (by omega) (lj_t L)
    rw [e4, Option.bind_some]
    have nj := nJ_pt L
    unfold lft
    dsimp only
    rw [if_neg c]
    exact ⟨S4, rfl, Ag_trans ag3 (Ag_mono a4 (fun q z => Or.inl (pr_pt L q z))), v4, fun _ _ _ h => (by cases h), by rw [(a4 J nj).1]; exact j4, by rw [(a4 J nj).1]; exact j3⟩
end CIN
