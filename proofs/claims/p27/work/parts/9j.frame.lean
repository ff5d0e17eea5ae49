section DFR
variable {E : Ev} {S : St} {a m a3 fu : Nat} {z : Zs}
theorem vx_R {S' : St} {tb : Nat → Option Fr} (L : LX E a) (v : VX E S a z) (a1 : Ag (PT E (E.2 a 6)) S S') (v1 : VTb E S' (E.2 a 6) tb) : VX E S' a (z.1, z.2.1, (zI z, tb), zE z, zV z) := by
  have hP : ∀ q, PT E (E.2 a 6) q → muT (E.1 q) = true := mu_pt L.1 (lx_R L)
  have na : ¬ PT E (E.2 a 6) a := fun w => pt_ob L.1 (lx_R L) L.2.2.1 (by decide) (by decide) a w rfl
  have aa := a1 a na
  exact ⟨venv_mu L.1 v.1 a1 hP (lx_T L) (lx_B L) (lx_C L), pn_ag L (z := z) v.2.1 a1 (nop_mu L.1 (lx_B L) hP rfl rfl), ⟨vf_ag v.2.2.1.1 a1 (pf_pt L.1 L.2.1 (lx_R L) (lx_D L) (lx_Dt L (lx_R L))), by rw [aa.1]; exact v.2.2.1.2⟩, vtb_ag v.2.2.2.1 a1 (pt_dis L.1 L.2.1 (lx_I L) (lx_R L) L.2.2.2.2.2.2.2.2.2.2), v1, by rw [aa.1]; exact v.2.2.2.2.2.1, by rw [aa.1]; exact v.2.2.2.2.2.2⟩
end DFR
