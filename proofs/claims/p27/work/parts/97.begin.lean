section BGN
variable {E : Ev} {S : St} {a m a3 fu : Nat} {z : Zs}
def cB (c : Cd) (q s l : Nat) : Cd := ((true, q, s, l), (0, cop c, cx c), (0, c.2.2.2))
def zBg (z : Zs) (q s l : Nat) : Zs := ((z.1.1, z.1.2.1, cB z.1.2.2 q s l), z.2.1, (fun _ => none, fun _ => none), zE z, zV z)
theorem iz_Bg {q s l : Nat} (iz : IZ z) (hq : q < mcnt z.1.2.1) (hs : s ≤ 12) (hl : l ≤ 12) : IZ (zBg z q s l) := by
  obtain ⟨⟨hd, hm, _⟩, h2, h3, _⟩ := iz
  exact ⟨⟨hd, hm, fun _ => hq, hs, hl, Nat.zero_le _, Nat.zero_le _, fun i hi => absurd hi (Nat.not_lt_zero i), fun i hi => absurd hi (Nat.not_lt_zero i)⟩, h2, h3, (fun _ _ _ e => by cases e), (fun _ _ _ e => by cases e), Or.inl (fun _ _ => rfl), fun _ _ => rfl⟩
theorem vx_cR (L : LX E a) (hfu : 200 ≤ fu) (v : VX E S a z) : ∃ S', sp_X4_clear fu E S (E.2 a 6) = some S' ∧ VX E S' a (z.1, z.2.1, (zI z, fun _ => none), zE z, zV z) ∧ Ag (PT E (E.2 a 6)) S S' := by
  obtain ⟨S1, e1, v1, a1⟩ := t_clear (fu := fu) (S := S) hfu (lx_R L)
  have hP : ∀ q, PT E (E.2 a 6) q → muT (E.1 q) = true := mu_pt L.1 (lx_R L)
  have na : ¬ PT E (E.2 a 6) a := fun w => pt_ob L.1 (lx_R L) L.2.2.1 (by decide) (by decide) a w rfl
  have aa := a1 a na
  exact ⟨S1, e1, ⟨venv_mu L.1 v.1 a1 hP (lx_T L) (lx_B L) (lx_C L), pn_ag L (z := z) v.2.1 a1 (nop_mu L.1 (lx_B L) hP rfl rfl), ⟨vf_ag v.2.2.1.1 a1 (pf_pt L.1 L.2.1 (lx_R L) (lx_D L) (lx_Dt L (lx_R L))), by rw [aa.1]; exact v.2.2.1.2⟩, vtb_ag v.2.2.2.1 a1 (pt_dis L.1 L.2.1 (lx_I L) (lx_R L) L.2.2.2.2.2.2.2.2.2.2), v1, by rw [aa.1]; exact v.2.2.2.2.2.1, by rw [aa.1]; exact v.2.2.2.2.2.2⟩, a1⟩
end BGN
