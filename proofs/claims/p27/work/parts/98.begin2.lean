section BG2
variable {E : Ev} {S : St} {a m a3 fu : Nat} {z : Zs}
theorem c_Bg (L : LX E a) (Lm : LR E m) (hfu : 200 ≤ fu) (iz : IZ z) (vx : VX E S a z) {q s l : Nat} (hq : q < mcnt z.1.2.1) (hs : s ≤ 12) (hl : l ≤ 12) : CO E S a m ((sp_X1_start fu E S (E.2 a 2) (n32 q) (n32 s) (n32 l)).bind fun u9 => (sp_X4_clear fu E u9 (E.2 a 5)).bind fun u11 => (sp_X4_clear fu E u11 (E.2 a 6)).bind fun u13 => (sp_X8_slotsNeeded fu E u13 (E.2 a 1) (n32 q)).bind fun u15 => some ((.inr u15.1), u15.2)) (.inr (n32 (need z.1.2.1 q))) (zBg z q s l) := by
  have C := lx_C L
  unfold sp_X1_start bnd
  dsimp only
  rw [Option.bind_some]
  have a1 : Ag (PC E (E.2 a 2)) S (sF (sF (sF (sF (sF (sF S (E.2 a 2) 0 1) (E.2 a 2) 1 (n32 q)) (E.2 a 2) 2 (n32 s)) (E.2 a 2) 3 (n32 l)) (E.2 a 2) 6 0) (E.2 a 2) 11 0) := Ag_mono (Ag_trans sF_ag (Ag_trans sF_ag (Ag_trans sF_ag (Ag_trans sF_ag (Ag_trans sF_ag sF_ag))))) (fun q e => Or.inl e)
  have v1 : VX E (sF (sF (sF (sF (sF (sF S (E.2 a 2) 0 1) (E.2 a 2) 1 (n32 q)) (E.2 a 2) 2 (n32 s)) (E.2 a 2) 3 (n32 l)) (E.2 a 2) 6 0) (E.2 a 2) 11 0) a ((z.1.1, z.1.2.1, cB z.1.2.2 q s l), z.2) := by
    refine vx_C (z' := ((z.1.1, z.1.2.1, cB z.1.2.2 q s l), z.2)) L vx a1 ⟨rfl, rfl⟩ rfl ⟨?_, ?_, ?_, ?_, ?_, up2_s _ _, fun i hi => absurd hi (Nat.not_lt_zero i), fun i hi => absurd hi (Nat.not_lt_zero i)⟩
    · exact (up2_n _ _ (fun e => by simp at e)).trans ((up2_n _ _ (fun e => by simp at e)).trans ((up2_n _ _ (fun e => by simp at e)).trans ((up2_n _ _ (fun e => by simp at e)).trans ((up2_n _ _ (fun e => by simp at e)).trans (up2_s _ _)))))
    · exact (up2_n _ _ (fun e => by simp at e)).trans ((up2_n _ _ (fun e => by simp at e)).trans ((up2_n _ _ (fun e => by simp at e)).trans ((up2_n _ _ (fun e => by simp at e)).trans (up2_s _ _))))
    · exact (up2_n _ _ (fun e => by simp at e)).trans ((up2_n _ _ (fun e => by simp at e)).trans ((up2_n _ _ (fun e => by simp at e)).trans (up2_s _ _)))
    · exact (up2_n _ _ (fun e => by simp at e)).trans ((up2_n _ _ (fun e => by simp at e)).trans (up2_s _ _))
    · exact (up2_n _ _ (fun e => by simp at e)).trans (up2_s _ _)
  generalize sF (sF (sF (sF (sF (sF S (E.2 a 2) 0 1) (E.2 a 2) 1 (n32 q)) (E.2 a 2) 2 (n32 s)) (E.2 a 2) 3 (n32 l)) (E.2 a 2) 6 0) (E.2 a 2) 11 0 = S1 at a1 v1 ⊢
  obtain ⟨S2, e2, v2, a2⟩ := vx_cI (fu := fu) L hfu v1
  rw [e2, Option.bind_some]
  obtain ⟨S3, e3, v3, a3'⟩ := vx_cR (fu := fu) L hfu v2
  rw [e3, Option.bind_some]
  have iz' := iz_Bg (s := s) (l := l) iz hq hs hl
  rw [t_need (fu := fu) (A := (zBg z q s l).1) iz'.1 v3.1.2.1 hq, Option.bind_some]
  exact ⟨S3, rfl, v3, Ag_trans (Ag_mono a1 (nrf_pc Lm C)) (Ag_trans (Ag_mono a2 (nrf_pt Lm (lx_I L))) (Ag_mono a3' (nrf_pt Lm (lx_R L))))⟩
end BG2
