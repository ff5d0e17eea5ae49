/-! begin, the reference's side: where it succeeds -/
section BG4
variable {E : Ev} {S : St} {m fu : Nat} {z : Zs}
theorem r_Bg (Lm : LR E m) (hfu : 200 ≤ fu) (iz : IZ z) {S0 : St} (v0 : VY E S0 m z) (e0 : S0.1 m 0 = 0) {q s l : Nat} (hq : q < mcnt z.1.2.1) (hs : s ≤ 12) (hl : l ≤ 12) : RO E S0 m (bnd (sF S0 m 15 1) fun S11 => bnd (sF S11 m 16 (n32 q)) fun S12 => bnd (sF S12 m 17 (n32 s)) fun S13 => bnd (sF S13 m 18 (n32 l)) fun S14 => bnd (sF S14 m 19 0) fun S15 => bnd (sF S15 m 22 0) fun S16 => (sp_X12_discard fu E S16 m).bind fun u17 => lp_X12_begin_100 fu E m fu 0 u17) 0 (n32 (need z.1.2.1 q)) (zBg z q s l) := by
  have iz' := iz_Bg (s := s) (l := l) iz hq hs hl
  unfold bnd
  dsimp only
  have al : AgL E m [15, 16, 17, 18, 19, 22] [] S0 (sF (sF (sF (sF (sF (sF S0 m 15 1) m 16 (n32 q)) m 17 (n32 s)) m 18 (n32 l)) m 19 0) m 22 0) := agl_trans (agl_sF (by decide)) (agl_trans (agl_sF (by decide)) (agl_trans (agl_sF (by decide)) (agl_trans (agl_sF (by decide)) (agl_trans (agl_sF (by decide)) (agl_sF (by decide))))))
  have vc : VRc E (sF (sF (sF (sF (sF (sF S0 m 15 1) m 16 (n32 q)) m 17 (n32 s)) m 18 (n32 l)) m 19 0) m 22 0) m (cB z.1.2.2 q s l) := by
    refine ⟨?_, ?_, ?_, ?_, ?_, up2_s _ _, fun i hi => absurd hi (Nat.not_lt_zero i), fun i hi => absurd hi (Nat.not_lt_zero i)⟩
    · exact (up2_n _ _ (fun e => by simp at e)).trans ((up2_n _ _ (fun e => by simp at e)).trans ((up2_n _ _ (fun e => by simp at e)).trans ((up2_n _ _ (fun e => by simp at e)).trans ((up2_n _ _ (fun e => by simp at e)).trans (up2_s _ _)))))
    · exact (up2_n _ _ (fun e => by simp at e)).trans ((up2_n _ _ (fun e => by simp at e)).trans ((up2_n _ _ (fun e => by simp at e)).trans ((up2_n _ _ (fun e => by simp at e)).trans (up2_s _ _))))
    · exact (up2_n _ _ (fun e => by simp at e)).trans ((up2_n _ _ (fun e => by simp at e)).trans ((up2_n _ _ (fun e => by simp at e)).trans (up2_s _ _)))
    · exact (up2_n _ _ (fun e => by simp at e)).trans ((up2_n _ _ (fun e => by simp at e)).trans (up2_s _ _))
    · exact (up2_n _ _ (fun e => by simp at e)).trans (up2_s _ _)
  generalize sF (sF (sF (sF (sF (sF S0 m 15 1) m 16 (n32 q)) m 17 (n32 s)) m 18 (n32 l)) m 19 0) m 22 0 = S5 at al vc ⊢
  obtain ⟨S6, e6, vi6, k27, a6⟩ := r_dis (fu := fu) (S := S5) Lm hfu
  rw [e6, Option.bind_some]
  have al6 : AgL E m [15, 16, 17, 18, 19, 22, 27] [28] S0 S6 := agl_trans (agl_mono al (by decide) (by decide)) (agl_mono a6 (by decide) (by decide))
  have vt6 := vrt_agl Lm v0.1.1 al6 rfl rfl rfl
  have vb6 := vrb_agl Lm v0.1.2.1 al6 rfl rfl rfl
  have vc6 := vrc_agl Lm vc a6 rfl rfl rfl
  obtain ⟨S7, e7, vd7, a7⟩ := r_bgL (fu := fu) (A := (zBg z q s l).1) Lm hfu iz'.1 rfl 100 0 fu S6 rfl (by omega) ⟨vt6, vb6, vc6⟩ (fun j hj => absurd hj (Nat.not_lt_zero j))
  have al7 : AgL E m [15, 16, 17, 18, 19, 22, 27] [28, 30] S0 S7 := agl_trans (agl_mono al6 (by decide) (by decide)) (agl_mono a7 (fun _ w => absurd w List.not_mem_nil) (by decide))
  exact ⟨S7, e7, (agl_f al7 rfl).trans e0, vy_mk (vrt_agl Lm vt6 a7 rfl rfl rfl) (vrb_agl Lm vb6 a7 rfl rfl rfl) (vrc_agl Lm vc6 a7 rfl rfl rfl) (vyp_agl Lm v0.2.1 al7 rfl rfl rfl) (vyd_agl Lm v0.2.2.1 al7 rfl rfl rfl) (vri_ag Lm vi6 a7 rfl rfl rfl) vd7 ((agl_f al7 rfl).trans v0.2.2.2.2.2.1) ((agl_f al7 rfl).trans v0.2.2.2.2.2.2.1) ((agl_f a7 rfl).trans k27), agl_rf al7 rfl⟩
end BG4
