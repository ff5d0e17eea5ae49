/-! addHandler, the reference's side -/
section HN2
variable {E : Ev} {S : St} {a m a3 fu : Nat} {z : Zs}
theorem r_Ha (Lm : LR E m) (hfu : 200 ≤ fu) {S0 : St} (v0 : VY E S0 m z) (e0 : S0.1 m 0 = 0) {s e t : Int32} {k : Nat} (hn : chn z.1.2.2 < 10) : RO E S0 m (if inb (S0.1 m 22) 10 = true then (bnd (sG S0 (E.2 m 23) ((S0.1 m 22).toNatClampNeg) s) fun S6 => if inb (S6.1 m 22) 10 = true then (bnd (sG S6 (E.2 m 24) ((S6.1 m 22).toNatClampNeg) e) fun S9 => if inb (S9.1 m 22) 10 = true then (bnd (sG S9 (E.2 m 25) ((S9.1 m 22).toNatClampNeg) t) fun S12 => if inb (S12.1 m 22) 10 = true then (bnd (sG S12 (E.2 m 26) ((S12.1 m 22).toNatClampNeg) (n32 k)) fun S15 => bnd (sF S15 m 22 ((S15.1 m 22) + 1)) fun S16 => (sp_X12_discard fu E S16 m).bind fun u17 => some ((u17.1 m 22) - 1, u17)) else none) else none) else none) else none) 0 (n32 (chn z.1.2.2 + 1) - 1) (zHa z s e t k) := by
  have q22 : S0.1 m 22 = n32 (chn z.1.2.2) := v0.1.2.2.2.2.2.2.2.1
  have hin : inb (n32 (chn z.1.2.2)) 10 = true := by rw [z_inb (by omega)]; exact hn
  unfold bnd
  dsimp only
  rw [q22, if_pos hin, z_nat (show chn z.1.2.2 < 2 ^ 31 by omega)]
  rw [show (sG S0 (E.2 m 23) (chn z.1.2.2) s).1 m 22 = n32 (chn z.1.2.2) from q22, if_pos hin, z_nat (show chn z.1.2.2 < 2 ^ 31 by omega)]
  rw [show (sG (sG S0 (E.2 m 23) (chn z.1.2.2) s) (E.2 m 24) (chn z.1.2.2) e).1 m 22 = n32 (chn z.1.2.2) from q22, if_pos hin, z_nat (show chn z.1.2.2 < 2 ^ 31 by omega)]
  rw [show (sG (sG (sG S0 (E.2 m 23) (chn z.1.2.2) s) (E.2 m 24) (chn z.1.2.2) e) (E.2 m 25) (chn z.1.2.2) t).1 m 22 = n32 (chn z.1.2.2) from q22, if_pos hin, z_nat (show chn z.1.2.2 < 2 ^ 31 by omega)]
  rw [show (sG (sG (sG (sG S0 (E.2 m 23) (chn z.1.2.2) s) (E.2 m 24) (chn z.1.2.2) e) (E.2 m 25) (chn z.1.2.2) t) (E.2 m 26) (chn z.1.2.2) (n32 k)).1 m 22 = n32 (chn z.1.2.2) from q22, show n32 (chn z.1.2.2) + 1 = n32 (chn z.1.2.2 + 1) from z_add _ 1]
  have n34 : E.2 m 23 ≠ E.2 m 24 := lr_ne Lm rfl rfl (by decide)
  have n35 : E.2 m 23 ≠ E.2 m 25 := lr_ne Lm rfl rfl (by decide)
  have n36 : E.2 m 23 ≠ E.2 m 26 := lr_ne Lm rfl rfl (by decide)
  have n45 : E.2 m 24 ≠ E.2 m 25 := lr_ne Lm rfl rfl (by decide)
  have n46 : E.2 m 24 ≠ E.2 m 26 := lr_ne Lm rfl rfl (by decide)
  have n56 : E.2 m 25 ≠ E.2 m 26 := lr_ne Lm rfl rfl (by decide)
  have al : AgL E m [22] [23, 24, 25, 26] S0 (sF (sG (sG (sG (sG S0 (E.2 m 23) (chn z.1.2.2) s) (E.2 m 24) (chn z.1.2.2) e) (E.2 m 25) (chn z.1.2.2) t) (E.2 m 26) (chn z.1.2.2) (n32 k)) m 22 (n32 (chn z.1.2.2 + 1))) := agl_trans (agl_sG (by decide)) (agl_trans (agl_sG (by decide)) (agl_trans (agl_sG (by decide)) (agl_trans (agl_sG (by decide)) (agl_sF (by decide)))))
  have vc : VRc E (sF (sG (sG (sG (sG S0 (E.2 m 23) (chn z.1.2.2) s) (E.2 m 24) (chn z.1.2.2) e) (E.2 m 25) (chn z.1.2.2) t) (E.2 m 26) (chn z.1.2.2) (n32 k)) m 22 (n32 (chn z.1.2.2 + 1))) m (cH z.1.2.2 s e t k) := by
    obtain ⟨c0, c1, c2, c3, c4, c5, c6, c7⟩ := v0.1.2.2
    refine ⟨(agl_f al rfl).trans c0, (agl_f al rfl).trans c1, (agl_f al rfl).trans c2, (agl_f al rfl).trans c3, (agl_f al rfl).trans c4, up2_s _ _, fun i hi => ?_, fun h hh => ?_⟩
    · rw [agl_a Lm al (j := 20) rfl rfl rfl, agl_a Lm al (j := 21) rfl rfl rfl]; exact c6 i hi
    · have hh : h < chn z.1.2.2 + 1 := hh
      have w := fun hlt => c7 h hlt
      have one : ∀ (F : Nat → Int32) (v : Int32) (A : Nat → Nat → Int32) (r : Nat), (h < chn z.1.2.2 → A r h = F h) → up2 A r (chn z.1.2.2) v r h = up1 F (chn z.1.2.2) v h := fun F v A r hA => by
        by_cases q : h = chn z.1.2.2
        · rw [q, up2_s, up1_s]
        · rw [up2_n _ _ (fun e => q e.2), up1_n _ _ q]; exact hA (by omega)
      refine ⟨?_, ?_, ?_, ?_⟩
      · exact (up2_n _ _ (fun x => n36 x.1)).trans ((up2_n _ _ (fun x => n35 x.1)).trans ((up2_n _ _ (fun x => n34 x.1)).trans (one (chs z.1.2.2) s _ _ (fun q => (w q).1))))
      · exact (up2_n _ _ (fun x => n46 x.1)).trans ((up2_n _ _ (fun x => n45 x.1)).trans (one (che z.1.2.2) e _ _ (fun q => (up2_n _ _ (fun x => n34 x.1.symm)).trans (w q).2.1)))
      · exact (up2_n _ _ (fun x => n56 x.1)).trans (one (cht z.1.2.2) t _ _ (fun q => (up2_n _ _ (fun x => n45 x.1.symm)).trans ((up2_n _ _ (fun x => n35 x.1.symm)).trans (w q).2.2.1)))
      · show _ = n32 (if h = chn z.1.2.2 then k else chc z.1.2.2 h)
        by_cases q : h = chn z.1.2.2
        · rw [if_pos q, q]; exact up2_s _ _
        · rw [if_neg q]
          exact (up2_n _ _ (fun x => q x.2)).trans ((up2_n _ _ (fun x => n56 x.1.symm)).trans ((up2_n _ _ (fun x => n46 x.1.symm)).trans ((up2_n _ _ (fun x => n36 x.1.symm)).trans (w (by omega)).2.2.2)))
  have e22 : (sF (sG (sG (sG (sG S0 (E.2 m 23) (chn z.1.2.2) s) (E.2 m 24) (chn z.1.2.2) e) (E.2 m 25) (chn z.1.2.2) t) (E.2 m 26) (chn z.1.2.2) (n32 k)) m 22 (n32 (chn z.1.2.2 + 1))).1 m 22 = n32 (chn z.1.2.2 + 1) := up2_s _ _
  generalize sF (sG (sG (sG (sG S0 (E.2 m 23) (chn z.1.2.2) s) (E.2 m 24) (chn z.1.2.2) e) (E.2 m 25) (chn z.1.2.2) t) (E.2 m 26) (chn z.1.2.2) (n32 k)) m 22 (n32 (chn z.1.2.2 + 1)) = S5 at al vc e22 ⊢
  obtain ⟨S6, e6, vi6, k27, a6⟩ := r_dis (fu := fu) (S := S5) Lm hfu
  rw [e6, Option.bind_some, show S6.1 m 22 = n32 (chn z.1.2.2 + 1) from (agl_f a6 rfl).trans e22]
  have al6 : AgL E m [22, 27] [23, 24, 25, 26, 28] S0 S6 := agl_trans (agl_mono al (by decide) (by decide)) (agl_mono a6 (by decide) (by decide))
  exact ⟨S6, rfl, (agl_f al6 rfl).trans e0, vy_mk (vrt_agl Lm v0.1.1 al6 rfl rfl rfl) (vrb_agl Lm v0.1.2.1 al6 rfl rfl rfl) (vrc_agl Lm vc a6 rfl rfl rfl) (vyp_agl Lm v0.2.1 al6 rfl rfl rfl) (vyd_agl Lm v0.2.2.1 al6 rfl rfl rfl) vi6 (vrd_ag Lm v0.2.2.2.2.1 al6 rfl rfl rfl) ((agl_f al6 rfl).trans v0.2.2.2.2.2.1) ((agl_f al6 rfl).trans v0.2.2.2.2.2.2.1) k27, agl_rf al6 rfl⟩
end HN2
