section HND
variable {E : Ev} {S : St} {a m a3 fu : Nat} {z : Zs}
def cH (c : Cd) (s e t : Int32) (k : Nat) : Cd := (c.1, c.2.1, (chn c + 1, up1 (chs c) (chn c) s, up1 (che c) (chn c) e, up1 (cht c) (chn c) t, fun j => if j = chn c then k else chc c j))
def zHa (z : Zs) (s e t : Int32) (k : Nat) : Zs := ((z.1.1, z.1.2.1, cH z.1.2.2 s e t k), z.2.1, (fun _ => none, zT z), zE z, zV z)
theorem iz_Ha {s e t : Int32} {k : Nat} (iz : IZ z) (hk : cls z.1.1 k = true) (hn : chn z.1.2.2 < 10) : IZ (zHa z s e t k) := by
  obtain ⟨⟨hd, hm, c1, c2, c3, c4, c5, c6, c7⟩, h2, h3, h4, h5, h6⟩ := iz
  refine ⟨⟨hd, hm, c1, c2, c3, c4, show chn z.1.2.2 + 1 ≤ 10 by omega, c6, fun i hi => ?_⟩, h2, h3, (fun _ _ _ e => by cases e), h5, Or.inl (fun _ _ => rfl), h6.2⟩
  show (if i = chn z.1.2.2 then k else chc z.1.2.2 i) < z.1.1.1 ∧ 2 ≤ (if i = chn z.1.2.2 then k else chc z.1.2.2 i)
  have hi : i < chn z.1.2.2 + 1 := hi
  have kl := cls_lt hk
  by_cases e : i = chn z.1.2.2
  · rw [if_pos e]; exact ⟨kl.2, kl.1⟩
  · rw [if_neg e]; exact c7 i (by omega)
theorem c_Ha (L : LX E a) (Lm : LR E m) (hfu : 200 ≤ fu) (iz : IZ z) (vx : VX E S a z) {s e t : Int32} {k : Nat} (hn : chn z.1.2.2 < 10) : CO E S a m ((sp_X4_clear fu E S (E.2 a 5)).bind fun u6 => (sp_X1_addProtection fu E u6 (E.2 a 2) s e t (n32 k)).bind fun u8 => some ((.inr u8.1), u8.2)) (.inr (n32 (chn z.1.2.2 + 1) - 1)) (zHa z s e t k) := by
  obtain ⟨S1, e1, v1, a1⟩ := vx_cI (fu := fu) L hfu vx
  rw [e1, Option.bind_some]
  have C := lx_C L
  have vc : VCd E S1 (E.2 a 2) z.1.2.2 := v1.1.2.2
  obtain ⟨c0, c1, c2, c3, c6, c11, ci, ch⟩ := vc
  have hin : inb (n32 (chn z.1.2.2)) 10 = true := by rw [z_inb (by omega)]; exact hn
  have ne : ∀ i j : Nat, ((ftab 0)[i]?).isSome = true → (∃ u, (ftab 0)[i]? = some (some u) ∧ u.1 = 1) → (∃ u, (ftab 0)[j]? = some (some u) ∧ u.1 = 1) → i ≠ j → E.2 (E.2 a 2) i ≠ E.2 (E.2 a 2) j := fun i j _ ⟨u, hu, u1⟩ ⟨w, hw, w1⟩ h => arr_ne L.1 L.2.1 C C hu hw u1 w1 (fun q => h q.2)
  have i4 : ∃ u, (ftab 0)[4]? = some (some u) ∧ u.1 = 1 := ⟨_, rfl, rfl⟩
  have i5 : ∃ u, (ftab 0)[5]? = some (some u) ∧ u.1 = 1 := ⟨_, rfl, rfl⟩
  have i7 : ∃ u, (ftab 0)[7]? = some (some u) ∧ u.1 = 1 := ⟨_, rfl, rfl⟩
  have i8 : ∃ u, (ftab 0)[8]? = some (some u) ∧ u.1 = 1 := ⟨_, rfl, rfl⟩
  have i9 : ∃ u, (ftab 0)[9]? = some (some u) ∧ u.1 = 1 := ⟨_, rfl, rfl⟩
  have i10 : ∃ u, (ftab 0)[10]? = some (some u) ∧ u.1 = 1 := ⟨_, rfl, rfl⟩
  have n78 := ne 7 8 rfl i7 i8 (by decide)
  have n79 := ne 7 9 rfl i7 i9 (by decide)
  have n70 := ne 7 10 rfl i7 i10 (by decide)
  have n89 := ne 8 9 rfl i8 i9 (by decide)
  have n80 := ne 8 10 rfl i8 i10 (by decide)
  have n90 := ne 9 10 rfl i9 i10 (by decide)
  unfold sp_X1_addProtection bnd
  dsimp only
  have q : ∀ (w : Nat → Nat → Int32), (S1.1, w, S1.2.2).1 (E.2 a 2) 11 = n32 (chn z.1.2.2) := fun _ => c11
  rw [c11, if_pos hin, z_nat (show chn z.1.2.2 < 2 ^ 31 by omega)]
  rw [show (sG S1 (E.2 (E.2 a 2) 7) (chn z.1.2.2) s).1 (E.2 a 2) 11 = n32 (chn z.1.2.2) from c11, if_pos hin, z_nat (show chn z.1.2.2 < 2 ^ 31 by omega)]
  rw [show (sG (sG S1 (E.2 (E.2 a 2) 7) (chn z.1.2.2) s) (E.2 (E.2 a 2) 8) (chn z.1.2.2) e).1 (E.2 a 2) 11 = n32 (chn z.1.2.2) from c11, if_pos hin, z_nat (show chn z.1.2.2 < 2 ^ 31 by omega)]
  rw [show (sG (sG (sG S1 (E.2 (E.2 a 2) 7) (chn z.1.2.2) s) (E.2 (E.2 a 2) 8) (chn z.1.2.2) e) (E.2 (E.2 a 2) 9) (chn z.1.2.2) t).1 (E.2 a 2) 11 = n32 (chn z.1.2.2) from c11, if_pos hin, z_nat (show chn z.1.2.2 < 2 ^ 31 by omega)]
  rw [show (sG (sG (sG (sG S1 (E.2 (E.2 a 2) 7) (chn z.1.2.2) s) (E.2 (E.2 a 2) 8) (chn z.1.2.2) e) (E.2 (E.2 a 2) 9) (chn z.1.2.2) t) (E.2 (E.2 a 2) 10) (chn z.1.2.2) (n32 k)).1 (E.2 a 2) 11 = n32 (chn z.1.2.2) from c11, show n32 (chn z.1.2.2) + 1 = n32 (chn z.1.2.2 + 1) from z_add _ 1, Option.bind_some]
  dsimp only
  have a2 : Ag (PC E (E.2 a 2)) S1 (sF (sG (sG (sG (sG S1 (E.2 (E.2 a 2) 7) (chn z.1.2.2) s) (E.2 (E.2 a 2) 8) (chn z.1.2.2) e) (E.2 (E.2 a 2) 9) (chn z.1.2.2) t) (E.2 (E.2 a 2) 10) (chn z.1.2.2) (n32 k)) (E.2 a 2) 11 (n32 (chn z.1.2.2 + 1))) := Ag_trans (Ag_mono sG_ag (fun q e => Or.inr ⟨7, (1, 0, 10), rfl, rfl, e⟩)) (Ag_trans (Ag_mono sG_ag (fun q e => Or.inr ⟨8, (1, 0, 10), rfl, rfl, e⟩)) (Ag_trans (Ag_mono sG_ag (fun q e => Or.inr ⟨9, (1, 0, 10), rfl, rfl, e⟩)) (Ag_trans (Ag_mono sG_ag (fun q e => Or.inr ⟨10, (1, 0, 10), rfl, rfl, e⟩)) (Ag_mono sF_ag (fun q e => Or.inl e)))))
  have f : ∀ j, j ≠ 11 → (sF (sG (sG (sG (sG S1 (E.2 (E.2 a 2) 7) (chn z.1.2.2) s) (E.2 (E.2 a 2) 8) (chn z.1.2.2) e) (E.2 (E.2 a 2) 9) (chn z.1.2.2) t) (E.2 (E.2 a 2) 10) (chn z.1.2.2) (n32 k)) (E.2 a 2) 11 (n32 (chn z.1.2.2 + 1))).1 (E.2 a 2) j = S1.1 (E.2 a 2) j := fun j hj => up2_n _ _ (fun e => hj e.2)
  refine ⟨_, congrArg some (Prod.ext (congrArg Sum.inr (congrArg (· - 1) (up2_s _ _))) rfl), vx_C (z' := zHa z s e t k) L v1 a2 ⟨rfl, rfl⟩ rfl ?_, Ag_trans (Ag_mono a1 (nrf_pt Lm (lx_I L))) (Ag_mono a2 (nrf_pc Lm C))⟩
  have g : ∀ (j : Nat) (p : ∃ u, (ftab 0)[j]? = some (some u) ∧ u.1 = 1), j ≠ 7 → j ≠ 8 → j ≠ 9 → j ≠ 10 → ((ftab 0)[j]?).isSome = true → ∀ i, (sF (sG (sG (sG (sG S1 (E.2 (E.2 a 2) 7) (chn z.1.2.2) s) (E.2 (E.2 a 2) 8) (chn z.1.2.2) e) (E.2 (E.2 a 2) 9) (chn z.1.2.2) t) (E.2 (E.2 a 2) 10) (chn z.1.2.2) (n32 k)) (E.2 a 2) 11 (n32 (chn z.1.2.2 + 1))).2.1 (E.2 (E.2 a 2) j) i = S1.2.1 (E.2 (E.2 a 2) j) i := fun j p h7 h8 h9 h10 hs i => (up2_n _ _ (fun e => ne j 10 hs p i10 h10 e.1)).trans ((up2_n _ _ (fun e => ne j 9 hs p i9 h9 e.1)).trans ((up2_n _ _ (fun e => ne j 8 hs p i8 h8 e.1)).trans (up2_n _ _ (fun e => ne j 7 hs p i7 h7 e.1))))
  refine ⟨(f 0 (by decide)).trans c0, (f 1 (by decide)).trans c1, (f 2 (by decide)).trans c2, (f 3 (by decide)).trans c3, (f 6 (by decide)).trans c6, up2_s _ _, fun i hi => ⟨(g 4 i4 (by decide) (by decide) (by decide) (by decide) rfl i).trans (ci i hi).1, (g 5 i5 (by decide) (by decide) (by decide) (by decide) rfl i).trans (ci i hi).2⟩, fun h hh => ?_⟩
  have hh : h < chn z.1.2.2 + 1 := hh
  have w := fun hlt => ch h hlt
  have one : ∀ (F : Nat → Int32) (v : Int32) (A : Nat → Nat → Int32) (r : Nat), (h < chn z.1.2.2 → A r h = F h) → up2 A r (chn z.1.2.2) v r h = up1 F (chn z.1.2.2) v h := fun F v A r hA => by
    by_cases q : h = chn z.1.2.2
    · rw [q, up2_s, up1_s]
    · rw [up2_n _ _ (fun e => q e.2), up1_n _ _ q]; exact hA (by omega)
  refine ⟨?_, ?_, ?_, ?_⟩
  · exact (up2_n _ _ (fun e => n70 e.1)).trans ((up2_n _ _ (fun e => n79 e.1)).trans ((up2_n _ _ (fun e => n78 e.1)).trans (one (chs z.1.2.2) s _ _ (fun q => (w q).1))))
  · exact (up2_n _ _ (fun e => n80 e.1)).trans ((up2_n _ _ (fun e => n89 e.1)).trans (one (che z.1.2.2) e _ _ (fun q => (up2_n _ _ (fun x => n78 x.1.symm)).trans (w q).2.1)))
  · exact (up2_n _ _ (fun e => n90 e.1)).trans (one (cht z.1.2.2) t _ _ (fun q => (up2_n _ _ (fun x => n89 x.1.symm)).trans ((up2_n _ _ (fun x => n79 x.1.symm)).trans (w q).2.2.1)))
  · show _ = n32 (if h = chn z.1.2.2 then k else chc z.1.2.2 h)
    by_cases q : h = chn z.1.2.2
    · rw [if_pos q, q]; exact up2_s _ _
    · rw [if_neg q]
      exact (up2_n _ _ (fun x => q x.2)).trans ((up2_n _ _ (fun x => n90 x.1.symm)).trans ((up2_n _ _ (fun x => n80 x.1.symm)).trans ((up2_n _ _ (fun x => n70 x.1.symm)).trans (w (by omega)).2.2.2)))
end HND
