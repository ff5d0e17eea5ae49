section EM2
variable {E : Ev} {S : St} {a m a3 fu : Nat} {z : Zs}
theorem c_Em (L : LX E a) (Lm : LR E m) (hfu : 200 ≤ fu) (iz : IZ z) (vx : VX E S a z) {op : Nat} {x : Int32} (hop : op ≤ 45) (hn : cn z.1.2.2 < 100) : CO E S a m ((sp_X4_clear fu E S (E.2 a 5)).bind fun u4 => (sp_X1_addInstruction fu E u4 (E.2 a 2) (n32 op) x).bind fun u6 => some ((.inr u6.1), u6.2)) (.inr (n32 (cn z.1.2.2 + 1) - 1)) (zEm z op x) := by
  obtain ⟨S1, e1, v1, a1⟩ := vx_cI (fu := fu) L hfu vx
  rw [e1, Option.bind_some]
  have C := lx_C L
  have vc : VCd E S1 (E.2 a 2) z.1.2.2 := v1.1.2.2
  obtain ⟨c0, c1, c2, c3, c6, c11, ci, ch⟩ := vc
  have hin : inb (n32 (cn z.1.2.2)) 100 = true := by rw [z_inb (by omega)]; exact hn
  have n45 : E.2 (E.2 a 2) 4 ≠ E.2 (E.2 a 2) 5 := arr_ne L.1 L.2.1 C C (show (ftab 0)[4]? = some (some (1, 0, 100)) from rfl) (show (ftab 0)[5]? = some (some (1, 0, 100)) from rfl) rfl rfl (fun e => by simp at e)
  have nh : ∀ j, j = 7 ∨ j = 8 ∨ j = 9 ∨ j = 10 → E.2 (E.2 a 2) j ≠ E.2 (E.2 a 2) 4 ∧ E.2 (E.2 a 2) j ≠ E.2 (E.2 a 2) 5 := fun j hj => by
    have hu : (ftab 0)[j]? = some (some (1, 0, 10)) := by rcases hj with rfl | rfl | rfl | rfl <;> rfl
    exact ⟨arr_ne L.1 L.2.1 C C hu (show (ftab 0)[4]? = some (some (1, 0, 100)) from rfl) rfl rfl (fun e => by omega), arr_ne L.1 L.2.1 C C hu (show (ftab 0)[5]? = some (some (1, 0, 100)) from rfl) rfl rfl (fun e => by omega)⟩
  unfold sp_X1_addInstruction bnd
  rw [c6, if_pos hin]
  dsimp only
  rw [show (sG S1 (E.2 (E.2 a 2) 4) (n32 (cn z.1.2.2)).toNatClampNeg (n32 op)).1 (E.2 a 2) 6 = n32 (cn z.1.2.2) from c6, if_pos hin, z_nat (show cn z.1.2.2 < 2 ^ 31 by omega), show (sG (sG S1 (E.2 (E.2 a 2) 4) (cn z.1.2.2) (n32 op)) (E.2 (E.2 a 2) 5) (cn z.1.2.2) x).1 (E.2 a 2) 6 = n32 (cn z.1.2.2) from c6, show n32 (cn z.1.2.2) + 1 = n32 (cn z.1.2.2 + 1) from z_add _ 1, Option.bind_some]
  dsimp only
  rw [show (sF (sG (sG S1 (E.2 (E.2 a 2) 4) (cn z.1.2.2) (n32 op)) (E.2 (E.2 a 2) 5) (cn z.1.2.2) x) (E.2 a 2) 6 (n32 (cn z.1.2.2 + 1))).1 (E.2 a 2) 6 = n32 (cn z.1.2.2 + 1) from up2_s _ _]
  have a2 : Ag (PC E (E.2 a 2)) S1 (sF (sG (sG S1 (E.2 (E.2 a 2) 4) (cn z.1.2.2) (n32 op)) (E.2 (E.2 a 2) 5) (cn z.1.2.2) x) (E.2 a 2) 6 (n32 (cn z.1.2.2 + 1))) := Ag_trans (Ag_mono sG_ag (fun q e => Or.inr ⟨4, (1, 0, 100), rfl, rfl, e⟩)) (Ag_trans (Ag_mono sG_ag (fun q e => Or.inr ⟨5, (1, 0, 100), rfl, rfl, e⟩)) (Ag_mono sF_ag (fun q e => Or.inl e)))
  refine ⟨_, rfl, vx_C (z' := zEm z op x) L v1 a2 ⟨rfl, rfl⟩ rfl ?_, Ag_trans (Ag_mono a1 (nrf_pt Lm (lx_I L))) (Ag_mono a2 (nrf_pc Lm C))⟩
  have f : ∀ j, j ≠ 6 → (sF (sG (sG S1 (E.2 (E.2 a 2) 4) (cn z.1.2.2) (n32 op)) (E.2 (E.2 a 2) 5) (cn z.1.2.2) x) (E.2 a 2) 6 (n32 (cn z.1.2.2 + 1))).1 (E.2 a 2) j = S1.1 (E.2 a 2) j := fun j hj => up2_n _ _ (fun e => hj e.2)
  refine ⟨(f 0 (by decide)).trans c0, (f 1 (by decide)).trans c1, (f 2 (by decide)).trans c2, (f 3 (by decide)).trans c3, up2_s _ _, (f 11 (by decide)).trans c11, fun i hi => ⟨?_, ?_⟩, fun h hh => ?_⟩
  · show up2 (up2 S1.2.1 (E.2 (E.2 a 2) 4) (cn z.1.2.2) (n32 op)) (E.2 (E.2 a 2) 5) (cn z.1.2.2) x (E.2 (E.2 a 2) 4) i = n32 (if i = cn z.1.2.2 then op else cop z.1.2.2 i)
    have hi : i < cn z.1.2.2 + 1 := hi
    rw [up2_n _ _ (fun e => n45 e.1)]
    by_cases e : i = cn z.1.2.2
    · rw [if_pos e, e, up2_s]
    · rw [if_neg e, up2_n _ _ (fun w => e w.2)]; exact (ci i (by omega)).1
  · show up2 (up2 S1.2.1 (E.2 (E.2 a 2) 4) (cn z.1.2.2) (n32 op)) (E.2 (E.2 a 2) 5) (cn z.1.2.2) x (E.2 (E.2 a 2) 5) i = up1 (cx z.1.2.2) (cn z.1.2.2) x i
    have hi : i < cn z.1.2.2 + 1 := hi
    by_cases e : i = cn z.1.2.2
    · rw [e, up2_s, up1_s]
    · rw [up2_n _ _ (fun w => e w.2), up2_n _ _ (fun w => n45 w.1.symm), up1_n _ _ e]; exact (ci i (by omega)).2
  · have g : ∀ j, j = 7 ∨ j = 8 ∨ j = 9 ∨ j = 10 → (sF (sG (sG S1 (E.2 (E.2 a 2) 4) (cn z.1.2.2) (n32 op)) (E.2 (E.2 a 2) 5) (cn z.1.2.2) x) (E.2 a 2) 6 (n32 (cn z.1.2.2 + 1))).2.1 (E.2 (E.2 a 2) j) h = S1.2.1 (E.2 (E.2 a 2) j) h := fun j hj => (up2_n _ _ (fun e => (nh j hj).2 e.1)).trans (up2_n _ _ (fun e => (nh j hj).1 e.1))
    have w := ch h hh
    exact ⟨(g 7 (by omega)).trans w.1, (g 8 (by omega)).trans w.2.1, (g 9 (by omega)).trans w.2.2.1, (g 10 (by omega)).trans w.2.2.2⟩
end EM2
