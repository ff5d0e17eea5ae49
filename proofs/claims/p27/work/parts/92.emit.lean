section EMT
variable {E : Ev} {S : St} {a m a3 fu : Nat} {z : Zs}
def cE (c : Cd) (op : Nat) (x : Int32) : Cd := (c.1, (cn c + 1, (fun j => if j = cn c then op else cop c j), up1 (cx c) (cn c) x), c.2.2)
def zEm (z : Zs) (op : Nat) (x : Int32) : Zs := ((z.1.1, z.1.2.1, cE z.1.2.2 op x), z.2.1, (fun _ => none, zT z), zE z, zV z)
theorem iz_Em {op : Nat} {x : Int32} (iz : IZ z) (hop : op ≤ 45) (hn : cn z.1.2.2 < 100) : IZ (zEm z op x) := by
  obtain ⟨⟨hd, hm, c1, c2, c3, c4, c5, c6, c7⟩, h2, h3, h4, h5, h6⟩ := iz
  refine ⟨⟨hd, hm, c1, c2, c3, show cn z.1.2.2 + 1 ≤ 100 by omega, c5, fun i hi => ?_, c7⟩, h2, h3, (fun _ _ _ e => by cases e), h5, Or.inl (fun _ _ => rfl), fun i hi => h6.2 i (Nat.le_of_succ_le hi)⟩
  show (if i = cn z.1.2.2 then op else cop z.1.2.2 i) ≤ 45
  have hi : i < cn z.1.2.2 + 1 := hi
  by_cases e : i = cn z.1.2.2
  · rw [if_pos e]; exact hop
  · rw [if_neg e]; exact c6 i (by omega)
def PC (E : Ev) (C : Nat) : Nat → Prop := fun q => q = C ∨ ∃ j u, (ftab 0)[j]? = some (some u) ∧ u.1 = 1 ∧ q = E.2 C j
theorem pc_nop (hE : WE E) (hI : Inj E) {C b ci : Nat} (hC : E.1 C = some (0, 0, 0)) (hb : E.1 b = some (0, ci, 0)) (h : ci ≠ 0) : NoP E (PC E C) b ci := by
  refine ⟨fun w => ?_, fun j u hu h1 w => ?_⟩
  · rcases w with w | ⟨i, v, hv, v1, w⟩
    · exact ne_ty hb hC (fun e => h (by cases e; rfl)) w
    · refine ne_ty hb (hE.2.1 C 0 i v hC hv) ?_ w
      intro e; rw [← e] at v1; exact absurd v1 (show ¬ (0 : Nat) = 1 by decide)
  · rcases w with w | ⟨i, v, hv, v1, w⟩
    · refine ne_ty (hE.2.1 b ci j u hb hu) hC ?_ w
      intro e; rw [e] at h1; exact absurd h1 (by decide)
    · exact arr_ne hE hI hb hC hu hv h1 v1 (fun e => ne_ty hb hC (fun q => h (by cases q; rfl)) e.1) w
theorem pc_pf (hE : WE E) (hI : Inj E) {C f : Nat} (hC : E.1 C = some (0, 0, 0)) (hf : E.1 f = some (0, 2, 0)) : ∀ q, PF E f q → ¬ PC E C q := fun q h w => by
  have n := pc_nop hE hI hC hf (by decide)
  rcases h with h | h | h
  · exact n.1 (h ▸ w)
  · exact n.2 0 (1, 0, 12) rfl rfl (h ▸ w)
  · exact n.2 1 (1, 0, 12) rfl rfl (h ▸ w)
theorem pc_pt (hE : WE E) (hI : Inj E) {C t : Nat} (hC : E.1 C = some (0, 0, 0)) (ht : E.1 t = some (0, 3, 0)) : ∀ q, PT E t q → ¬ PC E C q := fun q h w => by
  have n := pc_nop hE hI hC ht (by decide)
  rcases h with h | h | ⟨i, hi, h⟩
  · exact n.1 (h ▸ w)
  · exact n.2 1 (1, 1, 100) rfl rfl (h ▸ w)
  · exact pc_pf hE hI hC (tb_f hE ht hi) q h w
theorem vx_cI (L : LX E a) (hfu : 200 ≤ fu) (v : VX E S a z) : ∃ S', sp_X4_clear fu E S (E.2 a 5) = some S' ∧ VX E S' a (z.1, z.2.1, (fun _ => none, zT z), zE z, zV z) ∧ Ag (PT E (E.2 a 5)) S S' := by
  obtain ⟨S1, e1, v1, a1⟩ := t_clear (fu := fu) (S := S) hfu (lx_I L)
  have hP : ∀ q, PT E (E.2 a 5) q → muT (E.1 q) = true := mu_pt L.1 (lx_I L)
  have na : ¬ PT E (E.2 a 5) a := fun w => pt_ob L.1 (lx_I L) L.2.2.1 (by decide) (by decide) a w rfl
  have aa := a1 a na
  exact ⟨S1, e1, ⟨venv_mu L.1 v.1 a1 hP (lx_T L) (lx_B L) (lx_C L), pn_ag L (z := z) v.2.1 a1 (nop_mu L.1 (lx_B L) hP rfl rfl), ⟨vf_ag v.2.2.1.1 a1 (pf_pt L.1 L.2.1 (lx_I L) (lx_D L) (lx_Dt L (lx_I L))), by rw [aa.1]; exact v.2.2.1.2⟩, v1, vtb_ag v.2.2.2.2.1 a1 (pt_dis L.1 L.2.1 (lx_R L) (lx_I L) (Ne.symm L.2.2.2.2.2.2.2.2.2.2)), by rw [aa.1]; exact v.2.2.2.2.2.1, by rw [aa.1]; exact v.2.2.2.2.2.2⟩, a1⟩
theorem vx_C {S' : St} {z' : Zs} (L : LX E a) (v : VX E S a z) (h : Ag (PC E (E.2 a 2)) S S') (e1 : z'.1.1 = z.1.1 ∧ z'.1.2.1 = z.1.2.1) (e2 : z'.2 = z.2) (vc : VCd E S' (E.2 a 2) z'.1.2.2) : VX E S' a z' := by
  have na : ¬ PC E (E.2 a 2) a := (pc_nop L.1 L.2.1 (lx_C L) L.2.2.1 (by decide)).1
  have aa := h a na
  have nT := pc_nop L.1 L.2.1 (lx_C L) (lx_T L) (by decide)
  have nB := pc_nop L.1 L.2.1 (lx_C L) (lx_B L) (by decide)
  obtain ⟨A', r'⟩ := z'
  dsimp only at e1 e2 vc
  subst e2
  refine ⟨⟨?_, ?_, vc⟩, pn_ag L (z := z) v.2.1 h nB, ⟨vf_ag v.2.2.1.1 h (pc_pf L.1 L.2.1 (lx_C L) (lx_D L)), by rw [aa.1]; exact v.2.2.1.2⟩, vtb_ag v.2.2.2.1 h (pc_pt L.1 L.2.1 (lx_C L) (lx_I L)), vtb_ag v.2.2.2.2.1 h (pc_pt L.1 L.2.1 (lx_C L) (lx_R L)), by rw [aa.1]; exact v.2.2.2.2.2.1, by rw [aa.1]; exact v.2.2.2.2.2.2⟩
  · show VT E S' (E.2 a 0) A'.1
    rw [e1.1]; exact vt_ag v.1.1 h nT
  · show VMb E S' (E.2 a 1) A'.2.1
    rw [e1.2]; exact vmb_ag v.1.2.1 h nB
end EMT
