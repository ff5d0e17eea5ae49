section POS
variable {E : Ev} {S S' : St} {a m : Nat} {z z' : Zs}
def PO (E : Ev) (b ci : Nat) : Nat → Prop := fun q => q = b ∨ ∃ j u, (ftab ci)[j]? = some (some u) ∧ u.1 = 1 ∧ q = E.2 b j
theorem po_nop (hE : WE E) (hI : Inj E) {C c0 b ci : Nat} (hC : E.1 C = some (0, c0, 0)) (hb : E.1 b = some (0, ci, 0)) (h : ci ≠ c0) : NoP E (PO E C c0) b ci := by
  refine ⟨fun w => ?_, fun j u hu h1 w => ?_⟩
  · rcases w with w | ⟨i, v, hv, v1, w⟩
    · exact ne_ty hb hC (fun e => h (by cases e; rfl)) w
    · refine ne_ty hb (hE.2.1 C c0 i v hC hv) ?_ w
      intro e; rw [← e] at v1; exact absurd v1 (show ¬ (0 : Nat) = 1 by decide)
  · rcases w with w | ⟨i, v, hv, v1, w⟩
    · refine ne_ty (hE.2.1 b ci j u hb hu) hC ?_ w
      intro e; rw [e] at h1; exact absurd h1 (show ¬ (0 : Nat) = 1 by decide)
    · exact arr_ne hE hI hb hC hu hv h1 v1 (fun e => ne_ty hb hC (fun q => h (by cases q; rfl)) e.1) w
theorem po_pf (hE : WE E) (hI : Inj E) {C c0 f : Nat} (hC : E.1 C = some (0, c0, 0)) (hf : E.1 f = some (0, 2, 0)) (h : 2 ≠ c0) : ∀ q, PF E f q → ¬ PO E C c0 q := fun q h' w => by
  have n := po_nop hE hI hC hf h
  rcases h' with h' | h' | h'
  · exact n.1 (h' ▸ w)
  · exact n.2 0 (1, 0, 12) rfl rfl (h' ▸ w)
  · exact n.2 1 (1, 0, 12) rfl rfl (h' ▸ w)
theorem po_pt (hE : WE E) (hI : Inj E) {C c0 t : Nat} (hC : E.1 C = some (0, c0, 0)) (ht : E.1 t = some (0, 3, 0)) (h : 3 ≠ c0) (h2 : 2 ≠ c0) : ∀ q, PT E t q → ¬ PO E C c0 q := fun q h' w => by
  have n := po_nop hE hI hC ht h
  rcases h' with h' | h' | ⟨i, hi, h'⟩
  · exact n.1 (h' ▸ w)
  · exact n.2 1 (1, 1, 100) rfl rfl (h' ▸ w)
  · exact po_pf hE hI hC (tb_f hE ht hi) h2 q h' w
theorem vx_B (L : LX E a) (v : VX E S a z) (h : Ag (PO E (E.2 a 1) 7) S S') (e1 : z'.1.1 = z.1.1 ∧ z'.1.2.2 = z.1.2.2) (e2 : z'.2.1.2 = z.2.1.2 ∧ z'.2.2 = z.2.2) (vb : VMb E S' (E.2 a 1) z'.1.2.1) (vp : S'.1 (E.2 a 1) 11 = n32 (zP z').1 ∧ S'.1 (E.2 a 1) 12 = n32 (psum (zP z').2 (zP z').1) ∧ ∀ k, k < (zP z').1 → S'.2.1 (E.2 (E.2 a 1) 10) k = n32 ((zP z').2 k)) : VX E S' a z' := by
  have B := lx_B L
  have aa := h a (po_nop L.1 L.2.1 B L.2.2.1 (by decide)).1
  have nT := po_nop L.1 L.2.1 B (lx_T L) (by decide)
  have nC := po_nop L.1 L.2.1 B (lx_C L) (by decide)
  obtain ⟨⟨A1, A2, A3⟩, ⟨P1, P2⟩, R⟩ := z'
  obtain ⟨q1, q2⟩ := e1
  obtain ⟨q3, q4⟩ := e2
  dsimp only at q1 q2 q3 q4
  subst q1 q2 q3 q4
  exact ⟨⟨vt_ag v.1.1 h nT, vb, vcd_ag v.1.2.2 h nC⟩, vp, ⟨vf_ag v.2.2.1.1 h (po_pf L.1 L.2.1 B (lx_D L) (by decide)), by rw [aa.1]; exact v.2.2.1.2⟩, vtb_ag v.2.2.2.1 h (po_pt L.1 L.2.1 B (lx_I L) (by decide) (by decide)), vtb_ag v.2.2.2.2.1 h (po_pt L.1 L.2.1 B (lx_R L) (by decide) (by decide)), by rw [aa.1]; exact v.2.2.2.2.2.1, by rw [aa.1]; exact v.2.2.2.2.2.2⟩
theorem vx_Ty (L : LX E a) (v : VX E S a z) (h : Ag (PO E (E.2 a 0) 8) S S') (e1 : z'.1.2 = z.1.2) (e2 : z'.2 = z.2) (vt : VT E S' (E.2 a 0) z'.1.1) : VX E S' a z' := by
  have T := lx_T L
  have aa := h a (po_nop L.1 L.2.1 T L.2.2.1 (by decide)).1
  have nB := po_nop L.1 L.2.1 T (lx_B L) (by decide)
  have nC := po_nop L.1 L.2.1 T (lx_C L) (by decide)
  obtain ⟨⟨A1, A2⟩, R⟩ := z'
  dsimp only at e1 e2
  subst e1 e2
  exact ⟨⟨vt, vmb_ag v.1.2.1 h nB, vcd_ag v.1.2.2 h nC⟩, pn_ag L (z := z) v.2.1 h nB, ⟨vf_ag v.2.2.1.1 h (po_pf L.1 L.2.1 T (lx_D L) (by decide)), by rw [aa.1]; exact v.2.2.1.2⟩, vtb_ag v.2.2.2.1 h (po_pt L.1 L.2.1 T (lx_I L) (by decide) (by decide)), vtb_ag v.2.2.2.2.1 h (po_pt L.1 L.2.1 T (lx_R L) (by decide) (by decide)), by rw [aa.1]; exact v.2.2.2.2.2.1, by rw [aa.1]; exact v.2.2.2.2.2.2⟩
end POS
section APP
variable {A : Nat → Nat → Int32} {r n h : Nat}
theorem app_n {F : Nat → Nat} {v : Nat} (hA : h < n → A r h = n32 (F h)) (hh : h < n + 1) : up2 A r n (n32 v) r h = n32 (if h = n then v else F h) := by
  by_cases q : h = n
  · rw [if_pos q, q, up2_s]
  · rw [if_neg q, up2_n _ _ (fun e => q e.2)]; exact hA (by omega)
theorem app_b {F : Nat → Bool} {v : Bool} (hA : h < n → A r h = b2 (F h)) (hh : h < n + 1) : up2 A r n (b2 v) r h = b2 (if h = n then v else F h) := by
  by_cases q : h = n
  · rw [if_pos q, q, up2_s]
  · rw [if_neg q, up2_n _ _ (fun e => q e.2)]; exact hA (by omega)
theorem app_x {F : Nat → Int32} {v : Int32} (hA : h < n → A r h = F h) (hh : h < n + 1) : up2 A r n v r h = up1 F n v h := by
  by_cases q : h = n
  · rw [q, up2_s, up1_s]
  · rw [up2_n _ _ (fun e => q e.2), up1_n _ _ q]; exact hA (by omega)
end APP
