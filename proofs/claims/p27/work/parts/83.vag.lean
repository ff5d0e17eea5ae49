section VAG
variable {E : Ev} {S S' : St} {a m : Nat} {z : Zs}
theorem lx_T (L : LX E a) : E.1 (E.2 a 0) = some (0, 8, 0) := L.1.2.1 a 9 0 _ L.2.2.1 rfl
theorem lx_B (L : LX E a) : E.1 (E.2 a 1) = some (0, 7, 0) := L.1.2.1 a 9 1 _ L.2.2.1 rfl
theorem lx_C (L : LX E a) : E.1 (E.2 a 2) = some (0, 0, 0) := L.1.2.1 a 9 2 _ L.2.2.1 rfl
theorem lx_D (L : LX E a) : E.1 (E.2 a 3) = some (0, 2, 0) := L.1.2.1 a 9 3 _ L.2.2.1 rfl
theorem lx_I (L : LX E a) : E.1 (E.2 a 5) = some (0, 3, 0) := L.1.2.1 a 9 5 _ L.2.2.1 rfl
theorem lx_R (L : LX E a) : E.1 (E.2 a 6) = some (0, 3, 0) := L.1.2.1 a 9 6 _ L.2.2.1 rfl
theorem lx_J (L : LX E a) : E.1 (E.2 a 7) = some (0, 4, 0) := L.1.2.1 a 9 7 _ L.2.2.1 rfl
theorem lx_K (L : LX E a) : E.1 (E.2 a 8) = some (0, 5, 0) := L.1.2.1 a 9 8 _ L.2.2.1 rfl
theorem lx_Dt (L : LX E a) {tab : Nat} (ht : E.1 tab = some (0, 3, 0)) : ∀ i, i < 100 → E.2 a 3 ≠ frA E tab i := fun i hi => fr_ne L.1 L.2.1 ht L.2.2.1 (show (ftab 9)[3]? = some (some (0, 2, 0)) from rfl) hi
theorem pt_dis (hE : WE E) (hI : Inj E) {t u : Nat} (ht : E.1 t = some (0, 3, 0)) (hu : E.1 u = some (0, 3, 0)) (h : t ≠ u) : ∀ q, PT E t q → ¬ PT E u q := by
  intro q h1 h2
  rcases h1 with h1 | h1 | ⟨i, hi, h1⟩
  · rcases h2 with h2 | h2 | ⟨j, hj, h2⟩
    · exact h (h1.symm.trans h2)
    · exact ne_ty ht (tb_z hE hu) (by decide) (h1.symm.trans h2)
    · rcases h2 with h2 | h2 | h2
      · exact ne_ty ht (tb_f hE hu hj) (by decide) (h1.symm.trans h2)
      · exact ne_ty ht (pf_t0 hE (tb_f hE hu hj)) (by decide) (h1.symm.trans h2)
      · exact ne_ty ht (pf_t1 hE (tb_f hE hu hj)) (by decide) (h1.symm.trans h2)
  · rcases h2 with h2 | h2 | ⟨j, hj, h2⟩
    · exact ne_ty (tb_z hE ht) hu (by decide) (h1.symm.trans h2)
    · exact arr_ne hE hI ht hu (show (ftab 3)[1]? = some (some (1, 1, 100)) from rfl) (show (ftab 3)[1]? = some (some (1, 1, 100)) from rfl) rfl rfl (fun e => h e.1) (h1.symm.trans h2)
    · rcases h2 with h2 | h2 | h2
      · exact ne_ty (tb_z hE ht) (tb_f hE hu hj) (by decide) (h1.symm.trans h2)
      · exact ne_ty (tb_z hE ht) (pf_t0 hE (tb_f hE hu hj)) (by decide) (h1.symm.trans h2)
      · exact ne_ty (tb_z hE ht) (pf_t1 hE (tb_f hE hu hj)) (by decide) (h1.symm.trans h2)
  · have o : ∀ {w : Nat}, E.1 w = some (0, 3, 0) → ∀ k, k < 100 → osl (E.1 (E.2 w 0)) k = true := fun hw k hk => by
      rw [tb_a hE hw]
      show (3 == 3 && decide (k < 100)) = true
      rw [decide_eq_true hk]; rfl
    have o2 : ∀ {w : Nat}, E.1 w = some (0, 3, 0) → osl (E.1 w) 0 = true := fun hw => by rw [hw]; rfl
    have nf : ∀ j, j < 100 → frA E t i ≠ frA E u j := fun j hj e => by
      have e1 := (hI _ i _ j (o ht i hi) (o hu j hj) e (hE.nz (tb_f hE ht hi))).1
      exact h (hI t 0 u 0 (o2 ht) (o2 hu) e1 (hE.nz (tb_a hE ht))).1
    exact pf_pt hE hI hu (tb_f hE ht hi) nf q h1 h2
theorem pn_ag {P : Nat → Prop} (L : LX E a) (v : S.1 (E.2 a 1) 11 = n32 (zP z).1 ∧ S.1 (E.2 a 1) 12 = n32 (psum (zP z).2 (zP z).1) ∧ ∀ k, k < (zP z).1 → S.2.1 (E.2 (E.2 a 1) 10) k = n32 ((zP z).2 k)) (h : Ag P S S') (n : NoP E P (E.2 a 1) 7) : S'.1 (E.2 a 1) 11 = n32 (zP z).1 ∧ S'.1 (E.2 a 1) 12 = n32 (psum (zP z).2 (zP z).1) ∧ ∀ k, k < (zP z).1 → S'.2.1 (E.2 (E.2 a 1) 10) k = n32 ((zP z).2 k) := by
  have a0 := h _ n.1
  have a1 := h _ (n.2 10 (1, 0, 6) rfl rfl)
  exact ⟨by rw [a0.1]; exact v.1, by rw [a0.1]; exact v.2.1, fun k hk => by rw [a1.2.1]; exact v.2.2 k hk⟩
theorem vx_ag {P : Nat → Prop} (L : LX E a) (v : VX E S a z) (h : Ag P S S') (n0 : NoP E P (E.2 a 0) 8) (n1 : NoP E P (E.2 a 1) 7) (n2 : NoP E P (E.2 a 2) 0) (na : ¬ P a) (nD : ∀ q, PF E (E.2 a 3) q → ¬ P q) (nI : ∀ q, PT E (E.2 a 5) q → ¬ P q) (nR : ∀ q, PT E (E.2 a 6) q → ¬ P q) : VX E S' a z := by
  have aa := h a na
  exact ⟨venv_ag v.1 h n0 n1 n2, pn_ag L v.2.1 h n1, ⟨vf_ag v.2.2.1.1 h nD, by rw [aa.1]; exact v.2.2.1.2⟩, vtb_ag v.2.2.2.1 h nI, vtb_ag v.2.2.2.2.1 h nR, by rw [aa.1]; exact v.2.2.2.2.2.1, by rw [aa.1]; exact v.2.2.2.2.2.2⟩
end VAG
