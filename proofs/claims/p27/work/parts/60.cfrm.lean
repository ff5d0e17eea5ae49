theorem c0n : (0 : Int32).toNatClampNeg = 0 := by decide
theorem c12n : (12 : Int32).toNatClampNeg = 12 := by decide
theorem pf_t0 {E : Ev} {f : Nat} (hE : WE E) (hf : E.1 f = some (0, 2, 0)) : E.1 (E.2 f 0) = some (1, 0, 12) := hE.2.1 f 2 0 _ hf rfl
theorem pf_t1 {E : Ev} {f : Nat} (hE : WE E) (hf : E.1 f = some (0, 2, 0)) : E.1 (E.2 f 1) = some (1, 0, 12) := hE.2.1 f 2 1 _ hf rfl
theorem pf_ar {E : Ev} {f g j i : Nat} (hE : WE E) (hI : Inj E) (hf : E.1 f = some (0, 2, 0)) (hg : E.1 g = some (0, 2, 0)) (hj : j < 2) (hi : i < 2) (h : ¬ (f = g ∧ j = i)) : E.2 f j ≠ E.2 g i := by
  have k : ∀ q, q < 2 → (ftab 2)[q]? = some (some (1, 0, 12)) := fun q hq => by
    have : q = 0 ∨ q = 1 := by omega
    rcases this with rfl | rfl <;> rfl
  exact arr_ne hE hI hf hg (k j hj) (k i hi) rfl rfl h
theorem pf_dis {E : Ev} {f g : Nat} (hE : WE E) (hI : Inj E) (hf : E.1 f = some (0, 2, 0)) (hg : E.1 g = some (0, 2, 0)) (h : f ≠ g) : ∀ q, PF E f q → ¬ PF E g q := by
  intro q h1 h2
  rcases h1 with h1 | h1 | h1 <;> rcases h2 with h2 | h2 | h2
  · exact h (h1.symm.trans h2)
  · exact ne_ty hf (pf_t0 hE hg) (by decide) (h1.symm.trans h2)
  · exact ne_ty hf (pf_t1 hE hg) (by decide) (h1.symm.trans h2)
  · exact ne_ty hg (pf_t0 hE hf) (by decide) (h2.symm.trans h1)
  · exact pf_ar hE hI hf hg (by decide) (by decide) (fun e => h e.1) (h1.symm.trans h2)
  · exact pf_ar hE hI hf hg (by decide) (by decide) (fun e => h e.1) (h1.symm.trans h2)
  · exact ne_ty hg (pf_t1 hE hf) (by decide) (h2.symm.trans h1)
  · exact pf_ar hE hI hf hg (by decide) (by decide) (fun e => h e.1) (h1.symm.trans h2)
  · exact pf_ar hE hI hf hg (by decide) (by decide) (fun e => h e.1) (h1.symm.trans h2)
theorem vf_ag {E : Ev} {S S' : St} {g : Nat} {x : Fr} {P : Nat → Prop} (v : VF E S g x) (h : Ag P S S') (hd : ∀ q, PF E g q → ¬ P q) : VF E S' g x := by
  have a0 := h g (hd g (Or.inl rfl))
  have a1 := h _ (hd _ (Or.inr (Or.inl rfl)))
  have a2 := h _ (hd _ (Or.inr (Or.inr rfl)))
  exact ⟨fun i hi => by rw [a1.2.1]; exact v.1 i hi, fun i hi => by rw [a2.2.1]; exact v.2.1 i hi, by rw [a0.1]; exact v.2.2.1, by rw [a0.1]; exact v.2.2.2⟩
theorem vf_eq {E : Ev} {S : St} {g : Nat} {x z : Fr} (v : VF E S g x) (h1 : ∀ i, i < 12 → x.1 i = z.1 i) (h2 : ∀ i, i < z.2.2.1 → x.2.1 i = z.2.1 i) (h3 : x.2.2 = z.2.2) : VF E S g z := ⟨fun i hi => (v.1 i hi).trans (h1 i hi), fun i hi => (v.2.1 i (by rw [h3]; exact hi)).trans (h2 i hi), by rw [← h3]; exact v.2.2.1, by rw [← h3]; exact v.2.2.2⟩
section FRC
variable {E : Ev} {S : St} {fu : Nat}
theorem f_clrL {f : Nat} (hE : WE E) (hI : Inj E) (hf : E.1 f = some (0, 2, 0)) {s : Nat → Int32} : ∀ (j q F : Nat) (S : St), q + j = 12 → j + 1 ≤ F → (∀ i, i < q → S.2.1 (E.2 f 0) i = -2) → ∃ S', lp_X3_clear_2 fu E f F (n32 q) S = some S' ∧ VF E S' f (fun _ => -2, s, 0, false) ∧ Ag (PF E f) S S' := by
  intro j
  induction j with
  | zero =>
    intro q F S hq hF h
    obtain ⟨F, rfl⟩ : ∃ z, F = z + 1 := ⟨F - 1, by omega⟩
    show ∃ S', bd_X3_clear_2 fu E f _ (n32 q) S = some S' ∧ _
    unfold bd_X3_clear_2 bnd
    rw [show (12 : Int32) = n32 12 from rfl, zi_le (by decide) (by omega), if_pos (by omega)]
    refine ⟨_, rfl, ⟨fun i hi => h i (by omega), fun i hi => absurd hi (Nat.not_lt_zero i), ?_, up2_s _ _⟩, Ag_trans (Ag_mono sF_ag (fun q z => Or.inl z)) (Ag_mono sF_ag (fun q z => Or.inl z))⟩
    exact (up2_n _ _ (fun e => by simp at e)).trans (up2_s _ _)
  | succ j ih =>
    intro q F S hq hF h
    obtain ⟨F, rfl⟩ : ∃ z, F = z + 1 := ⟨F - 1, by omega⟩
    show ∃ S', bd_X3_clear_2 fu E f (lp_X3_clear_2 fu E f F) (n32 q) S = some S' ∧ _
    unfold bd_X3_clear_2 bnd
    rw [show (12 : Int32) = n32 12 from rfl, zi_le (by decide) (by omega), if_neg (by omega), if_pos (by rw [z_inb (by omega)]; omega), z_nat (by omega), show n32 q + 1 = n32 (q + 1) from z_add q 1]
    obtain ⟨S', e, v, a⟩ := ih (q + 1) F (sG S (E.2 f 0) q (-2)) (by omega) (by omega) (fun i hi => by
      show up2 S.2.1 (E.2 f 0) q (-2) (E.2 f 0) i = -2
      by_cases e : i = q
      · rw [e, up2_s]
      · rw [up2_n _ _ (fun z => e z.2)]; exact h i (by omega))
    exact ⟨S', e, v, Ag_trans (Ag_mono sG_ag (fun q z => Or.inr (Or.inl z))) a⟩
theorem f_clear {f : Nat} (hfu : 200 ≤ fu) (hE : WE E) (hI : Inj E) (hf : E.1 f = some (0, 2, 0)) (s : Nat → Int32) : ∃ S', sp_X3_clear fu E S f = some S' ∧ VF E S' f (fun _ => -2, s, 0, false) ∧ Ag (PF E f) S S' := f_clrL hE hI hf 12 0 fu S rfl (by omega) (fun i hi => absurd hi (Nat.not_lt_zero i))
theorem sC_s {a0 a sp dp n : Nat} : (sC S a0 a sp dp n).2.1 a = va_cpy (S.2.1 a0) (S.2.1 a) sp dp n := if_pos rfl
theorem sC_n {a0 a q sp dp n : Nat} (h : q ≠ a) : (sC S a0 a sp dp n).2.1 q = S.2.1 q := if_neg h
theorem sC_ag {a0 a sp dp n : Nat} : Ag (fun q => q = a) S (sC S a0 a sp dp n) := fun _ hq => ⟨rfl, sC_n hq, rfl, rfl⟩
theorem f_copy {a b : Nat} {x : Fr} (hE : WE E) (hI : Inj E) (ha : E.1 a = some (0, 2, 0)) (hb : E.1 b = some (0, 2, 0)) (hab : a ≠ b) (v : VF E S b x) (h12 : x.2.2.1 ≤ 12) : ∃ S', sp_X3_copyFrom fu E S a b = some S' ∧ VF E S' a x ∧ Ag (PF E a) S S' := by
  unfold sp_X3_copyFrom bnd
  dsimp only
  rw [if_pos (by decide), if_pos (by decide), c0n, c12n]
  have n1 : E.2 a 0 ≠ E.2 a 1 := pf_ar hE hI ha ha (by decide) (by decide) (fun e => by simp at e)
  have n2 : E.2 b 1 ≠ E.2 a 0 := pf_ar hE hI hb ha (by decide) (by decide) (fun e => by simp at e)
  have e3 : ∀ z, (sF (sC (sC S (E.2 b 0) (E.2 a 0) 0 0 12) (E.2 b 1) (E.2 a 1) 0 0 12) a 2 z).1 b 3 = b2 x.2.2.2 := fun z => (up2_n _ _ (fun e => hab e.1.symm)).trans v.2.2.2
  have e2 : (sC (sC S (E.2 b 0) (E.2 a 0) 0 0 12) (E.2 b 1) (E.2 a 1) 0 0 12).1 b 2 = n32 x.2.2.1 := v.2.2.1
  rw [e2, e3, if_pos b2_isB]
  refine ⟨_, rfl, ⟨fun i hi => ?_, fun i hi => ?_, ?_, up2_s _ _⟩, Ag_trans (Ag_mono sC_ag (fun q z => Or.inr (Or.inl z))) (Ag_trans (Ag_mono sC_ag (fun q z => Or.inr (Or.inr z))) (Ag_trans (Ag_mono sF_ag (fun q z => Or.inl z)) (Ag_mono sF_ag (fun q z => Or.inl z))))⟩
  · show (sC (sC S (E.2 b 0) (E.2 a 0) 0 0 12) (E.2 b 1) (E.2 a 1) 0 0 12).2.1 (E.2 a 0) i = x.1 i
    rw [sC_n n1, sC_s, pk_cpy_in (Nat.zero_le _) (by omega), Nat.zero_add, Nat.sub_zero]
    exact v.1 i hi
  · show (sC (sC S (E.2 b 0) (E.2 a 0) 0 0 12) (E.2 b 1) (E.2 a 1) 0 0 12).2.1 (E.2 a 1) i = x.2.1 i
    rw [sC_s, pk_cpy_in (Nat.zero_le _) (by omega), Nat.zero_add, Nat.sub_zero, sC_n n2]
    exact v.2.1 i hi
  · exact (up2_n _ _ (fun e => by simp at e)).trans (up2_s _ _)
theorem f_caught {a b c : Nat} {x : Fr} (hE : WE E) (hI : Inj E) (ha : E.1 a = some (0, 2, 0)) (hb : E.1 b = some (0, 2, 0)) (hab : a ≠ b) (v : VF E S b x) (h12 : x.2.2.1 ≤ 12) : ∃ S', sp_X3_copyCaught fu E S a b (n32 c) = some S' ∧ VF E S' a (x.1, (fun _ => n32 (8 * c)), 1, x.2.2.2) ∧ Ag (PF E a) S S' := by
  obtain ⟨S1, e, v1, a1⟩ := f_copy (fu := fu) hE hI ha hb hab v h12
  unfold sp_X3_copyCaught bnd
  rw [e, Option.bind_some, c0n, show (8 : Int32) * n32 c = n32 (8 * c) from z_mul 8 c]
  have n1 : E.2 a 0 ≠ E.2 a 1 := pf_ar hE hI ha ha (by decide) (by decide) (fun e => by simp at e)
  refine ⟨_, rfl, ⟨fun i hi => (up2_n _ _ (fun e => n1 e.1)).trans (v1.1 i hi), fun i hi => ?_, up2_s _ _, (up2_n _ _ (fun e => by simp at e)).trans v1.2.2.2⟩, Ag_trans a1 (Ag_trans (Ag_mono sG_ag (fun q z => Or.inr (Or.inr z))) (Ag_mono sF_ag (fun q z => Or.inl z)))⟩
  have : i = 0 := by have : i < 1 := hi; omega
  rw [this]
  exact up2_s _ _
end FRC
def cntT (tb : Nat → Option Fr) : Nat → Nat
  | 0 => 0
  | k + 1 => cntT tb k + (if (tb k).isSome = true then 1 else 0)
def upT (tb : Nat → Option Fr) (i : Nat) (x : Fr) : Nat → Option Fr := fun j => if j = i then some x else tb j
def frA (E : Ev) (tab i : Nat) : Nat := E.2 (E.2 tab 0) i
def VTb (E : Ev) (S : St) (tab : Nat) (tb : Nat → Option Fr) : Prop := (∀ i, i < 100 → S.2.1 (E.2 tab 1) i = b2 (tb i).isSome) ∧ (∀ i x, i < 100 → tb i = some x → VF E S (frA E tab i) x ∧ x.2.2.1 ≤ 12) ∧ S.1 tab 2 = n32 (cntT tb 100)
def PT (E : Ev) (tab : Nat) : Nat → Prop := fun q => q = tab ∨ q = E.2 tab 1 ∨ ∃ i, i < 100 ∧ PF E (frA E tab i) q
theorem cntT_le {tb : Nat → Option Fr} : ∀ k, cntT tb k ≤ k
  | 0 => Nat.le_refl 0
  | k + 1 => by
    have := cntT_le (tb := tb) k
    show cntT tb k + _ ≤ k + 1
    split <;> omega
theorem cntT_congr {tb tb' : Nat → Option Fr} : ∀ k, (∀ i, i < k → (tb i).isSome = (tb' i).isSome) → cntT tb k = cntT tb' k
  | 0, _ => rfl
  | k + 1, h => by
    show cntT tb k + (if (tb k).isSome = true then 1 else 0) = cntT tb' k + (if (tb' k).isSome = true then 1 else 0)
    rw [cntT_congr k (fun i hi => h i (by omega)), h k (by omega)]
theorem cntT_none : ∀ k, cntT (fun _ => none) k = 0
  | 0 => rfl
  | k + 1 => by
    show cntT (fun _ => none) k + 0 = 0
    rw [cntT_none k]
theorem cntT_up {tb : Nat → Option Fr} {x : Fr} {i : Nat} : ∀ k, i < k → cntT (upT tb i x) k = cntT tb k + (if (tb i).isSome = true then 0 else 1)
  | 0, h => absurd h (Nat.not_lt_zero _)
  | k + 1, h => by
    show cntT (upT tb i x) k + (if (upT tb i x k).isSome = true then 1 else 0) = cntT tb k + (if (tb k).isSome = true then 1 else 0) + (if (tb i).isSome = true then 0 else 1)
    by_cases e : k = i
    · subst e
      have e1 : upT tb k x k = some x := if_pos rfl
      rw [e1, cntT_congr (tb' := tb) k (fun j hj => by unfold upT; rw [if_neg (by omega)])]
      cases (tb k).isSome <;> simp
    · have e1 : upT tb i x k = tb k := if_neg e
      rw [e1, cntT_up k (by omega)]
      omega
section TBC
variable {E : Ev} {S : St} {fu tab : Nat}
theorem tb_a (hE : WE E) (ht : E.1 tab = some (0, 3, 0)) : E.1 (E.2 tab 0) = some (1, 3, 100) := hE.2.1 tab 3 0 _ ht rfl
theorem tb_z (hE : WE E) (ht : E.1 tab = some (0, 3, 0)) : E.1 (E.2 tab 1) = some (1, 1, 100) := hE.2.1 tab 3 1 _ ht rfl
theorem tb_f (hE : WE E) (ht : E.1 tab = some (0, 3, 0)) {i : Nat} (hi : i < 100) : E.1 (frA E tab i) = some (0, 2, 0) := hE.2.2 _ 100 i (tb_a hE ht) hi
theorem tb_ne (hE : WE E) (hI : Inj E) (ht : E.1 tab = some (0, 3, 0)) {i j : Nat} (hi : i < 100) (hj : j < 100) (h : i ≠ j) : frA E tab i ≠ frA E tab j := by
  intro e
  have o : ∀ k, k < 100 → osl (E.1 (E.2 tab 0)) k = true := fun k hk => by
    rw [tb_a hE ht]
    show (3 == 3 && decide (k < 100)) = true
    rw [decide_eq_true hk]; rfl
  exact h (hI _ i _ j (o i hi) (o j hj) e (hE.nz (tb_f hE ht hi))).2
theorem fr_ne (hE : WE E) (hI : Inj E) (ht : E.1 tab = some (0, 3, 0)) {a ca j i : Nat} (ha : E.1 a = some (0, ca, 0)) (hu : (ftab ca)[j]? = some (some (0, 2, 0))) (hi : i < 100) : E.2 a j ≠ frA E tab i := by
  intro e
  have o : osl (E.1 (E.2 tab 0)) i = true := by
    rw [tb_a hE ht]
    show (3 == 3 && decide (i < 100)) = true
    rw [decide_eq_true hi]; rfl
  have o2 : osl (E.1 a) j = true := by rw [ha, osl_o hu]; rfl
  have := (hI a j _ i o2 o e (hE.nz (hE.2.1 a ca j _ ha hu))).1
  exact ne_ty ha (tb_a hE ht) (by simp) this
theorem fr_ne2 (hE : WE E) (hI : Inj E) {a ca j b cb i : Nat} (ha : E.1 a = some (0, ca, 0)) (hu : (ftab ca)[j]? = some (some (0, 2, 0))) (hb : E.1 b = some (0, cb, 0)) (hw : (ftab cb)[i]? = some (some (0, 2, 0))) (h : ¬ (a = b ∧ j = i)) : E.2 a j ≠ E.2 b i := by
  intro e
  have o1 : osl (E.1 a) j = true := by rw [ha, osl_o hu]; rfl
  have o2 : osl (E.1 b) i = true := by rw [hb, osl_o hw]; rfl
  exact h (hI a j b i o1 o2 e (hE.nz (hE.2.1 a ca j _ ha hu)))
theorem pf_pt (hE : WE E) (hI : Inj E) (ht : E.1 tab = some (0, 3, 0)) {f : Nat} (hf : E.1 f = some (0, 2, 0)) (h : ∀ i, i < 100 → f ≠ frA E tab i) : ∀ q, PF E f q → ¬ PT E tab q := by
  intro q h1 h2
  rcases h2 with h2 | h2 | ⟨i, hi, h2⟩
  · rcases h1 with h1 | h1 | h1
    · exact ne_ty hf ht (by decide) (h1.symm.trans h2)
    · exact ne_ty (pf_t0 hE hf) ht (by decide) (h1.symm.trans h2)
    · exact ne_ty (pf_t1 hE hf) ht (by decide) (h1.symm.trans h2)
  · rcases h1 with h1 | h1 | h1
    · exact ne_ty hf (tb_z hE ht) (by decide) (h1.symm.trans h2)
    · exact ne_ty (pf_t0 hE hf) (tb_z hE ht) (by decide) (h1.symm.trans h2)
    · exact ne_ty (pf_t1 hE hf) (tb_z hE ht) (by decide) (h1.symm.trans h2)
  · exact pf_dis hE hI hf (tb_f hE ht hi) (h i hi) q h1 h2
theorem vtb_ag {S' : St} {tb : Nat → Option Fr} {P : Nat → Prop} (v : VTb E S tab tb) (h : Ag P S S') (hd : ∀ q, PT E tab q → ¬ P q) : VTb E S' tab tb := by
  have a0 := h tab (hd tab (Or.inl rfl))
  have a1 := h _ (hd _ (Or.inr (Or.inl rfl)))
  exact ⟨fun i hi => by rw [a1.2.1]; exact v.1 i hi, fun i x hi hx => ⟨vf_ag (v.2.1 i x hi hx).1 h (fun q hq => hd q (Or.inr (Or.inr ⟨i, hi, hq⟩))), (v.2.1 i x hi hx).2⟩, by rw [a0.1]; exact v.2.2⟩
theorem t_clrL (ht : E.1 tab = some (0, 3, 0)) : ∀ (j q F : Nat) (S : St), q + j = 100 → j + 1 ≤ F → (∀ i, i < q → S.2.1 (E.2 tab 1) i = 0) → ∃ S', lp_X4_clear_2 fu E tab F (n32 q) S = some S' ∧ VTb E S' tab (fun _ => none) ∧ Ag (PT E tab) S S' := by
  intro j
  induction j with
  | zero =>
    intro q F S hq hF h
    obtain ⟨F, rfl⟩ : ∃ z, F = z + 1 := ⟨F - 1, by omega⟩
    show ∃ S', bd_X4_clear_2 fu E tab _ (n32 q) S = some S' ∧ _
    unfold bd_X4_clear_2 bnd
    rw [show (100 : Int32) = n32 100 from rfl, zi_le (by decide) (by omega), if_pos (by omega)]
    refine ⟨_, rfl, ⟨fun i hi => h i (by omega), fun i x _ hx => (by cases hx), ?_⟩, Ag_mono sF_ag (fun q z => Or.inl z)⟩
    rw [cntT_none]
    exact up2_s _ _
  | succ j ih =>
    intro q F S hq hF h
    obtain ⟨F, rfl⟩ : ∃ z, F = z + 1 := ⟨F - 1, by omega⟩
    show ∃ S', bd_X4_clear_2 fu E tab (lp_X4_clear_2 fu E tab F) (n32 q) S = some S' ∧ _
    unfold bd_X4_clear_2 bnd
    rw [show (100 : Int32) = n32 100 from rfl, zi_le (by decide) (by omega), if_neg (by omega), if_pos (by rw [z_inb (by omega)]; omega), z_nat (by omega), show n32 q + 1 = n32 (q + 1) from z_add q 1]
    obtain ⟨S', e, v, a⟩ := ih (q + 1) F (sG S (E.2 tab 1) q 0) (by omega) (by omega) (fun i hi => by
      show up2 S.2.1 (E.2 tab 1) q 0 (E.2 tab 1) i = 0
      by_cases e : i = q
      · rw [e, up2_s]
      · rw [up2_n _ _ (fun z => e z.2)]; exact h i (by omega))
    exact ⟨S', e, v, Ag_trans (Ag_mono sG_ag (fun q z => Or.inr (Or.inl z))) a⟩
theorem t_clear (hfu : 200 ≤ fu) (ht : E.1 tab = some (0, 3, 0)) : ∃ S', sp_X4_clear fu E S tab = some S' ∧ VTb E S' tab (fun _ => none) ∧ Ag (PT E tab) S S' := t_clrL ht 100 0 fu S rfl (by omega) (fun i hi => absurd hi (Nat.not_lt_zero i))
theorem t_has {tb : Nat → Option Fr} (v : VTb E S tab tb) {i : Nat} (hi : i < 100) : sp_X4_contains fu E S tab (n32 i) = some (b2 (tb i).isSome, S) := by
  unfold sp_X4_contains
  rw [if_pos (by rw [z_inb (by omega)]; exact hi), z_nat (by omega), v.1 i hi, if_pos b2_isB]
theorem t_put {tb : Nat → Option Fr} {a i : Nat} {x : Fr} (hE : WE E) (hI : Inj E) (ht : E.1 tab = some (0, 3, 0)) (v : VTb E S tab tb) (hi : i < 100) (ha : E.1 a = some (0, 2, 0)) (hn : ∀ j, j < 100 → a ≠ frA E tab j) (va : VF E S a x) (h12 : x.2.2.1 ≤ 12) : ∃ S', sp_X4_put fu E S tab (n32 i) a = some S' ∧ VTb E S' tab (upT tb i x) ∧ Ag (PT E tab) S S' := by
  have hin : inb (n32 i) 100 = true := by rw [z_inb (by omega)]; exact hi
  have hfi := tb_f hE ht hi
  have c100 := cntT_le (tb := tb) 100
  -- behind the count: the frame is copied
  have fin : ∀ S1 : St, Ag (fun q => q = tab ∨ q = E.2 tab 1) S S1 → (∀ j, j < 100 → S1.2.1 (E.2 tab 1) j = b2 (upT tb i x j).isSome) → S1.1 tab 2 = n32 (cntT (upT tb i x) 100) → ∃ S', sp_X3_copyFrom fu E S1 (E.2 (E.2 tab 0) i) a = some S' ∧ VTb E S' tab (upT tb i x) ∧ Ag (PT E tab) S S' := by
    intro S1 a1 h1 h2
    have va1 : VF E S1 a x := vf_ag va a1 (fun q hq z => pf_pt hE hI ht ha hn q hq (z.elim Or.inl (fun w => Or.inr (Or.inl w))))
    obtain ⟨S', e, v', a'⟩ := f_copy (fu := fu) hE hI hfi ha (fun w => hn i hi w.symm) va1 h12
    have nt : ¬ PF E (frA E tab i) tab := fun z => by
      rcases z with z | z | z
      · exact ne_ty ht hfi (by decide) z
      · exact ne_ty ht (pf_t0 hE hfi) (by decide) z
      · exact ne_ty ht (pf_t1 hE hfi) (by decide) z
    have nz : ¬ PF E (frA E tab i) (E.2 tab 1) := fun z => by
      rcases z with z | z | z
      · exact ne_ty (tb_z hE ht) hfi (by decide) z
      · exact ne_ty (tb_z hE ht) (pf_t0 hE hfi) (by decide) z
      · exact ne_ty (tb_z hE ht) (pf_t1 hE hfi) (by decide) z
    refine ⟨S', e, ⟨fun j hj => by rw [(a' _ nz).2.1]; exact h1 j hj, fun j y hj hy => ?_, by rw [(a' _ nt).1]; exact h2⟩, Ag_trans (Ag_mono a1 (fun q z => z.elim Or.inl (fun w => Or.inr (Or.inl w)))) (Ag_mono a' (fun q z => Or.inr (Or.inr ⟨i, hi, z⟩)))⟩
    by_cases e : j = i
    · subst e
      have : upT tb j x j = some x := if_pos rfl
      rw [this] at hy
      cases hy
      exact ⟨v', h12⟩
    · have : upT tb i x j = tb j := if_neg e
      rw [this] at hy
      have vj := v.2.1 j y hj hy
      have d : ∀ q, PF E (frA E tab j) q → ¬ (q = tab ∨ q = E.2 tab 1) := fun q hq z => by
        rcases z with z | z
        · rcases hq with w | w | w
          · exact ne_ty (tb_f hE ht hj) ht (by decide) (w.symm.trans z)
          · exact ne_ty (pf_t0 hE (tb_f hE ht hj)) ht (by decide) (w.symm.trans z)
          · exact ne_ty (pf_t1 hE (tb_f hE ht hj)) ht (by decide) (w.symm.trans z)
        · rcases hq with w | w | w
          · exact ne_ty (tb_f hE ht hj) (tb_z hE ht) (by decide) (w.symm.trans z)
          · exact ne_ty (pf_t0 hE (tb_f hE ht hj)) (tb_z hE ht) (by decide) (w.symm.trans z)
          · exact ne_ty (pf_t1 hE (tb_f hE ht hj)) (tb_z hE ht) (by decide) (w.symm.trans z)
      exact ⟨vf_ag (vf_ag vj.1 a1 d) a' (pf_dis hE hI (tb_f hE ht hj) hfi (tb_ne hE hI ht hj hi e)), vj.2⟩
  unfold sp_X4_put bnd
  dsimp only
  rw [if_pos hin, z_nat (by omega), v.1 i hi, b2_if, if_pos hin, if_pos hin, if_pos hin]
  have up_i : ∀ j, (upT tb i x j).isSome = (if j = i then true else (tb j).isSome) := fun j => by
    unfold upT
    split <;> rfl
  cases hs : (tb i).isSome with
  | true =>
    rw [if_pos rfl]
    obtain ⟨S', e, r⟩ := fin S Ag_refl (fun j hj => by
      rw [v.1 j hj, up_i]
      by_cases e : j = i
      · rw [if_pos e, e, hs]
      · rw [if_neg e]) (by rw [cntT_up 100 hi, hs, if_pos rfl, Nat.add_zero]; exact v.2.2)
    exact ⟨S', by rw [e, Option.bind_some], r⟩
  | false =>
    rw [if_neg (by decide)]
    have nt : tab ≠ E.2 tab 1 := ne_ty ht (tb_z hE ht) (by decide)
    have e2 : (sG S (E.2 tab 1) i 1).1 tab 2 = n32 (cntT tb 100) := v.2.2
    rw [e2, show n32 (cntT tb 100) + 1 = n32 (cntT tb 100 + 1) from z_add _ 1]
    obtain ⟨S', e, r⟩ := fin (sF (sG S (E.2 tab 1) i 1) tab 2 (n32 (cntT tb 100 + 1))) (Ag_trans (Ag_mono sG_ag (fun q z => Or.inr z)) (Ag_mono sF_ag (fun q z => Or.inl z))) (fun j hj => by
      show up2 S.2.1 (E.2 tab 1) i 1 (E.2 tab 1) j = _
      rw [up_i]
      by_cases e : j = i
      · rw [if_pos e, e, up2_s]; rfl
      · rw [if_neg e, up2_n _ _ (fun z => e z.2)]; exact v.1 j hj) (by rw [cntT_up 100 hi, hs, if_neg (by decide)]; exact up2_s _ _)
    exact ⟨S', by rw [e, Option.bind_some], r⟩
end TBC
