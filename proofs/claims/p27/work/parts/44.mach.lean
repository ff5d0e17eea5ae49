def VMb (E : Ev) (S : St) (B : Nat) (b : Mb) : Prop := S.1 B 2 = n32 (fcnt b) ∧ S.1 B 9 = n32 (mcnt b) ∧ (∀ i, i < fcnt b → S.2.1 (E.2 B 0) i = n32 (fown b i) ∧ S.2.1 (E.2 B 1) i = n32 (ftyp b i)) ∧ ∀ m, m < mcnt b → S.2.1 (E.2 B 3) m = n32 (mown b m) ∧ S.2.1 (E.2 B 4) m = n32 (mkin b m) ∧ S.2.1 (E.2 B 5) m = mres b m ∧ S.2.1 (E.2 B 6) m = n32 (mpcn b m) ∧ S.2.1 (E.2 B 7) m = n32 (mslo b m) ∧ ∀ k, k < mpcn b m → S.2.1 (E.2 B 8) (6 * m + k) = n32 (mpty b m k)
def VCd (E : Ev) (S : St) (C : Nat) (c : Cd) : Prop := S.1 C 0 = b2 (cst c) ∧ S.1 C 1 = n32 (cme c) ∧ S.1 C 2 = n32 (cmost c) ∧ S.1 C 3 = n32 (cloc c) ∧ S.1 C 6 = n32 (cn c) ∧ S.1 C 11 = n32 (chn c) ∧ (∀ i, i < cn c → S.2.1 (E.2 C 4) i = n32 (cop c i) ∧ S.2.1 (E.2 C 5) i = cx c i) ∧ ∀ h, h < chn c → S.2.1 (E.2 C 7) h = chs c h ∧ S.2.1 (E.2 C 8) h = che c h ∧ S.2.1 (E.2 C 9) h = cht c h ∧ S.2.1 (E.2 C 10) h = n32 (chc c h)
def VEnv (E : Ev) (S : St) (T B C : Nat) (A : Enw) : Prop := VT E S T A.1 ∧ VMb E S B A.2.1 ∧ VCd E S C A.2.2
def Ag (P : Nat → Prop) (S S' : St) : Prop := ∀ q, ¬ P q → sameS S' S q
theorem Ag_refl {P : Nat → Prop} {S : St} : Ag P S S := fun q _ => sameS_refl S q
theorem Ag_trans {P : Nat → Prop} {S1 S2 S3 : St} (h : Ag P S1 S2) (g : Ag P S2 S3) : Ag P S1 S3 := fun q hq => sameS_trans (g q hq) (h q hq)
theorem Ag_mono {P P' : Nat → Prop} {S1 S2 : St} (h : Ag P S1 S2) (g : ∀ q, P q → P' q) : Ag P' S1 S2 := fun q hq => h q (fun z => hq (g q z))
def NoP (E : Ev) (P : Nat → Prop) (a ci : Nat) : Prop := ¬ P a ∧ ∀ j u, (ftab ci)[j]? = some (some u) → u.1 = 1 → ¬ P (E.2 a j)
theorem vt_ag {E : Ev} {S S' : St} {T : Nat} {d : Dcl} {P : Nat → Prop} (v : VT E S T d) (h : Ag P S S') (n : NoP E P T 8) : VT E S' T d := by
  have a0 := h T n.1
  have a1 := h _ (n.2 0 (1, 0, 20) rfl rfl)
  have a2 := h _ (n.2 1 (1, 1, 20) rfl rfl)
  exact ⟨by rw [a0.1]; exact v.1, fun b hb => by rw [a1.2.1]; exact v.2.1 b hb, fun b hb hb2 => by rw [a1.2.1]; exact v.2.2.1 b hb hb2, fun b hb => by rw [a2.2.1]; exact v.2.2.2 b hb⟩
theorem vmb_ag {E : Ev} {S S' : St} {B : Nat} {b : Mb} {P : Nat → Prop} (v : VMb E S B b) (h : Ag P S S') (n : NoP E P B 7) : VMb E S' B b := by
  have a0 := h B n.1
  have a1 := h _ (n.2 0 (1, 0, 30) rfl rfl)
  have a2 := h _ (n.2 1 (1, 0, 30) rfl rfl)
  have a3 := h _ (n.2 3 (1, 0, 30) rfl rfl)
  have a4 := h _ (n.2 4 (1, 0, 30) rfl rfl)
  have a5 := h _ (n.2 5 (1, 0, 30) rfl rfl)
  have a6 := h _ (n.2 6 (1, 0, 30) rfl rfl)
  have a7 := h _ (n.2 7 (1, 0, 30) rfl rfl)
  have a8 := h _ (n.2 8 (1, 0, 180) rfl rfl)
  refine ⟨by rw [a0.1]; exact v.1, by rw [a0.1]; exact v.2.1, fun i hi => ?_, fun m hm => ?_⟩
  · rw [a1.2.1, a2.2.1]; exact v.2.2.1 i hi
  · rw [a3.2.1, a4.2.1, a5.2.1, a6.2.1, a7.2.1, a8.2.1]; exact v.2.2.2 m hm
theorem vcd_ag {E : Ev} {S S' : St} {C : Nat} {c : Cd} {P : Nat → Prop} (v : VCd E S C c) (h : Ag P S S') (n : NoP E P C 0) : VCd E S' C c := by
  have a0 := h C n.1
  have a4 := h _ (n.2 4 (1, 0, 100) rfl rfl)
  have a5 := h _ (n.2 5 (1, 0, 100) rfl rfl)
  have a7 := h _ (n.2 7 (1, 0, 10) rfl rfl)
  have a8 := h _ (n.2 8 (1, 0, 10) rfl rfl)
  have a9 := h _ (n.2 9 (1, 0, 10) rfl rfl)
  have a10 := h _ (n.2 10 (1, 0, 10) rfl rfl)
  obtain ⟨v0, v1, v2, v3, v6, v11, vi, vh⟩ := v
  refine ⟨by rw [a0.1]; exact v0, by rw [a0.1]; exact v1, by rw [a0.1]; exact v2, by rw [a0.1]; exact v3, by rw [a0.1]; exact v6, by rw [a0.1]; exact v11, fun i hi => ?_, fun k hk => ?_⟩
  · rw [a4.2.1, a5.2.1]; exact vi i hi
  · rw [a7.2.1, a8.2.1, a9.2.1, a10.2.1]; exact vh k hk
theorem venv_ag {E : Ev} {S S' : St} {T B C : Nat} {A : Enw} {P : Nat → Prop} (v : VEnv E S T B C A) (h : Ag P S S') (n1 : NoP E P T 8) (n2 : NoP E P B 7) (n3 : NoP E P C 0) : VEnv E S' T B C A := ⟨vt_ag v.1 h n1, vmb_ag v.2.1 h n2, vcd_ag v.2.2 h n3⟩
theorem arr_ne {E : Ev} (hE : WE E) (hI : Inj E) {a b ca cb j i : Nat} {u w : Tp} (ha : E.1 a = some (0, ca, 0)) (hb : E.1 b = some (0, cb, 0)) (hu : (ftab ca)[j]? = some (some u)) (hw : (ftab cb)[i]? = some (some w)) (u1 : u.1 = 1) (w1 : w.1 = 1) (h : ¬ (a = b ∧ j = i)) : E.2 a j ≠ E.2 b i := by
  intro e
  refine h (hI a j b i ?_ ?_ e (hE.nz (hE.2.1 a ca j u ha hu)))
  · rw [ha, osl_o hu, u1]; rfl
  · rw [hb, osl_o hw, w1]; rfl
def PF (E : Ev) (f : Nat) : Nat → Prop := fun q => q = f ∨ q = E.2 f 0 ∨ q = E.2 f 1
def PM (E : Ev) (M f : Nat) : Nat → Prop := fun q => q = M ∨ PF E f q
def VF (E : Ev) (S : St) (f : Nat) (x : Fr) : Prop := (∀ i, i < 12 → S.2.1 (E.2 f 0) i = x.1 i) ∧ (∀ i, i < x.2.2.1 → S.2.1 (E.2 f 1) i = x.2.1 i) ∧ S.1 f 2 = n32 x.2.2.1 ∧ S.1 f 3 = b2 x.2.2.2
def LM (E : Ev) (M f : Nat) : Prop := WE E ∧ Inj E ∧ E.1 M = some (0, 6, 0) ∧ E.1 f = some (0, 2, 0)
theorem nop_PF {E : Ev} {f a ci : Nat} (hE : WE E) (hI : Inj E) (hf : E.1 f = some (0, 2, 0)) (ha : E.1 a = some (0, ci, 0)) (hc : ci ≠ 2) : NoP E (PF E f) a ci := by
  have t0 : E.1 (E.2 f 0) = some (1, 0, 12) := hE.2.1 f 2 0 _ hf rfl
  have t1 : E.1 (E.2 f 1) = some (1, 0, 12) := hE.2.1 f 2 1 _ hf rfl
  have haf : a ≠ f := ne_ty ha hf (by simp [hc])
  refine ⟨fun h => ?_, fun j u hu h1 h => ?_⟩
  · rcases h with h | h | h
    · exact haf h
    · exact ne_ty ha t0 (by simp) h
    · exact ne_ty ha t1 (by simp) h
  · have tj := hE.2.1 a ci j u ha hu
    rcases h with h | h | h
    · refine ne_ty tj hf ?_ h
      intro e; rw [e] at h1; cases h1
    · exact arr_ne hE hI ha hf hu (show (ftab 2)[0]? = some (some (1, 0, 12)) from rfl) h1 rfl (fun e => haf e.1) h
    · exact arr_ne hE hI ha hf hu (show (ftab 2)[1]? = some (some (1, 0, 12)) from rfl) h1 rfl (fun e => haf e.1) h
theorem nop_one {E : Ev} {M a ci cm : Nat} (hE : WE E) (hM : E.1 M = some (0, cm, 0)) (ha : E.1 a = some (0, ci, 0)) (hc : ci ≠ cm) : NoP E (fun q => q = M) a ci := by
  refine ⟨ne_ty ha hM (by simp [hc]), fun j u hu h1 h => ?_⟩
  refine ne_ty (hE.2.1 a ci j u ha hu) hM ?_ h
  intro e; rw [e] at h1; cases h1
theorem nop_or {E : Ev} {P Q : Nat → Prop} {a ci : Nat} (h : NoP E P a ci) (g : NoP E Q a ci) : NoP E (fun q => P q ∨ Q q) a ci := ⟨fun z => z.elim h.1 g.1, fun j u hu h1 z => z.elim (h.2 j u hu h1) (g.2 j u hu h1)⟩
def VM (E : Ev) (S : St) (M f : Nat) (A : Enw) (y : Ms) : Prop := VEnv E S (E.2 M 0) (E.2 M 1) (E.2 M 2) A ∧ S.2.2.1 M 3 = f ∧ S.1 M 4 = y.2 ∧ VF E S f y.1 ∧ WFr A.1 y.1
section MA
variable {E : Ev} {M f fu : Nat} {A : Enw}
theorem LM.T (L : LM E M f) : E.1 (E.2 M 0) = some (0, 8, 0) := L.1.2.1 M 6 0 _ L.2.2.1 rfl
theorem LM.B (L : LM E M f) : E.1 (E.2 M 1) = some (0, 7, 0) := L.1.2.1 M 6 1 _ L.2.2.1 rfl
theorem LM.C (L : LM E M f) : E.1 (E.2 M 2) = some (0, 0, 0) := L.1.2.1 M 6 2 _ L.2.2.1 rfl
theorem LM.ne (L : LM E M f) : f ≠ M := ne_ty L.2.2.2 L.2.2.1 (by decide)
theorem LM.t0 (L : LM E M f) : E.1 (E.2 f 0) = some (1, 0, 12) := L.1.2.1 f 2 0 _ L.2.2.2 rfl
theorem LM.t1 (L : LM E M f) : E.1 (E.2 f 1) = some (1, 0, 12) := L.1.2.1 f 2 1 _ L.2.2.2 rfl
theorem LM.a01 (L : LM E M f) : E.2 f 0 ≠ E.2 f 1 := arr_ne L.1 L.2.1 L.2.2.2 L.2.2.2 (show (ftab 2)[0]? = some (some (1, 0, 12)) from rfl) (show (ftab 2)[1]? = some (some (1, 0, 12)) from rfl) rfl rfl (fun e => by simp at e)
theorem vm_env {S S' : St} {y : Ms} (L : LM E M f) (v : VM E S M f A y) (h : Ag (PM E M f) S S') : VEnv E S' (E.2 M 0) (E.2 M 1) (E.2 M 2) A := by
  have n : ∀ a ci, E.1 a = some (0, ci, 0) → ci ≠ 2 → ci ≠ 6 → NoP E (PM E M f) a ci := fun a ci ha h2 h6 => nop_or (nop_one L.1 L.2.2.1 ha h6) (nop_PF L.1 L.2.1 L.2.2.2 ha h2)
  exact venv_ag v.1 h (n _ 8 L.T (by decide) (by decide)) (n _ 7 L.B (by decide) (by decide)) (n _ 0 L.C (by decide) (by decide))
theorem sF_ag {S : St} {a j : Nat} {x : Int32} : Ag (fun q => q = a) S (sF S a j x) := fun q hq => ⟨by funext i; exact up2_n _ _ (fun e => hq e.1), rfl, rfl, rfl⟩
theorem sG_ag {S : St} {a j : Nat} {x : Int32} : Ag (fun q => q = a) S (sG S a j x) := fun q hq => ⟨rfl, by funext i; exact up2_n _ _ (fun e => hq e.1), rfl, rfl⟩
theorem sR_ag {S : St} {a j b : Nat} : Ag (fun q => q = a) S (sR S a j b) := fun q hq => ⟨rfl, rfl, by funext i; exact up2_n _ _ (fun e => hq e.1), rfl⟩
theorem vm_err {S : St} {y : Ms} {k : Int32} (L : LM E M f) (v : VM E S M f A y) : VM E (sF S M 4 k) M f A (y.1, k) ∧ Ag (PM E M f) S (sF S M 4 k) := by
  have ag : Ag (PM E M f) S (sF S M 4 k) := Ag_mono sF_ag (fun q h => Or.inl h)
  refine ⟨⟨vm_env L v ag, v.2.1, up2_s _ _, ⟨v.2.2.2.1.1, v.2.2.2.1.2.1, ?_, ?_⟩, v.2.2.2.2⟩, ag⟩
  · exact (up2_n _ _ (fun e => L.ne e.1)).trans v.2.2.2.1.2.2.1
  · exact (up2_n _ _ (fun e => L.ne e.1)).trans v.2.2.2.1.2.2.2
theorem vm_fr {S S' : St} {y : Ms} {x : Fr} (L : LM E M f) (v : VM E S M f A y) (h : Ag (PF E f) S S') (hv : VF E S' f x) (hw : WFr A.1 x) : VM E S' M f A (x, y.2) ∧ Ag (PM E M f) S S' := by
  have ag : Ag (PM E M f) S S' := Ag_mono h (fun q h => Or.inr h)
  have hM : ¬ PF E f M := fun h => by
    rcases h with h | h | h
    · exact L.ne h.symm
    · exact ne_ty L.2.2.1 L.t0 (by decide) h
    · exact ne_ty L.2.2.1 L.t1 (by decide) h
  have s := h M hM
  exact ⟨⟨vm_env L v ag, by rw [s.2.2.1]; exact v.2.1, by rw [s.1]; exact v.2.2.1, hv, hw⟩, ag⟩
def Hv (E : Ev) (M f : Nat) (A : Enw) (S : St) (o : Option St) (y : Ms) : Prop := ∃ S', o = some S' ∧ VM E S' M f A y ∧ Ag (PM E M f) S S'
def Hw (E : Ev) (M f : Nat) (A : Enw) (S : St) (o : Option (Int32 × St)) (r : Int32) (y : Ms) : Prop := ∃ S', o = some (r, S') ∧ VM E S' M f A y ∧ Ag (PM E M f) S S'
theorem hv_some {S : St} {y : Ms} (v : VM E S M f A y) : Hv E M f A S (some S) y := ⟨S, rfl, v, Ag_refl⟩
theorem hw_some {S : St} {y : Ms} {r : Int32} (v : VM E S M f A y) : Hw E M f A S (some (r, S)) r y := ⟨S, rfl, v, Ag_refl⟩
theorem hv_bind {S : St} {o : Option St} {g : St → Option St} {y1 y2 : Ms} (h : Hv E M f A S o y1) (k : ∀ S1, VM E S1 M f A y1 → Hv E M f A S1 (g S1) y2) : Hv E M f A S (o.bind g) y2 := by
  obtain ⟨S1, rfl, v1, a1⟩ := h
  obtain ⟨S2, e2, v2, a2⟩ := k S1 v1
  exact ⟨S2, e2, v2, Ag_trans a1 a2⟩
theorem hw_bind {S : St} {o : Option (Int32 × St)} {g : Int32 × St → Option St} {r : Int32} {y1 y2 : Ms} (h : Hw E M f A S o r y1) (k : ∀ S1, VM E S1 M f A y1 → Hv E M f A S1 (g (r, S1)) y2) : Hv E M f A S (o.bind g) y2 := by
  obtain ⟨S1, rfl, v1, a1⟩ := h
  obtain ⟨S2, e2, v2, a2⟩ := k S1 v1
  exact ⟨S2, e2, v2, Ag_trans a1 a2⟩
theorem hv_bindw {S : St} {o : Option St} {g : St → Option (Int32 × St)} {r : Int32} {y1 y2 : Ms} (h : Hv E M f A S o y1) (k : ∀ S1, VM E S1 M f A y1 → Hw E M f A S1 (g S1) r y2) : Hw E M f A S (o.bind g) r y2 := by
  obtain ⟨S1, rfl, v1, a1⟩ := h
  obtain ⟨S2, e2, v2, a2⟩ := k S1 v1
  exact ⟨S2, e2, v2, Ag_trans a1 a2⟩
theorem hw_bindw {S : St} {o : Option (Int32 × St)} {g : Int32 × St → Option (Int32 × St)} {r r2 : Int32} {y1 y2 : Ms} (h : Hw E M f A S o r y1) (k : ∀ S1, VM E S1 M f A y1 → Hw E M f A S1 (g (r, S1)) r2 y2) : Hw E M f A S (o.bind g) r2 y2 := by
  obtain ⟨S1, rfl, v1, a1⟩ := h
  obtain ⟨S2, e2, v2, a2⟩ := k S1 v1
  exact ⟨S2, e2, v2, Ag_trans a1 a2⟩
theorem hv_eq {S : St} {o : Option St} {y y' : Ms} (h : Hv E M f A S o y) (e : y = y') : Hv E M f A S o y' := e ▸ h
theorem m_req {S : St} {y : Ms} (L : LM E M f) (v : VM E S M f A y) (c : Bool) (k : Int32) : Hv E M f A S (sp_X7_require fu E S M (b2 c) k) (aReq c k y) := by
  unfold sp_X7_require aReq bnd
  rw [v.2.2.1]
  by_cases h : y.2 = 0
  · rw [if_pos h, bi_0]
    cases c with
    | false =>
      rw [if_pos rfl, if_pos ⟨h, rfl⟩]
      exact ⟨_, rfl, vm_err L v⟩
    | true =>
      rw [if_neg (by decide), if_neg (fun e => by cases e.2)]
      exact hv_some v
  · rw [if_neg h, if_neg (fun e => h e.1)]
    exact hv_some v
theorem m_reqD {S : St} {y : Ms} (L : LM E M f) (v : VM E S M f A y) (c : Prop) [Decidable c] (k : Int32) {g1 g0 : Option St} (h1 : g1 = (sp_X7_require fu E S M 1 k).bind fun u => some u) (h0 : g0 = (sp_X7_require fu E S M 0 k).bind fun u => some u) : Hv E M f A S (if c then g1 else g0) (aReq (decide c) k y) := by
  by_cases hc : c
  · rw [if_pos hc, h1, decide_eq_true hc]
    exact hv_bind (m_req L v true k) (fun S1 v1 => hv_some v1)
  · rw [if_neg hc, h0, decide_eq_false hc]
    exact hv_bind (m_req L v false k) (fun S1 v1 => hv_some v1)
theorem m_pop {S : St} {y : Ms} (L : LM E M f) (v : VM E S M f A y) : Hw E M f A S (sp_X7_popSlot fu E S M) (aPop y).1 (aPop y).2 := by
  have h12 := v.2.2.2.2.2.2
  have hb : sp_X7_popSlot fu E S M = jb_X7_popSlot_17 fu E M M (b2 (decide (1 ≤ y.1.2.2.1))) S := by
    unfold sp_X7_popSlot
    rw [v.2.1, if_pos L.2.2.2, v.2.2.2.1.2.2.1, show (1 : Int32) = n32 1 from rfl, zi_lt (by omega) (by decide)]
    by_cases h : y.1.2.2.1 < 1
    · rw [if_pos h, show decide (1 ≤ y.1.2.2.1) = false from decide_eq_false (by omega)]; rfl
    · rw [if_neg h, show decide (1 ≤ y.1.2.2.1) = true from decide_eq_true (by omega)]; rfl
  rw [hb]
  unfold jb_X7_popSlot_17 bnd
  refine hv_bindw (m_req L v _ 3) (fun S1 v1 => ?_)
  rw [v1.2.2.1]
  unfold aPop
  by_cases h : y.2 = 0
  · by_cases h0 : y.1.2.2.1 = 0
    · have e : aReq (decide (1 ≤ y.1.2.2.1)) 3 y = (y.1, 3) := by
        unfold aReq
        rw [if_pos ⟨h, decide_eq_false (by omega)⟩]
      rw [e] at v1 ⊢
      rw [if_neg (show ¬ (3 : Int32) = 0 by decide), if_neg (fun z => z h), if_pos h0]
      exact hw_some v1
    · have e : aReq (decide (1 ≤ y.1.2.2.1)) 3 y = y := by
        unfold aReq
        rw [if_neg (fun z => by have := of_decide_eq_false z.2; omega)]
      rw [e] at v1 ⊢
      have e1 : n32 y.1.2.2.1 - 1 = n32 (y.1.2.2.1 - 1) := z_sub (b := 1) (by omega)
      rw [if_pos h, v1.2.1, if_pos L.2.2.2, v1.2.2.2.1.2.2.1, e1]
      have e2 : (sF S1 f 2 (n32 (y.1.2.2.1 - 1))).2.2.1 M 3 = f := v1.2.1
      have e3 : (sF S1 f 2 (n32 (y.1.2.2.1 - 1))).1 f 2 = n32 (y.1.2.2.1 - 1) := up2_s _ _
      dsimp only
      rw [e2, if_pos L.2.2.2, if_pos L.2.2.2, e3, if_pos (by rw [z_inb (by omega)]; omega), z_nat (by omega), if_neg (fun z => z h), if_neg h0]
      have vf := v1.2.2.2.1
      have hw := v1.2.2.2.2
      have K := vm_fr (S' := sF S1 f 2 (n32 (y.1.2.2.1 - 1))) (x := (y.1.1, y.1.2.1, y.1.2.2.1 - 1, y.1.2.2.2)) L v1 (Ag_mono sF_ag (fun q z => Or.inl z)) ⟨vf.1, fun i hi => vf.2.1 i (by have : i < y.1.2.2.1 - 1 := hi; omega), e3, (up2_n _ _ (fun z => by simp at z)).trans vf.2.2.2⟩ ⟨hw.1, fun i hi => hw.2.1 i (by have : i < y.1.2.2.1 - 1 := hi; omega), by show y.1.2.2.1 - 1 ≤ 12; omega⟩
      refine ⟨_, ?_, ?_, K.2⟩
      · have e4 : (sF S1 f 2 (n32 (y.1.2.2.1 - 1))).2.1 (E.2 f 1) (y.1.2.2.1 - 1) = y.1.2.1 (y.1.2.2.1 - 1) := vf.2.1 _ (by omega)
        rw [e4]
      · have := K.1
        rw [h] at this
        exact this
  · have e : aReq (decide (1 ≤ y.1.2.2.1)) 3 y = y := by
      unfold aReq
      rw [if_neg (fun z => h z.1)]
    rw [e] at v1 ⊢
    rw [if_neg h, if_pos h]
    exact hw_some v1
theorem m_push0 {S : St} {y : Ms} (L : LM E M f) (hm : cmost A.2.2 ≤ 12) (v : VM E S M f A y) {x : Int32} (hx : y.2 = 0 → svA A.1 x) : Hv E M f A S (sp_X7_push fu E S M x) (aPush (cmost A.2.2) x y) := by
  have h12 := v.2.2.2.2.2.2
  have hb : sp_X7_push fu E S M x = jb_X7_push_23 fu E M M x (b2 (decide (y.1.2.2.1 < cmost A.2.2))) S := by
    unfold sp_X7_push
    rw [v.2.1, if_pos L.2.2.2, v.2.2.2.1.2.2.1, v.1.2.2.2.2.1, zi_le (by omega) (by omega)]
    by_cases h : cmost A.2.2 ≤ y.1.2.2.1
    · rw [if_pos h, show decide (y.1.2.2.1 < cmost A.2.2) = false from decide_eq_false (by omega)]; rfl
    · rw [if_neg h, show decide (y.1.2.2.1 < cmost A.2.2) = true from decide_eq_true (by omega)]; rfl
  rw [hb]
  unfold jb_X7_push_23 bnd
  refine hv_bind (m_req L v _ 6) (fun S1 v1 => ?_)
  rw [v1.2.2.1]
  unfold aPush
  by_cases h : y.2 = 0
  · by_cases h0 : cmost A.2.2 ≤ y.1.2.2.1
    · have e : aReq (decide (y.1.2.2.1 < cmost A.2.2)) 6 y = (y.1, 6) := by
        unfold aReq
        rw [if_pos ⟨h, decide_eq_false (by omega)⟩]
      rw [e] at v1 ⊢
      rw [if_neg (show ¬ (6 : Int32) = 0 by decide), if_neg (fun z => z h), if_pos h0]
      exact hv_some v1
    · have e : aReq (decide (y.1.2.2.1 < cmost A.2.2)) 6 y = y := by
        unfold aReq
        rw [if_neg (fun z => by have := of_decide_eq_false z.2; omega)]
      rw [e] at v1 ⊢
      rw [if_pos h, v1.2.1, if_pos L.2.2.2, if_pos L.2.2.2, v1.2.2.2.1.2.2.1, if_pos (by rw [z_inb (by omega)]; omega), z_nat (by omega), if_neg (fun z => z h), if_neg h0]
      have e2 : (sG S1 (E.2 f 1) y.1.2.2.1 x).2.2.1 M 3 = f := v1.2.1
      have e3 : (sG S1 (E.2 f 1) y.1.2.2.1 x).1 f 2 = n32 y.1.2.2.1 := v1.2.2.2.1.2.2.1
      dsimp only
      rw [e2, if_pos L.2.2.2, e3, show n32 y.1.2.2.1 + 1 = n32 (y.1.2.2.1 + 1) from z_add _ 1]
      have vf := v1.2.2.2.1
      have hw := v1.2.2.2.2
      have wfp := wf_push (y := y) (d := A.1) (mx := cmost A.2.2) hm (hx h) hw
      unfold aPush at wfp
      rw [if_neg (fun z => z h), if_neg h0] at wfp
      have K := vm_fr (S' := sF (sG S1 (E.2 f 1) y.1.2.2.1 x) f 2 (n32 (y.1.2.2.1 + 1))) (x := (y.1.1, up1 y.1.2.1 y.1.2.2.1 x, y.1.2.2.1 + 1, y.1.2.2.2)) L v1 (Ag_trans (Ag_mono sG_ag (fun q z => Or.inr (Or.inr z))) (Ag_mono sF_ag (fun q z => Or.inl z))) ⟨fun i hi => ?_, fun i hi => ?_, up2_s _ _, (up2_n _ _ (fun z => by simp at z)).trans vf.2.2.2⟩ wfp
      · refine ⟨_, rfl, ?_, K.2⟩
        have := K.1
        rw [h] at this
        exact this
      · exact (up2_n _ _ (fun z => L.a01 z.1)).trans (vf.1 i hi)
      · show up2 S1.2.1 (E.2 f 1) y.1.2.2.1 x (E.2 f 1) i = up1 y.1.2.1 y.1.2.2.1 x i
        by_cases e : i = y.1.2.2.1
        · rw [e, up2_s, up1_s]
        · rw [up2_n _ _ (fun z => e z.2), up1_n _ _ e]
          exact vf.2.1 i (by have : i < y.1.2.2.1 + 1 := hi; omega)
  · have e : aReq (decide (y.1.2.2.1 < cmost A.2.2)) 6 y = y := by
      unfold aReq
      rw [if_neg (fun z => h z.1)]
    rw [e] at v1 ⊢
    rw [if_neg h, if_pos h]
    exact hv_some v1
theorem m_push {S : St} {y : Ms} (L : LM E M f) (hm : cmost A.2.2 ≤ 12) (v : VM E S M f A y) {x : Int32} (hx : svA A.1 x) : Hv E M f A S (sp_X7_push fu E S M x) (aPush (cmost A.2.2) x y) := m_push0 L hm v (fun _ => hx)
theorem m_pushT {S : St} {y : Ms} (L : LM E M f) (hm : cmost A.2.2 ≤ 12) (v : VM E S M f A y) {x : Int32} (hx : svA A.1 x) : Hv E M f A S (sp_X7_pushOfType fu E S M x) (aPushT (cmost A.2.2) x y) := by
  unfold sp_X7_pushOfType aPushT
  refine hv_bind (m_push L hm v hx) (fun S1 v1 => ?_)
  by_cases h : x = 8
  · rw [if_pos h, if_pos h]
    exact hv_bind (m_push L hm v1 sv_high) (fun S2 v2 => hv_some v2)
  · rw [if_neg h, if_neg h]
    exact hv_some v1
theorem m_popT {S : St} {y : Ms} (L : LM E M f) (hd : DI A.1) (hfu : 30 ≤ fu) (v : VM E S M f A y) {x : Int32} (hx : svA A.1 x) : Hv E M f A S (sp_X7_popOfType fu E S M x) (aPopT A.1 x y) := by
  unfold sp_X7_popOfType aPopT
  by_cases h : x = 8
  · rw [if_pos h, if_pos h]
    refine hw_bind (m_pop L v) (fun S1 v1 => ?_)
    refine hw_bind (m_pop L v1) (fun S2 v2 => ?_)
    dsimp only
    by_cases h1 : (aPop (aPop y).2).1 = 8
    · rw [if_pos h1]
      have := m_reqD (fu := fu) L v2 ((aPop y).1 = -3) 4 rfl rfl
      refine hv_eq this ?_
      congr 1
      rw [show ((aPop (aPop y).2).1 == 8) = true from by rw [h1]; rfl, Bool.true_and]
      exact (Bool.eq_iff_iff.mpr (by rw [decide_eq_true_eq, beq_iff_eq]))
    · rw [if_neg h1, show ((aPop (aPop y).2).1 == 8) = false from beq_eq_false_iff_ne.mpr h1, Bool.false_and]
      exact hv_bind (m_req L v2 false 4) (fun S3 v3 => hv_some v3)
  · rw [if_neg h, if_neg h]
    refine hw_bind (m_pop L v) (fun S1 v1 => ?_)
    dsimp only
    rw [t_fits hd v1.1.1 hfu (wf_pop v.2.2.2.2).2 hx, Option.bind_some]
    exact hv_bind (m_req L v1 _ 4) (fun S3 v3 => hv_some v3)
theorem m_any {S : St} {x : Int32} : sp_X7_isAnyReference fu E S x = some (b2 (anyR x), S) := by
  unfold sp_X7_isAnyReference anyR
  rw [t_rfT, Option.bind_some, b2_if]
  cases rfT x with
  | true => rfl
  | false =>
    rw [if_neg (by decide), Bool.false_or]
    by_cases h1 : x = -1
    · rw [if_pos h1, h1]; rfl
    rw [if_neg h1, show (x == -1) = false from beq_eq_false_iff_ne.mpr h1, Bool.false_or]
    by_cases h2 : x = -4
    · rw [if_pos h2, h2]; rfl
    rw [if_neg h2, show (x == -4) = false from beq_eq_false_iff_ne.mpr h2, Bool.false_or]
    by_cases h3 : (-10 : Int32) < x
    · rw [if_pos h3, decide_eq_false (by rw [z_l32]; rw [z_i32] at h3; omega)]; rfl
    · rw [if_neg h3, decide_eq_true (by rw [z_l32]; rw [z_i32] at h3; omega)]; rfl
theorem m_popA {S : St} {y : Ms} (L : LM E M f) (v : VM E S M f A y) : Hw E M f A S (sp_X7_popAnyReference fu E S M) (aPopC anyR y).1 (aPopC anyR y).2 := by
  unfold sp_X7_popAnyReference aPopC
  refine hw_bindw (m_pop L v) (fun S1 v1 => ?_)
  dsimp only
  rw [m_any, Option.bind_some]
  exact hv_bindw (m_req L v1 _ 4) (fun S2 v2 => hw_some v2)
theorem m_popR {S : St} {y : Ms} (L : LM E M f) (v : VM E S M f A y) : Hw E M f A S (sp_X7_popReference fu E S M) (aPopC rfV y).1 (aPopC rfV y).2 := by
  unfold sp_X7_popReference aPopC
  refine hw_bindw (m_pop L v) (fun S1 v1 => ?_)
  dsimp only
  rw [t_rfV, Option.bind_some]
  exact hv_bindw (m_req L v1 _ 4) (fun S2 v2 => hw_some v2)
theorem m_whole {S : St} {x : Int32} : sp_X7_isWhole fu E S x = some (b2 (whole x), S) := by
  unfold sp_X7_isWhole whole
  by_cases h1 : x = 8
  · rw [if_pos h1, h1]; rfl
  rw [if_neg h1]
  by_cases h2 : x = -3
  · rw [if_pos h2, h2]; rfl
  rw [if_neg h2, show (x != 8) = true from by simpa using h1, show (x != -3) = true from by simpa using h2]; rfl
theorem m_popW {S : St} {y : Ms} (L : LM E M f) (v : VM E S M f A y) : Hw E M f A S (sp_X7_popWhole fu E S M) (aPopC whole y).1 (aPopC whole y).2 := by
  unfold sp_X7_popWhole aPopC
  refine hw_bindw (m_pop L v) (fun S1 v1 => ?_)
  dsimp only
  rw [m_whole, Option.bind_some]
  exact hv_bindw (m_req L v1 _ 4) (fun S2 v2 => hw_some v2)
theorem m_arrT {S : St} (x : Int32) : sp_X7_isArrayType fu E S x = some (b2 (arrT x), S) := by
  unfold sp_X7_isArrayType arrT
  rcases z_sgn x with h | ⟨n, hn, rfl⟩
  · have h0 : decide (0 ≤ x) = false := by
      rw [decide_eq_false_iff_not, z_l32]
      rw [z_i32] at h
      omega
    rw [if_pos h, h0]; rfl
  · rw [zi_nlt hn, n32_ge hn, Bool.true_and, z_mod hn, z_nat hn, show (0 : Int32) = n32 0 from rfl, zi_le (by omega) (by decide)]
    by_cases h : n % 8 ≤ 0
    · rw [if_pos h, decide_eq_false (by omega)]; rfl
    · rw [if_neg h, decide_eq_true (by omega)]; rfl
theorem row_eq {n : Nat} (hn : n < 2 ^ 31) (h : 0 < n % 8) : rfT (n32 n - 1) = decide (0 < lev n) := by
  rw [show n32 n - 1 = n32 (n - 1) from z_sub (b := 1) (by omega), rfT_n (by omega)]
  unfold rfN lev
  rw [Bool.eq_iff_iff, decide_eq_true_eq]
  simp only [Bool.and_eq_true, bne_iff_ne, ne_eq]
  split <;> omega
theorem m_popRA {S : St} {y : Ms} (L : LM E M f) (v : VM E S M f A y) : Hw E M f A S (sp_X7_popReferenceArray fu E S M) (aPopC rowV y).1 (aPopC rowV y).2 := by
  unfold sp_X7_popReferenceArray aPopC
  refine hw_bindw (m_pop L v) (fun S1 v1 => ?_)
  dsimp only
  unfold jb_X7_popReferenceArray_26 jb_X7_popReferenceArray_30
  have k1 : Hw E M f A S1 ((sp_X7_require fu E S1 M 1 4).bind fun u2 => some ((aPop y).1, u2)) (aPop y).1 (aReq true 4 (aPop y).2) := hv_bindw (m_req L v1 true 4) (fun S2 v2 => hw_some v2)
  have k0 : Hw E M f A S1 ((sp_X7_require fu E S1 M 0 4).bind fun u2 => some ((aPop y).1, u2)) (aPop y).1 (aReq false 4 (aPop y).2) := hv_bindw (m_req L v1 false 4) (fun S2 v2 => hw_some v2)
  generalize (aPop y).1 = r at k1 k0
  unfold rowV
  by_cases h1 : r = -1
  · rw [if_pos h1, show (r == -1) = true from by rw [h1]; rfl, Bool.true_or]
    exact k1
  rw [if_neg h1, show (r == -1) = false from beq_eq_false_iff_ne.mpr h1, Bool.false_or, m_arrT, Option.bind_some, b2_if]
  unfold arrT
  rcases z_sgn r with h | ⟨n, hn, rfl⟩
  · have h0 : decide (0 ≤ r) = false := by
      rw [decide_eq_false_iff_not, z_l32]
      rw [z_i32] at h
      omega
    rw [h0, Bool.false_and, Bool.false_and, if_neg (by decide)]
    exact k0
  · rw [n32_ge hn, Bool.true_and, Bool.true_and, z_nat hn]
    by_cases h2 : 0 < n % 8
    · rw [if_pos (decide_eq_true h2), t_rfT, Option.bind_some, b2_if, row_eq hn h2]
      cases decide (0 < lev n) with
      | true => rw [if_pos rfl]; exact k1
      | false => rw [if_neg (by decide)]; exact k0
    · rw [if_neg (by simpa using h2), show decide (0 < lev n) = false from decide_eq_false (by have := lev_le n; omega)]
      exact k0
end MA
