def PFl (E : Ev) (J : Nat) : Nat → Prop := fun q => PT E (E.2 J 9) q ∨ q = E.2 J 10
def TWf (d : Dcl) (tb : Nat → Option Fr) : Prop := ∀ i x, i < 100 → tb i = some x → WFr d x
section CW2
variable {E : Ev} {S : St} {fu J : Nat} {A : Enw} {tb : Nat → Option Fr} {pd : Nat → Bool}
theorem pd_z (hE : WE E) (hJ : E.1 J = some (0, 4, 0)) : E.1 (E.2 J 10) = some (1, 1, 100) := hE.2.1 J 4 10 _ hJ rfl
theorem tb_J (hE : WE E) (hJ : E.1 J = some (0, 4, 0)) : E.1 (E.2 J 9) = some (0, 3, 0) := hE.2.1 J 4 9 _ hJ rfl
theorem pd_pf (hE : WE E) (hJ : E.1 J = some (0, 4, 0)) {f : Nat} (hf : E.1 f = some (0, 2, 0)) : ¬ PF E f (E.2 J 10) := fun z => by
  rcases z with z | z | z
  · exact ne_ty (pd_z hE hJ) hf (by decide) z
  · exact ne_ty (pd_z hE hJ) (pf_t0 hE hf) (by decide) z
  · exact ne_ty (pd_z hE hJ) (pf_t1 hE hf) (by decide) z
theorem pd_pt (hE : WE E) (hI : Inj E) (hJ : E.1 J = some (0, 4, 0)) {tab : Nat} (ht : E.1 tab = some (0, 3, 0)) : ¬ PT E tab (E.2 J 10) := fun z => by
  rcases z with z | z | ⟨i, hi, z⟩
  · exact ne_ty (pd_z hE hJ) ht (by decide) z
  · exact arr_ne hE hI hJ ht (show (ftab 4)[10]? = some (some (1, 1, 100)) from rfl) (show (ftab 3)[1]? = some (some (1, 1, 100)) from rfl) rfl rfl (fun e => ne_ty hJ ht (by decide) e.1) z
  · exact pd_pf hE hJ (tb_f hE ht hi) z
theorem vpd_ag {S' : St} {P : Nat → Prop} (v : VPd E S J pd) (h : Ag P S S') (hn : ¬ P (E.2 J 10)) : VPd E S' J pd := fun i hi => by rw [(h _ hn).2.1]; exact v i hi
theorem c_flow (hE : WE E) (hI : Inj E) (hJ : E.1 J = some (0, 4, 0)) (hd : DI A.1) (hfu : 200 ≤ fu) (vT : VT E S (E.2 J 1) A.1) (vt : VTb E S (E.2 J 9) tb) (vp : VPd E S J pd) (wt : TWf A.1 tb) {a t : Nat} {y : Fr} (ha : E.1 a = some (0, 2, 0)) (hn : ∀ i, i < 100 → a ≠ frA E (E.2 J 9) i) (va : VF E S a y) (wy : WFr A.1 y) (ht : t < 100) {nx : Int32} : ∃ S', Ag (PFl E J) S S' ∧ (aFlow A.1 y t (tb, pd) = none → sp_X5_flow fu E S J (n32 t) a nx = some (8, S')) ∧ ∀ s, aFlow A.1 y t (tb, pd) = some s → sp_X5_flow fu E S J (n32 t) a nx = some (0, S') ∧ VTb E S' (E.2 J 9) s.1 ∧ VPd E S' J s.2 := by
  have hB := tb_J hE hJ
  have hT : E.1 (E.2 J 1) = some (0, 8, 0) := hE.2.1 J 4 1 _ hJ rfl
  have hint : inb (n32 t) 100 = true := by rw [z_inb (by omega)]; exact ht
  have np := pd_pt hE hI hJ hB
  unfold sp_X5_flow aFlow bnd
  rw [t_has vt ht, Option.bind_some, b2_if]
  dsimp only
  rw [if_pos hint]
  cases htb : tb t with
  | none =>
    rw [show (none : Option Fr).isSome = false from rfl, if_neg (by decide)]
    obtain ⟨S1, e1, v1, a1⟩ := t_put (fu := fu) hE hI hB vt ht ha hn va wy.2.2
    rw [e1, Option.bind_some, if_pos hint, z_nat (by omega)]
    refine ⟨sG S1 (E.2 J 10) t 1, Ag_trans (Ag_mono a1 (fun q z => Or.inl z)) (Ag_mono sG_ag (fun q z => Or.inr z)), fun z => (by cases z), fun s hs => ?_⟩
    cases hs
    refine ⟨rfl, vtb_ag v1 (sG_ag (S := S1) (a := E.2 J 10) (j := t) (x := 1)) (fun q hq z => np (z ▸ hq)), fun i hi => ?_⟩
    show up2 S1.2.1 (E.2 J 10) t 1 (E.2 J 10) i = b2 (if i = t then true else pd i)
    by_cases e : i = t
    · rw [if_pos e, e, up2_s]; rfl
    · rw [if_neg e, up2_n _ _ (fun z => e z.2), (a1 _ np).2.1]; exact vp i hi
  | some x =>
    rw [show (some x : Option Fr).isSome = true from rfl, if_pos rfl, z_nat (by omega)]
    have hk := tb_f hE hB ht
    obtain ⟨vk, h12⟩ := vt.2.1 t x ht htb
    have wx := wt t x ht htb
    have hak := hn t ht
    have vk' : VF E S (E.2 (E.2 (E.2 J 9) 0) t) x := vk
    have hy12 := wy.2.2
    rw [vk'.2.2.1, va.2.2.1, zi_eq (by omega) (by omega)]
    have agw : ∀ S1, Ag (PF E (frA E (E.2 J 9) t)) S S1 → Ag (PFl E J) S S1 := fun S1 h => Ag_mono h (fun q z => Or.inl (Or.inr (Or.inr ⟨t, ht, z⟩)))
    by_cases hh : x.2.2.1 = y.2.2.1
    · rw [if_pos hh]
      have n01 : E.2 (frA E (E.2 J 9) t) 0 ≠ E.2 (frA E (E.2 J 9) t) 1 := pf_ar hE hI hk hk (by decide) (by decide) (fun e => by simp at e)
      -- the marks
      have em : ∀ w0 : Bool, jb_X5_flow_75 fu E J a (E.2 (E.2 (E.2 J 9) 0) t) (n32 t) (b2 w0) S = lp_X5_flow_105 fu E J a (frA E (E.2 J 9) t) fu (n32 t) (b2 w0) (n32 0) (sF S (frA E (E.2 J 9) t) 3 (b2 (x.2.2.2 || y.2.2.2))) := by
        intro w0
        unfold jb_X5_flow_75 bnd
        rw [vk'.2.2.2, va.2.2.2, b2_if, b2_if]
        cases x.2.2.2 <;> cases y.2.2.2 <;> rfl
      have e0 : (if S.1 a 3 = 0 then jb_X5_flow_75 fu E J a (E.2 (E.2 (E.2 J 9) 0) t) (n32 t) 0 S else if S.1 (E.2 (E.2 (E.2 J 9) 0) t) 3 = 0 then jb_X5_flow_75 fu E J a (E.2 (E.2 (E.2 J 9) 0) t) (n32 t) 1 S else jb_X5_flow_75 fu E J a (E.2 (E.2 (E.2 J 9) 0) t) (n32 t) 0 S) = jb_X5_flow_75 fu E J a (E.2 (E.2 (E.2 J 9) 0) t) (n32 t) (b2 (y.2.2.2 && !x.2.2.2)) S := by
        rw [vk'.2.2.2, va.2.2.2, b2_if, b2_if]
        cases x.2.2.2 <;> cases y.2.2.2 <;> rfl
      rw [e0, em]
      have ag0 : Ag (PF E (frA E (E.2 J 9) t)) S (sF S (frA E (E.2 J 9) t) 3 (b2 (x.2.2.2 || y.2.2.2))) := Ag_mono sF_ag (fun q z => Or.inl z)
      have vk0 : VF E (sF S (frA E (E.2 J 9) t) 3 (b2 (x.2.2.2 || y.2.2.2))) (frA E (E.2 J 9) t) (x.1, mix 0 (fun z => joinA A.1 (x.2.1 z) (y.2.1 z)) x.2.1, x.2.2.1, x.2.2.2 || y.2.2.2) := ⟨vk.1, fun i hi => (vk.2.1 i hi).trans (mix_0 (l := fun z => joinA A.1 (x.2.1 z) (y.2.1 z)) (s := x.2.1)).symm, (up2_n _ _ (fun e => by simp at e)).trans vk.2.2.1, up2_s _ _⟩
      obtain ⟨S1, e1, a1, v1⟩ := c_floS (fu := fu) (t := t) hE hI hJ hd hfu hk ha hak h12 hh wx.2.1 wy.2.1 x.2.2.1 0 fu _ (y.2.2.2 && !x.2.2.2) (by omega) (by omega) (vt_ag vT ag0 (nop_PF hE hI hk hT (by decide))) (vf_ag va ag0 (pf_dis hE hI ha hk hak)) vk0
      have agA : Ag (PF E (frA E (E.2 J 9) t)) S S1 := Ag_trans ag0 a1
      rw [e1]
      dsimp only
      unfold mrgOk
      rw [decide_eq_true hh, Bool.true_and]
      by_cases ok : okJ A.1 x.2.1 y.2.1 0 x.2.2.1 = true
      · rw [if_pos ok, if_pos ok]
        have vk1 : VF E S1 (frA E (E.2 J 9) t) (mix 0 (fun z => joinA A.1 (x.1 z) (y.1 z)) x.1, (fun z => joinA A.1 (x.2.1 z) (y.2.1 z)), x.2.2.1, x.2.2.2 || y.2.2.2) := ⟨fun i hi => ((v1 ok).1 i hi).trans (mix_0 (l := fun z => joinA A.1 (x.1 z) (y.1 z)) (s := x.1)).symm, (v1 ok).2⟩
        obtain ⟨S2, e2, vk2, p1, p2, a2⟩ := c_floL (fu := fu) (pd := pd) hE hI hJ hd hfu hk ha hak ht wx.1 wy.1 12 0 fu S1 ((y.2.2.2 && !x.2.2.2) || chJ A.1 x.2.1 y.2.1 0 x.2.2.1) rfl (by omega) (vt_ag vT agA (nop_PF hE hI hk hT (by decide))) (vf_ag va agA (pf_dis hE hI ha hk hak)) vk1 (by rw [(agA _ (pd_pf hE hJ hk)).2.1]; exact vp t ht)
        have agB : Ag (fun q => PF E (frA E (E.2 J 9) t) q ∨ q = E.2 J 10) S S2 := Ag_trans (Ag_mono agA (fun q z => Or.inl z)) a2
        have nz : ¬ (PF E (frA E (E.2 J 9) t) (E.2 (E.2 J 9) 1) ∨ E.2 (E.2 J 9) 1 = E.2 J 10) := fun z => by
          rcases z with (z | z | z) | z
          · exact ne_ty (tb_z hE hB) hk (by decide) z
          · exact ne_ty (tb_z hE hB) (pf_t0 hE hk) (by decide) z
          · exact ne_ty (tb_z hE hB) (pf_t1 hE hk) (by decide) z
          · exact np (Or.inr (Or.inl z.symm))
        have nt : ¬ (PF E (frA E (E.2 J 9) t) (E.2 J 9) ∨ E.2 J 9 = E.2 J 10) := fun z => by
          rcases z with (z | z | z) | z
          · exact ne_ty hB hk (by decide) z
          · exact ne_ty hB (pf_t0 hE hk) (by decide) z
          · exact ne_ty hB (pf_t1 hE hk) (by decide) z
          · exact ne_ty hB (pd_z hE hJ) (by decide) z
        have usome : ∀ i, (upT tb t (jnF A.1 x y) i).isSome = (tb i).isSome := fun i => by
          unfold upT
          split
          · rename_i e; rw [e, htb]; rfl
          · rfl
        refine ⟨S2, Ag_mono agB (fun q z => z.elim (fun w => Or.inl (Or.inr (Or.inr ⟨t, ht, w⟩))) Or.inr), fun z => (by cases z), fun s hs => ?_⟩
        cases hs
        refine ⟨e2, ⟨fun i hi => ?_, fun i z hi hz => ?_, ?_⟩, fun i hi => ?_⟩
        · rw [(agB _ nz).2.1, vt.1 i hi]
          show b2 _ = b2 (upT tb t (jnF A.1 x y) i).isSome
          rw [usome]
        · by_cases e : i = t
          · subst e
            have : upT tb i (jnF A.1 x y) i = some (jnF A.1 x y) := if_pos rfl
            have hz' : upT tb i (jnF A.1 x y) i = some z := hz
            rw [this] at hz'
            cases hz'
            exact ⟨vk2, h12⟩
          · have : upT tb t (jnF A.1 x y) i = tb i := if_neg e
            have hz' : upT tb t (jnF A.1 x y) i = some z := hz
            rw [this] at hz'
            have vi := vt.2.1 i z hi hz'
            refine ⟨vf_ag vi.1 agB (fun q hq w => ?_), vi.2⟩
            rcases w with w | w
            · exact pf_dis hE hI (tb_f hE hB hi) hk (tb_ne hE hI hB hi ht e) q hq w
            · exact pd_pf hE hJ (tb_f hE hB hi) (w ▸ hq)
        · rw [(agB _ nt).1, vt.2.2, cntT_congr (tb' := tb) 100 (fun i _ => usome i)]
        · show S2.2.1 (E.2 J 10) i = b2 (if i = t then (pd t || mrgCh A.1 x y) else pd i)
          by_cases e : i = t
          · rw [if_pos e, e, p1]; rfl
          · rw [if_neg e, p2 i e, (agA _ (pd_pf hE hJ hk)).2.1]; exact vp i hi
      · rw [if_neg ok, if_neg ok]
        exact ⟨S1, agw S1 agA, fun _ => rfl, fun s hs => by cases hs⟩
    · rw [if_neg hh]
      refine ⟨S, Ag_refl, fun _ => rfl, fun s hs => ?_⟩
      dsimp only at hs
      unfold mrgOk at hs
      rw [decide_eq_false hh, Bool.false_and, if_neg (by decide)] at hs
      cases hs
end CW2
