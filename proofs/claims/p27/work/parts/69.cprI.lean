def muT (t : Option Tp) : Bool := [some (0, 1, 0), some (0, 2, 0), some (0, 3, 0), some (0, 4, 0), some (0, 5, 0), some (0, 6, 0), some (0, 9, 0), some (1, 0, 12), some (1, 1, 100), some (1, 2, 1)].contains t
def fOK (ci : Nat) : Bool := (ftab ci).all fun o => match o with
  | some u => u.1 != 1 || !muT (some u)
  | none => true
theorem nop_mu {E : Ev} {P : Nat → Prop} {a ci : Nat} (hE : WE E) (ha : E.1 a = some (0, ci, 0)) (hP : ∀ q, P q → muT (E.1 q) = true) (hc : muT (some (0, ci, 0)) = false) (hf : fOK ci = true) : NoP E P a ci := by
  refine ⟨fun h => ?_, fun j u hu h1 h => ?_⟩
  · have := hP a h
    rw [ha, hc] at this
    cases this
  · have := hP _ h
    rw [hE.2.1 a ci j u ha hu] at this
    have k := List.all_eq_true.mp hf _ (List.mem_of_getElem? hu)
    have k : (u.1 != 1 || !muT (some u)) = true := k
    rw [h1, this] at k
    cases k
theorem venv_mu {E : Ev} {S S' : St} {T B C : Nat} {A : Enw} {P : Nat → Prop} (hE : WE E) (v : VEnv E S T B C A) (h : Ag P S S') (hP : ∀ q, P q → muT (E.1 q) = true) (hT : E.1 T = some (0, 8, 0)) (hB : E.1 B = some (0, 7, 0)) (hC : E.1 C = some (0, 0, 0)) : VEnv E S' T B C A := venv_ag v h (nop_mu hE hT hP rfl rfl) (nop_mu hE hB hP rfl rfl) (nop_mu hE hC hP rfl rfl)
theorem mu_pf {E : Ev} {f : Nat} (hE : WE E) (hf : E.1 f = some (0, 2, 0)) : ∀ q, PF E f q → muT (E.1 q) = true := fun q h => by
  rcases h with h | h | h
  · rw [h, hf]; rfl
  · rw [h, pf_t0 hE hf]; rfl
  · rw [h, pf_t1 hE hf]; rfl
theorem mu_pt {E : Ev} {tab : Nat} (hE : WE E) (ht : E.1 tab = some (0, 3, 0)) : ∀ q, PT E tab q → muT (E.1 q) = true := fun q h => by
  rcases h with h | h | ⟨i, hi, h⟩
  · rw [h, ht]; rfl
  · rw [h, tb_z hE ht]; rfl
  · exact mu_pf hE (tb_f hE ht hi) q h
theorem mu_fl {E : Ev} {J : Nat} (hE : WE E) (hJ : E.1 J = some (0, 4, 0)) : ∀ q, PFl E J q → muT (E.1 q) = true := fun q h => by
  rcases h with h | h
  · exact mu_pt hE (tb_J hE hJ) q h
  · rw [h, pd_z hE hJ]; rfl
def LJ (E : Ev) (J : Nat) : Prop := WE E ∧ Inj E ∧ E.1 J = some (0, 4, 0) ∧ (E.2 (E.2 J 7) 0 = E.2 J 1 ∧ E.2 (E.2 J 7) 1 = E.2 J 5 ∧ E.2 (E.2 J 7) 2 = E.2 J 0) ∧ E.2 (E.2 J 6) 0 = E.2 J 1 ∧ E.2 (E.2 J 6) 1 = E.2 J 5 ∧ E.2 (E.2 J 6) 2 = E.2 J 0
section PJ1
variable {E : Ev} {S : St} {fu J : Nat} {A : Enw}
theorem lj_C (L : LJ E J) : E.1 (E.2 J 0) = some (0, 0, 0) := L.1.2.1 J 4 0 _ L.2.2.1 rfl
theorem lj_T (L : LJ E J) : E.1 (E.2 J 1) = some (0, 8, 0) := L.1.2.1 J 4 1 _ L.2.2.1 rfl
theorem lj_B (L : LJ E J) : E.1 (E.2 J 5) = some (0, 7, 0) := L.1.2.1 J 4 5 _ L.2.2.1 rfl
theorem lj_p (L : LJ E J) : E.1 (E.2 J 2) = some (0, 2, 0) := L.1.2.1 J 4 2 _ L.2.2.1 rfl
theorem lj_c (L : LJ E J) : E.1 (E.2 J 8) = some (0, 2, 0) := L.1.2.1 J 4 8 _ L.2.2.1 rfl
theorem lj_M (L : LJ E J) : E.1 (E.2 J 7) = some (0, 6, 0) := L.1.2.1 J 4 7 _ L.2.2.1 rfl
theorem lj_X (L : LJ E J) : E.1 (E.2 J 6) = some (0, 1, 0) := L.1.2.1 J 4 6 _ L.2.2.1 rfl
theorem lj_t (L : LJ E J) : E.1 (E.2 J 9) = some (0, 3, 0) := tb_J L.1 L.2.2.1
theorem lj_pc (L : LJ E J) : E.2 J 2 ≠ E.2 J 8 := fr_ne2 L.1 L.2.1 L.2.2.1 (show (ftab 4)[2]? = some (some (0, 2, 0)) from rfl) L.2.2.1 (show (ftab 4)[8]? = some (some (0, 2, 0)) from rfl) (fun e => by simp at e)
theorem lj_pt (L : LJ E J) : ∀ i, i < 100 → E.2 J 2 ≠ frA E (E.2 J 9) i := fun i hi => fr_ne L.1 L.2.1 (lj_t L) L.2.2.1 (show (ftab 4)[2]? = some (some (0, 2, 0)) from rfl) hi
theorem lj_ct (L : LJ E J) : ∀ i, i < 100 → E.2 J 8 ≠ frA E (E.2 J 9) i := fun i hi => fr_ne L.1 L.2.1 (lj_t L) L.2.2.1 (show (ftab 4)[8]? = some (some (0, 2, 0)) from rfl) hi
theorem lj_fl (L : LJ E J) {f : Nat} (hf : E.1 f = some (0, 2, 0)) (hn : ∀ i, i < 100 → f ≠ frA E (E.2 J 9) i) : ∀ q, PF E f q → ¬ PFl E J q := fun q h z => by
  rcases z with z | z
  · exact pf_pt L.1 L.2.1 (lj_t L) hf hn q h z
  · exact pd_pf L.1 L.2.2.1 hf (z ▸ h)
theorem t_prot {C : Nat} {c : Cd} (hc : VCd E S C c) (h10 : chn c ≤ 10) {h i : Nat} (hh : h < chn c) : sp_X1_protects fu E S C (n32 h) (n32 i) = some (b2 (prot c h i), S) := by
  have hv := hc.2.2.2.2.2.2.2 h hh
  have hin : inb (n32 h) 10 = true := by rw [z_inb (by omega)]; omega
  unfold sp_X1_protects prot
  rw [if_pos hin, if_pos hin, z_nat (by omega), hv.1, hv.2.1, ilt_ite, ile_ite]
  cases decide (chs c h ≤ n32 i) <;> cases decide (che c h ≤ n32 i) <;> rfl
theorem c_hdI (L : LJ E J) (hA : EI A) (hG : Good A) (hfu : 200 ≤ fu) {f : Fr} (wf : WX A f) {i : Nat} : ∀ (k h F : Nat) (S : St) (s : Ist), h + k = chn A.2.2 → k + 1 ≤ F → VEnv E S (E.2 J 1) (E.2 J 5) (E.2 J 0) A → VTb E S (E.2 J 9) s.1 → VPd E S J s.2 → TWX A s.1 → VF E S (E.2 J 2) f → ∃ S', lp_X0_flowToHandlers_4_2 fu E J F (n32 i) (n32 h) S = some ((aHdI A i f h k s).1, S') ∧ Ag (fun q => PF E (E.2 J 8) q ∨ PFl E J q) S S' ∧ ((aHdI A i f h k s).1 = 0 → VTb E S' (E.2 J 9) (aHdI A i f h k s).2.1 ∧ VPd E S' J (aHdI A i f h k s).2.2 ∧ TWX A (aHdI A i f h k s).2.1) := by
  have h10 := hA.2.2.2.2.2.2.1
  have h100 := hA.2.2.2.2.2.1
  have hmx := hA.2.2.2.1
  have hE := L.1
  have hI := L.2.1
  have hP : ∀ q, (PF E (E.2 J 8) q ∨ PFl E J q) → muT (E.1 q) = true := fun q z => z.elim (mu_pf hE (lj_c L) q) (mu_fl hE L.2.2.1 q)
  intro k
  induction k with
  | zero =>
    intro h F S s hk hF v vt vp ws vf
    obtain ⟨F, rfl⟩ : ∃ z, F = z + 1 := ⟨F - 1, by omega⟩
    refine ⟨S, ?_, Ag_refl, fun _ => ⟨vt, vp, ws⟩⟩
    show bd_X0_flowToHandlers_4_2 fu E J _ (n32 i) (n32 h) S = some (0, S)
    unfold bd_X0_flowToHandlers_4_2
    rw [v.2.2.2.2.2.2.2.1, zi_le (by omega) (by omega), if_pos (by omega)]
  | succ k ih =>
    intro h F S s hk hF v vt vp ws vf
    obtain ⟨F, rfl⟩ : ∃ z, F = z + 1 := ⟨F - 1, by omega⟩
    have hh : h < chn A.2.2 := by omega
    have hin : inb (n32 h) 10 = true := by rw [z_inb (by omega)]; omega
    have ht := hOk_tgt ((good_all hG).2.1 h hh)
    have go : aHdI A i f h (k + 1) s = (if prot A.2.2 h i = true then (if cmost A.2.2 = 0 then (6, s) else if (flw A.1 (cauF A.2.2 h f) (tgt A.2.2 h) s).1 = 0 then aHdI A i f (h + 1) k (flw A.1 (cauF A.2.2 h f) (tgt A.2.2 h) s).2 else (flw A.1 (cauF A.2.2 h f) (tgt A.2.2 h) s)) else aHdI A i f (h + 1) k s) := rfl
    rw [go]
    show ∃ S', bd_X0_flowToHandlers_4_2 fu E J (lp_X0_flowToHandlers_4_2 fu E J F) (n32 i) (n32 h) S = _ ∧ _
    unfold bd_X0_flowToHandlers_4_2
    rw [v.2.2.2.2.2.2.2.1, zi_le (by omega) (by omega), if_neg (by omega), t_prot v.2.2 h10 hh, Option.bind_some, b2_if, show n32 h + 1 = n32 (h + 1) from z_add h 1]
    dsimp only
    by_cases c1 : prot A.2.2 h i = true
    · rw [if_pos c1, if_pos c1, v.2.2.2.2.1, show (0 : Int32) = n32 0 from rfl, zi_eq (by omega) (by decide), show n32 0 = (0 : Int32) from rfl]
      by_cases c2 : cmost A.2.2 = 0
      · rw [if_pos c2, if_pos c2]
        exact ⟨S, rfl, Ag_refl, fun z => absurd z (show ¬ (6 : Int32) = 0 by decide)⟩
      · have vh := v.2.2.2.2.2.2.2.2.2 h hh
        rw [if_neg c2, if_neg c2, if_pos hin, z_nat (by omega), vh.2.2.2]
        obtain ⟨S1, e1, v1, a1⟩ := f_caught (fu := fu) (c := chc A.2.2 h) hE hI (lj_c L) (lj_p L) (Ne.symm (lj_pc L)) vf wf.1.2.2
        have a1' : Ag (fun q => PF E (E.2 J 8) q ∨ PFl E J q) S S1 := Ag_mono a1 (fun q z => Or.inl z)
        have ve1 := venv_mu hE v a1' hP (lj_T L) (lj_B L) (lj_C L)
        have vt1 : VTb E S1 (E.2 J 9) s.1 := vtb_ag vt a1 (fun q hq z => pf_pt hE hI (lj_t L) (lj_c L) (lj_ct L) q z hq)
        have vp1 : VPd E S1 J s.2 := vpd_ag vp a1 (pd_pf hE L.2.2.1 (lj_c L))
        have vf1 : VF E S1 (E.2 J 2) f := vf_ag vf a1 (pf_dis hE hI (lj_p L) (lj_c L) (lj_pc L))
        have wc := wx_cau hA wf hh c2
        have tl : tgt A.2.2 h < 100 := by have := ht.2; omega
        rw [e1, Option.bind_some, if_pos hin, (ve1.2.2.2.2.2.2.2.2.2 h hh).2.2.1, ht.1]
        obtain ⟨S2, a2, f8, f0⟩ := c_flow (fu := fu) (nx := 0) hE hI L.2.2.1 hA.1 hfu ve1.1 vt1 vp1 (fun q x hq hx => (ws q x hq hx).1) (lj_c L) (lj_ct L) v1 wc.1 tl
        have a2' : Ag (fun q => PF E (E.2 J 8) q ∨ PFl E J q) S1 S2 := Ag_mono a2 (fun q z => Or.inr z)
        rcases flw_8 (d := A.1) (y := cauF A.2.2 h f) (t := tgt A.2.2 h) (s := s) with ⟨k0, ks⟩ | ⟨k8, kn⟩
        · obtain ⟨e2, vt2, vp2⟩ := f0 _ ks
          rw [e2, Option.bind_some, if_pos rfl, if_pos k0]
          have ve2 := venv_mu hE ve1 a2' hP (lj_T L) (lj_B L) (lj_C L)
          have vf2 : VF E S2 (E.2 J 2) f := vf_ag vf1 a2 (lj_fl L (lj_p L) (lj_pt L))
          obtain ⟨S3, e3, a3, r3⟩ := ih (h + 1) F S2 _ (by omega) (by omega) ve2 vt2 vp2 (aFlow_wx hA.1 ws wc tl ks) vf2
          exact ⟨S3, e3, Ag_trans a1' (Ag_trans a2' a3), r3⟩
        · have e2 := f8 kn
          rw [e2, Option.bind_some, if_neg (show ¬ (8 : Int32) = 0 by decide), if_neg (by rw [k8]; decide)]
          refine ⟨S2, by rw [k8], Ag_trans a1' a2', fun z => ?_⟩
          rw [k8] at z
          exact absurd z (by decide)
    · rw [if_neg c1, if_neg c1]
      exact ih (h + 1) F S s (by omega) (by omega) v vt vp ws vf
end PJ1
