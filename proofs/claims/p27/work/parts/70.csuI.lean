theorem fal_ite {S : St} {op : Nat} (hop : op ≤ 45) : (if n32 op = 22 then some ((0 : Int32), S) else if n32 op < 27 then some (1, S) else if n32 op ≤ 31 then some (0, S) else some (1, S)) = some (b2 (fal op), S) := by
  unfold fal
  rw [show (22 : Int32) = n32 22 from rfl, zi_eq (by omega) (by decide), show (27 : Int32) = n32 27 from rfl, zi_lt (by omega) (by decide), show (31 : Int32) = n32 31 from rfl, zi_le (by omega) (by decide)]
  by_cases h : op = 22
  · rw [if_pos h, decide_eq_false (by omega)]; rfl
  · rw [if_neg h, decide_eq_true (show op ≠ 22 from h), Bool.true_and]
    by_cases h2 : op < 27
    · rw [if_pos h2, decide_eq_true (Or.inl h2)]; rfl
    · rw [if_neg h2]
      by_cases h3 : op ≤ 31
      · rw [if_pos h3, decide_eq_false (by omega)]; rfl
      · rw [if_neg h3, decide_eq_true (by omega)]; rfl
theorem jmp_ite {S : St} {op : Nat} (hop : op ≤ 45) : (if n32 op < 22 then some ((0 : Int32), S) else if 26 < n32 op then some (0, S) else some (1, S)) = some (b2 (jmp op), S) := by
  unfold jmp
  rw [show (22 : Int32) = n32 22 from rfl, zi_lt (by omega) (by decide), show (26 : Int32) = n32 26 from rfl, zi_lt (by decide) (by omega)]
  by_cases h : op < 22
  · rw [if_pos h, decide_eq_false (by omega)]; rfl
  · rw [if_neg h]
    by_cases h2 : 26 < op
    · rw [if_pos h2, decide_eq_false (by omega)]; rfl
    · rw [if_neg h2, decide_eq_true (by omega)]; rfl
section PJ2
variable {E : Ev} {S : St} {fu J : Nat} {A : Enw}
theorem c_flw (L : LJ E J) (hA : EI A) (hfu : 200 ≤ fu) {f : Fr} (wf : WX A f) {t : Nat} {s : Ist} {nx : Int32} (ht : t < 100) (v : VEnv E S (E.2 J 1) (E.2 J 5) (E.2 J 0) A) (vt : VTb E S (E.2 J 9) s.1) (vp : VPd E S J s.2) (ws : TWX A s.1) (vf : VF E S (E.2 J 2) f) : ∃ S', sp_X5_flow fu E S J (n32 t) (E.2 J 2) nx = some ((flw A.1 f t s).1, S') ∧ Ag (PFl E J) S S' ∧ ((flw A.1 f t s).1 = 0 → VTb E S' (E.2 J 9) (flw A.1 f t s).2.1 ∧ VPd E S' J (flw A.1 f t s).2.2 ∧ TWX A (flw A.1 f t s).2.1) := by
  obtain ⟨S2, a2, f8, f0⟩ := c_flow (fu := fu) (nx := nx) L.1 L.2.1 L.2.2.1 hA.1 hfu v.1 vt vp (fun q x hq hx => (ws q x hq hx).1) (lj_p L) (lj_pt L) vf wf.1 ht
  refine ⟨S2, ?_, a2, ?_⟩
  · rcases flw_8 (d := A.1) (y := f) (t := t) (s := s) with ⟨k0, ks⟩ | ⟨k8, kn⟩
    · rw [(f0 _ ks).1, k0]
    · rw [f8 kn, k8]
  · intro z
    rcases flw_8 (d := A.1) (y := f) (t := t) (s := s) with ⟨k0, ks⟩ | ⟨k8, kn⟩
    · exact ⟨(f0 _ ks).2.1, (f0 _ ks).2.2, aFlow_wx hA.1 ws wf ht ks⟩
    · rw [k8] at z; exact absurd z (by decide)
theorem c_suI (L : LJ E J) (hA : EI A) (hG : Good A) (hfu : 200 ≤ fu) {f : Fr} (wf : WX A f) {i : Nat} (hi : i < cn A.2.2) {s : Ist} (v : VEnv E S (E.2 J 1) (E.2 J 5) (E.2 J 0) A) (vt : VTb E S (E.2 J 9) s.1) (vp : VPd E S J s.2) (ws : TWX A s.1) (vf : VF E S (E.2 J 2) f) : ∃ S', sp_X0_flowToSuccessors_4 fu E S J (n32 i) = some ((aSuI A i f s).1, S') ∧ Ag (PFl E J) S S' ∧ ((aSuI A i f s).1 = 0 → VTb E S' (E.2 J 9) (aSuI A i f s).2.1 ∧ VPd E S' J (aSuI A i f s).2.2 ∧ TWX A (aSuI A i f s).2.1) := by
  have h100 := hA.2.2.2.2.2.1
  have hE := L.1
  have hI := L.2.1
  have hP : ∀ q, PFl E J q → muT (E.1 q) = true := mu_fl hE L.2.2.1
  have hop := hA.2.2.2.2.2.2.2.1 i hi
  have hin : inb (n32 i) 100 = true := by rw [z_inb (by omega)]; omega
  have vh := v.2.2.2.2.2.2.2.2.1 i hi
  -- the jump
  have go : ∀ (S1 : St) (s1 : Int32 × Ist), Ag (PFl E J) S S1 → (s1.1 = 0 → VTb E S1 (E.2 J 9) s1.2.1 ∧ VPd E S1 J s1.2.2 ∧ TWX A s1.2.1) → ∃ S', jb_X0_flowToSuccessors_4_50 fu E J (n32 i) (n32 (cop A.2.2 i)) s1.1 S1 = some ((if s1.1 = 0 then (if jmp (cop A.2.2 i) = true then flw A.1 f (cx A.2.2 i).toNatClampNeg s1.2 else s1) else s1).1, S') ∧ Ag (PFl E J) S S' ∧ ((if s1.1 = 0 then (if jmp (cop A.2.2 i) = true then flw A.1 f (cx A.2.2 i).toNatClampNeg s1.2 else s1) else s1).1 = 0 → VTb E S' (E.2 J 9) (if s1.1 = 0 then (if jmp (cop A.2.2 i) = true then flw A.1 f (cx A.2.2 i).toNatClampNeg s1.2 else s1) else s1).2.1 ∧ VPd E S' J (if s1.1 = 0 then (if jmp (cop A.2.2 i) = true then flw A.1 f (cx A.2.2 i).toNatClampNeg s1.2 else s1) else s1).2.2 ∧ TWX A (if s1.1 = 0 then (if jmp (cop A.2.2 i) = true then flw A.1 f (cx A.2.2 i).toNatClampNeg s1.2 else s1) else s1).2.1) := by
    intro S1 s1 ag k
    unfold jb_X0_flowToSuccessors_4_50
    by_cases c : s1.1 = 0
    · rw [if_pos c, if_pos c]
      obtain ⟨vt1, vp1, ws1⟩ := k c
      have ej : sp_X9_jumps fu E S1 (n32 (cop A.2.2 i)) = some (b2 (jmp (cop A.2.2 i)), S1) := jmp_ite hop
      rw [ej, Option.bind_some, b2_if]
      dsimp only
      by_cases cj : jmp (cop A.2.2 i) = true
      · rw [if_pos cj, if_pos cj, if_pos hin]
        have hx := jmp_x hG hA hi cj
        have ve1 := venv_mu hE v ag hP (lj_T L) (lj_B L) (lj_C L)
        have vf1 : VF E S1 (E.2 J 2) f := vf_ag vf ag (lj_fl L (lj_p L) (lj_pt L))
        rw [z_nat (show i < 2 ^ 31 by omega), (ve1.2.2.2.2.2.2.2.2.1 i hi).2, hx.1, z_nat (show (cx A.2.2 i).toNatClampNeg < 2 ^ 31 by omega)]
        obtain ⟨S2, e2, a2, r2⟩ := c_flw (fu := fu) (nx := 0) L hA hfu wf (show (cx A.2.2 i).toNatClampNeg < 100 by omega) ve1 vt1 vp1 ws1 vf1
        rw [e2]
        exact ⟨S2, rfl, Ag_trans ag a2, r2⟩
      · rw [if_neg cj, if_neg cj]
        exact ⟨S1, rfl, ag, fun _ => ⟨vt1, vp1, ws1⟩⟩
    · rw [if_neg c, if_neg c]
      exact ⟨S1, rfl, ag, fun z => absurd z c⟩
  unfold sp_X0_flowToSuccessors_4 bnd
  have ef : sp_X9_fallsThrough fu E S (n32 (cop A.2.2 i)) = some (b2 (fal (cop A.2.2 i)), S) := fal_ite hop
  rw [if_pos hin, z_nat (show i < 2 ^ 31 by omega), vh.1]
  dsimp only
  rw [ef, Option.bind_some, b2_if, show n32 i + 1 = n32 (i + 1) from z_add i 1]
  dsimp only
  unfold aSuI aS1
  by_cases c1 : fal (cop A.2.2 i) = true
  · rw [if_pos c1, if_pos c1, t_idx v.2.2 h100, Option.bind_some, b2_if]
    unfold idx
    rw [n32_ge (show i + 1 < 2 ^ 31 by omega), z_nat (show i + 1 < 2 ^ 31 by omega), Bool.true_and]
    dsimp only
    by_cases c2 : i + 1 < cn A.2.2
    · rw [if_pos (decide_eq_true c2), if_pos c2]
      obtain ⟨S2, e2, a2, r2⟩ := c_flw (fu := fu) (nx := 1) L hA hfu wf (show i + 1 < 100 by omega) v vt vp ws vf
      rw [e2, Option.bind_some]
      exact go S2 _ a2 r2
    · rw [if_neg (by rw [decide_eq_true_eq]; exact c2), if_neg c2]
      exact go S (7, s) Ag_refl (fun z => absurd z (show ¬ (7 : Int32) = 0 by decide))
  · rw [if_neg c1, if_neg c1]
    exact go S (0, s) Ag_refl (fun _ => ⟨vt, vp, ws⟩)
def PPr (E : Ev) (J : Nat) : Nat → Prop := fun q => q = J ∨ PF E (E.2 J 8) q ∨ PM E (E.2 J 7) (E.2 J 2) q ∨ PFl E J q
theorem mu_pr (L : LJ E J) : ∀ q, PPr E J q → muT (E.1 q) = true := fun q z => by
  rcases z with z | z | (z | z) | z
  · rw [z, L.2.2.1]; rfl
  · exact mu_pf L.1 (lj_c L) q z
  · rw [z, lj_M L]; rfl
  · exact mu_pf L.1 (lj_p L) q z
  · exact mu_fl L.1 L.2.2.1 q z
theorem pm_pt (L : LJ E J) : ∀ q, PT E (E.2 J 9) q → ¬ PM E (E.2 J 7) (E.2 J 2) q := fun q h z => by
  rcases z with z | z
  · rcases h with h | h | ⟨i, hi, h⟩
    · exact ne_ty (lj_t L) (lj_M L) (by decide) (h.symm.trans z)
    · exact ne_ty (tb_z L.1 (lj_t L)) (lj_M L) (by decide) (h.symm.trans z)
    · rcases h with h | h | h
      · exact ne_ty (tb_f L.1 (lj_t L) hi) (lj_M L) (by decide) (h.symm.trans z)
      · exact ne_ty (pf_t0 L.1 (tb_f L.1 (lj_t L) hi)) (lj_M L) (by decide) (h.symm.trans z)
      · exact ne_ty (pf_t1 L.1 (tb_f L.1 (lj_t L) hi)) (lj_M L) (by decide) (h.symm.trans z)
  · exact pf_pt L.1 L.2.1 (lj_t L) (lj_p L) (lj_pt L) q z h
theorem pm_pd (L : LJ E J) : ¬ PM E (E.2 J 7) (E.2 J 2) (E.2 J 10) := fun z => by
  rcases z with z | z
  · exact ne_ty (pd_z L.1 L.2.2.1) (lj_M L) (by decide) z
  · exact pd_pf L.1 L.2.2.1 (lj_p L) z
theorem nJ_pf (L : LJ E J) {f : Nat} (hf : E.1 f = some (0, 2, 0)) : ¬ PF E f J := fun z => by
  rcases z with z | z | z
  · exact ne_ty L.2.2.1 hf (by decide) z
  · exact ne_ty L.2.2.1 (pf_t0 L.1 hf) (by decide) z
  · exact ne_ty L.2.2.1 (pf_t1 L.1 hf) (by decide) z
theorem nJ_pt (L : LJ E J) : ¬ PT E (E.2 J 9) J := fun z => by
  rcases z with z | z | ⟨i, hi, z⟩
  · exact ne_ty L.2.2.1 (lj_t L) (by decide) z
  · exact ne_ty L.2.2.1 (tb_z L.1 (lj_t L)) (by decide) z
  · exact nJ_pf L (tb_f L.1 (lj_t L) hi) z
theorem nJ_fl (L : LJ E J) : ¬ PFl E J J := fun z => by
  rcases z with z | z
  · exact nJ_pt L z
  · exact ne_ty L.2.2.1 (pd_z L.1 L.2.2.1) (by decide) z
theorem nJ_pm (L : LJ E J) : ¬ PM E (E.2 J 7) (E.2 J 2) J := fun z => by
  rcases z with z | z
  · exact ne_ty L.2.2.1 (lj_M L) (by decide) z
  · exact nJ_pf L (lj_p L) z
theorem pt_J (L : LJ E J) : ∀ q, PT E (E.2 J 9) q → ¬ q = J := fun q h z => nJ_pt L (z ▸ h)
theorem pf_J (L : LJ E J) {f : Nat} (hf : E.1 f = some (0, 2, 0)) : ∀ q, PF E f q → ¬ q = J := fun q h z => nJ_pf L hf (z ▸ h)
theorem c_prI (L : LJ E J) (hA : EI A) (hs : cst A.2.2 = true) (hG : Good A) (hfu : 200 ≤ fu) {f : Fr} (wf : WX A f) {i : Nat} (hi : i < cn A.2.2) {s : Ist} (v : VEnv E S (E.2 J 1) (E.2 J 5) (E.2 J 0) A) (vt : VTb E S (E.2 J 9) s.1) (vp : VPd E S J s.2) (ws : TWX A s.1) (vf : VF E S (E.2 J 2) f) : ∃ S', sp_X0_process_4 fu E S J (n32 i) = some ((aPrI A i f s).1, S') ∧ Ag (PPr E J) S S' ∧ ((aPrI A i f s).1 = 0 → VTb E S' (E.2 J 9) (aPrI A i f s).2.1 ∧ VPd E S' J (aPrI A i f s).2.2 ∧ TWX A (aPrI A i f s).2.1) ∧ S'.1 J 4 = S.1 J 4 + 1 ∧ S'.1 J 3 = (if (aPrI A i f s).1 = 0 then S.1 J 3 else n32 i) := by
  have h100 := hA.2.2.2.2.2.1
  have h10 := hA.2.2.2.2.2.2.1
  have hE := L.1
  have hI := L.2.1
  have nP10 : ¬ E.2 J 10 = J := fun z => ne_ty (pd_z hE L.2.2.1) L.2.2.1 (by decide) z
  have hP := mu_pr L
  have fin : ∀ (S1 : St) (r : Int32), Ag (PPr E J) S S1 → S1.1 J 4 = S.1 J 4 + 1 → S1.1 J 3 = S.1 J 3 → ∃ S', jb_X0_process_4_43 fu E J (n32 i) r S1 = some (r, S') ∧ Ag (PPr E J) S S' ∧ Ag (fun q => q = J) S1 S' ∧ S'.1 J 4 = S.1 J 4 + 1 ∧ S'.1 J 3 = (if r = 0 then S.1 J 3 else n32 i) := by
    intro S1 r ag h4 h3
    unfold jb_X0_process_4_43 bnd
    by_cases c : r = 0
    · rw [if_pos c, if_pos c]; exact ⟨S1, rfl, ag, Ag_refl, h4, h3⟩
    · rw [if_neg c, if_neg c]
      exact ⟨_, rfl, Ag_trans ag (Ag_mono sF_ag (fun q z => Or.inl z)), sF_ag, (up2_n _ _ (fun e => by simp at e)).trans h4, up2_s _ _⟩
  unfold sp_X0_process_4 sp_X0_flowToHandlers_4 bnd
  dsimp only
  have a1 : Ag (fun q => q = J) S (sF S J 4 (S.1 J 4 + 1)) := sF_ag
  have a1' : Ag (PPr E J) S (sF S J 4 (S.1 J 4 + 1)) := Ag_mono a1 (fun q z => Or.inl z)
  obtain ⟨S2, e2, a2, r2⟩ := c_hdI (fu := fu) (i := i) L hA hG hfu wf (chn A.2.2) 0 fu (sF S J 4 (S.1 J 4 + 1)) s (by omega) (by omega) (venv_mu hE v a1' hP (lj_T L) (lj_B L) (lj_C L)) (vtb_ag vt a1 (pt_J L)) (vpd_ag vp a1 nP10) ws (vf_ag vf a1 (pf_J L (lj_p L)))
  rw [show (0 : Int32) = n32 0 from rfl] at *
  rw [e2, Option.bind_some]
  have nJ2 : ¬ (PF E (E.2 J 8) J ∨ PFl E J J) := fun z => z.elim (nJ_pf L (lj_c L)) (nJ_fl L)
  have ag2 : Ag (PPr E J) S S2 := Ag_trans a1' (Ag_mono a2 (fun q z => z.elim (fun w => Or.inr (Or.inl w)) (fun w => Or.inr (Or.inr (Or.inr w)))))
  have j4 : S2.1 J 4 = S.1 J 4 + 1 := by rw [(a2 J nJ2).1]; exact up2_s _ _
  have j3 : S2.1 J 3 = S.1 J 3 := by rw [(a2 J nJ2).1]; exact up2_n _ _ (fun e => by simp at e)
  unfold aPrI
  dsimp only
  by_cases c1 : (aHdI A i f 0 (chn A.2.2) s).1 = 0
  · rw [if_pos (show (aHdI A i f 0 (chn A.2.2) s).1 = n32 0 from c1), if_pos c1]
    obtain ⟨vt2, vp2, ws2⟩ := r2 c1
    have ve2 := venv_mu hE v ag2 hP (lj_T L) (lj_B L) (lj_C L)
    have vf2 : VF E S2 (E.2 J 2) f := vf_ag (vf_ag vf a1 (pf_J L (lj_p L))) a2 (fun q h z => z.elim (fun w => pf_dis hE hI (lj_p L) (lj_c L) (lj_pc L) q h w) (fun w => lj_fl L (lj_p L) (lj_pt L) q h w))
    have hx := okX_of (hA.2.2.2.2.2.2.2.1 i hi) ((good_all hG).1 i hi)
    obtain ⟨S3, e3, vm, a3⟩ := m_exec (fu := fu) (S := S2) ⟨hE, hI, lj_M L, lj_p L⟩ hA hs (by omega) (by rw [L.2.2.2.1.1, L.2.2.2.1.2.1, L.2.2.2.1.2.2]; exact ve2) vf2 wf.1 hi hx
    rw [e3, Option.bind_some]
    have ag3 : Ag (PPr E J) S S3 := Ag_trans ag2 (Ag_mono a3 (fun q z => Or.inr (Or.inr (Or.inl z))))
    have k4 : S3.1 J 4 = S.1 J 4 + 1 := by rw [(a3 J (nJ_pm L)).1]; exact j4
    have k3 : S3.1 J 3 = S.1 J 3 := by rw [(a3 J (nJ_pm L)).1]; exact j3
    have vt3 := vtb_ag vt2 a3 (pm_pt L)
    have vp3 := vpd_ag vp2 a3 (pm_pd L)
    unfold jb_X0_process_4_33
    dsimp only
    by_cases c2 : (aExec A i f).2 = 0
    · rw [if_pos c2, if_pos c2]
      have wx := wx_exec hA hs hi hx wf c2
      have ve3 := venv_mu hE v ag3 hP (lj_T L) (lj_B L) (lj_C L)
      obtain ⟨S4, e4, a4, r4⟩ := c_suI (fu := fu) L hA hG hfu wx hi ve3 vt3 vp3 ws2 vm.2.2.2.1
      rw [e4, Option.bind_some]
      have ag4 : Ag (PPr E J) S S4 := Ag_trans ag3 (Ag_mono a4 (fun q z => Or.inr (Or.inr (Or.inr z))))
      obtain ⟨S5, e5, a5, b5, l4, l3⟩ := fin S4 (aSuI A i (aExec A i f).1 (aHdI A i f 0 (chn A.2.2) s).2).1 ag4 (by rw [(a4 J (nJ_fl L)).1]; exact k4) (by rw [(a4 J (nJ_fl L)).1]; exact k3)
      refine ⟨S5, e5, a5, fun z => ?_, l4, l3⟩
      obtain ⟨w1, w2, w3⟩ := r4 z
      exact ⟨vtb_ag w1 b5 (pt_J L), vpd_ag w2 b5 nP10, w3⟩
    · rw [if_neg c2, if_neg c2]
      obtain ⟨S5, e5, a5, b5, l4, l3⟩ := fin S3 (aExec A i f).2 ag3 k4 k3
      exact ⟨S5, e5, a5, fun z => absurd z c2, l4, l3⟩
  · rw [if_neg (show ¬ (aHdI A i f 0 (chn A.2.2) s).1 = n32 0 from c1), if_neg c1]
    unfold jb_X0_process_4_33
    rw [if_neg c1]
    obtain ⟨S5, e5, a5, b5, l4, l3⟩ := fin S2 _ ag2 j4 j3
    exact ⟨S5, e5, a5, fun z => absurd z c1, l4, l3⟩
end PJ2
