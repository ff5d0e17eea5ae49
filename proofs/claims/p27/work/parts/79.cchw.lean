def aEnt (d : Dcl) (tb : Nat → Option Fr) (i : Nat) (f : Fr) (b : Bool) : Option Fr := match tb i with
  | none => if b = true then some f else none
  | some x => if b = false ∨ ffA d f x = true then some x else none
abbrev Cst : Type := Int32 × (Fr × Bool) × Nat × Int32
def aCkG (A : Enw) (tb : Nat → Option Fr) (i : Nat) (y : Cst) (g : Fr) : Cst := ((gPr A (flK A.1 tb) nfK i g false).1, ((aExec A i g).1, fal (cop A.2.2 i)), y.2.2.1 + 1, if (gPr A (flK A.1 tb) nfK i g false).1 = 0 then y.2.2.2 else n32 i)
def aCkS (A : Enw) (tb : Nat → Option Fr) (i : Nat) (y : Cst) : Cst := match aEnt A.1 tb i y.2.1.1 y.2.1.2 with
  | none => (10, (y.2.1.1, false), y.2.2.1, n32 i)
  | some g => aCkG A tb i y g
def aCk (A : Enw) (tb : Nat → Option Fr) : Nat → Nat → Cst → Cst
  | 0, _, y => y
  | k + 1, i, y => if y.1 = 0 then aCk A tb k (i + 1) (aCkS A tb i y) else y
def aChk (A : Enw) (tb : Nat → Option Fr) : Cst := if (exam A).1 = 0 then aCk A tb (cn A.2.2) 0 (0, (aFst A, true), 0, -1) else ((exam A).1, (aFst A, false), 0, (exam A).2)
def PPc (E : Ev) (K : Nat) : Nat → Prop := fun q => q = K ∨ PF E (E.2 K 8) q ∨ PM E (E.2 K 7) (E.2 K 2) q
def PCk (E : Ev) (K : Nat) : Nat → Prop := fun q => PPc E K q ∨ q = E.2 K 6
theorem gPr_0 {A : Enw} {σ : Type} {fl nf : Fr → Nat → σ → Int32 × σ} {i : Nat} {f : Fr} {s : σ} (h : (gPr A fl nf i f s).1 = 0) : (aExec A i f).2 = 0 := by
  unfold gPr at h
  by_cases c : (gHd A fl i f 0 (chn A.2.2) s).1 = 0
  · rw [if_pos c] at h
    by_cases c2 : (aExec A i f).2 = 0
    · exact c2
    · rw [if_neg c2] at h; exact absurd h c2
  · rw [if_neg c] at h; exact absurd h c
theorem aEnt_wx {A : Enw} {tb : Nat → Option Fr} {i : Nat} {f g : Fr} {b : Bool} (tw : TWX A tb) (hi : i < 100) (hf : b = true → WX A f) (h : aEnt A.1 tb i f b = some g) : WX A g := by
  unfold aEnt at h
  cases htb : tb i with
  | none =>
    rw [htb] at h
    have h : (if b = true then some f else none) = some g := h
    by_cases c : b = true
    · rw [if_pos c] at h; cases h; exact hf c
    · rw [if_neg c] at h; cases h
  | some x =>
    rw [htb] at h
    have h : (if b = false ∨ ffA A.1 f x = true then some x else none) = some g := h
    by_cases c : b = false ∨ ffA A.1 f x = true
    · rw [if_pos c] at h; cases h; exact tw i _ hi htb
    · rw [if_neg c] at h; cases h
section CKW
variable {E : Ev} {S : St} {fu K : Nat} {A : Enw} {tb : Nat → Option Fr}
theorem mu_ck (L : LK E K) : ∀ q, PCk E K q → muT (E.1 q) = true := fun q z => by
  rcases z with (z | z | z | z) | z
  · rw [z, L.2.2.1]; rfl
  · exact mu_pf L.1 (lk_c L) q z
  · rw [z, lk_M L]; rfl
  · exact mu_pf L.1 (lk_p L) q z
  · rw [z, lk_X L]; rfl
theorem mu_pc (L : LK E K) : ∀ q, PPc E K q → muT (E.1 q) = true := fun q z => mu_ck L q (Or.inl z)
theorem pt_ne (L : LK E K) {a ci : Nat} (ha : E.1 a = some (0, ci, 0)) (h3 : ci ≠ 3) (h2 : ci ≠ 2) : ∀ q, PT E (E.2 K 9) q → ¬ q = a := fun q h z => by
  rw [z] at h
  rcases h with h | h | ⟨i, hi, h⟩
  · exact ne_ty ha (lk_t L) (fun e => h3 (by cases e; rfl)) h
  · exact ne_ty ha (tb_z L.1 (lk_t L)) (fun e => by cases e) h
  · rcases h with h | h | h
    · exact ne_ty ha (tb_f L.1 (lk_t L) hi) (fun e => h2 (by cases e; rfl)) h
    · exact ne_ty ha (pf_t0 L.1 (tb_f L.1 (lk_t L) hi)) (fun e => by cases e) h
    · exact ne_ty ha (pf_t1 L.1 (tb_f L.1 (lk_t L) hi)) (fun e => by cases e) h
theorem pt_pc (L : LK E K) : ∀ q, PT E (E.2 K 9) q → ¬ PPc E K q := fun q h z => by
  rcases z with z | z | z | z
  · exact pt_ne L L.2.2.1 (by decide) (by decide) q h z
  · exact pf_pt L.1 L.2.1 (lk_t L) (lk_c L) (lk_ct L) q z h
  · exact pt_ne L (lk_M L) (by decide) (by decide) q h z
  · exact pf_pt L.1 L.2.1 (lk_t L) (lk_p L) (lk_pt L) q z h
theorem nK_pf (L : LK E K) {f : Nat} (hf : E.1 f = some (0, 2, 0)) : ¬ PF E f K := fun z => by
  rcases z with z | z | z
  · exact ne_ty L.2.2.1 hf (by decide) z
  · exact ne_ty L.2.2.1 (pf_t0 L.1 hf) (by decide) z
  · exact ne_ty L.2.2.1 (pf_t1 L.1 hf) (by decide) z
theorem nK_pm (L : LK E K) : ¬ PM E (E.2 K 7) (E.2 K 2) K := fun z => by
  rcases z with z | z
  · exact ne_ty L.2.2.1 (lk_M L) (by decide) z
  · exact nK_pf L (lk_p L) z
theorem pf_K (L : LK E K) {f : Nat} (hf : E.1 f = some (0, 2, 0)) : ∀ q, PF E f q → ¬ q = K := fun q h z => nK_pf L hf (z ▸ h)
theorem c_prK (L : LK E K) (hA : EI A) (hs : cst A.2.2 = true) (hG : Good A) (hfu : 200 ≤ fu) (tw : TWX A tb) {f : Fr} (wf : WX A f) {i : Nat} (hi : i < cn A.2.2) (b : Bool) (v : VEnv E S (E.2 K 1) (E.2 K 5) (E.2 K 0) A) (vt : VTb E S (E.2 K 9) tb) (vf : VF E S (E.2 K 2) f) : ∃ S', sp_X0_process_5 fu E S K (n32 i) = some ((gPr A (flK A.1 tb) nfK i f b).1, S') ∧ Ag (PPc E K) S S' ∧ ((gPr A (flK A.1 tb) nfK i f b).1 = 0 → VF E S' (E.2 K 2) (aExec A i f).1) ∧ S'.1 K 4 = S.1 K 4 + 1 ∧ S'.1 K 3 = (if (gPr A (flK A.1 tb) nfK i f b).1 = 0 then S.1 K 3 else n32 i) := by
  have h100 := hA.2.2.2.2.2.1
  have h10 := hA.2.2.2.2.2.2.1
  have hE := L.1
  have hI := L.2.1
  have hP := mu_pc L
  have fin : ∀ (S1 : St) (r : Int32), Ag (PPc E K) S S1 → S1.1 K 4 = S.1 K 4 + 1 → S1.1 K 3 = S.1 K 3 → ∃ S', jb_X0_process_5_43 fu E K (n32 i) r S1 = some (r, S') ∧ Ag (PPc E K) S S' ∧ Ag (fun q => q = K) S1 S' ∧ S'.1 K 4 = S.1 K 4 + 1 ∧ S'.1 K 3 = (if r = 0 then S.1 K 3 else n32 i) := by
    intro S1 r ag h4 h3
    unfold jb_X0_process_5_43 bnd
    by_cases c : r = 0
    · rw [if_pos c, if_pos c]; exact ⟨S1, rfl, ag, Ag_refl, h4, h3⟩
    · rw [if_neg c, if_neg c]
      exact ⟨_, rfl, Ag_trans ag (Ag_mono sF_ag (fun q z => Or.inl z)), sF_ag, (up2_n _ _ (fun e => by simp at e)).trans h4, up2_s _ _⟩
  unfold sp_X0_process_5 sp_X0_flowToHandlers_5 bnd
  dsimp only
  have a1 : Ag (fun q => q = K) S (sF S K 4 (S.1 K 4 + 1)) := sF_ag
  have a1' : Ag (PPc E K) S (sF S K 4 (S.1 K 4 + 1)) := Ag_mono a1 (fun q z => Or.inl z)
  have vf1 : VF E (sF S K 4 (S.1 K 4 + 1)) (E.2 K 2) f := vf_ag vf a1 (pf_K L (lk_p L))
  obtain ⟨S2, e2, a2⟩ := c_hdK (fu := fu) (i := i) (b := b) L hA hG hfu tw wf (chn A.2.2) 0 fu (sF S K 4 (S.1 K 4 + 1)) (by omega) (by omega) (venv_mu hE v a1' hP (lk_T L) (lk_B L) (lk_C L)) (vtb_ag vt a1' (pt_pc L)) vf1
  have e2 : lp_X0_flowToHandlers_5_2 fu E K fu (n32 i) 0 (sF S K 4 (S.1 K 4 + 1)) = _ := e2
  rw [e2, Option.bind_some]
  have nK2 := nK_pf L (lk_c L)
  have ag2 : Ag (PPc E K) S S2 := Ag_trans a1' (Ag_mono a2 (fun q z => Or.inr (Or.inl z)))
  have j4 : S2.1 K 4 = S.1 K 4 + 1 := by rw [(a2 K nK2).1]; exact up2_s _ _
  have j3 : S2.1 K 3 = S.1 K 3 := by rw [(a2 K nK2).1]; exact up2_n _ _ (fun e => by simp at e)
  have g2 := gHd_2 (A := A) (tb := tb) (i := i) (f := f) (b := b) (chn A.2.2) 0
  unfold gPr
  dsimp only
  by_cases c1 : (gHd A (flK A.1 tb) i f 0 (chn A.2.2) b).1 = 0
  · rw [if_pos c1, if_pos c1, g2]
    have ve2 := venv_mu hE v ag2 hP (lk_T L) (lk_B L) (lk_C L)
    have vt2 := vtb_ag vt ag2 (pt_pc L)
    have vf2 : VF E S2 (E.2 K 2) f := vf_ag vf1 a2 (pf_dis hE hI (lk_p L) (lk_c L) (lk_pc L))
    have hx := okX_of (hA.2.2.2.2.2.2.2.1 i hi) ((good_all hG).1 i hi)
    obtain ⟨S3, e3, vm, a3⟩ := m_exec (fu := fu) (S := S2) ⟨hE, hI, lk_M L, lk_p L⟩ hA hs (by omega) (by rw [L.2.2.2.1.1, L.2.2.2.1.2.1, L.2.2.2.1.2.2]; exact ve2) vf2 wf.1 hi hx
    rw [e3, Option.bind_some]
    have ag3 : Ag (PPc E K) S S3 := Ag_trans ag2 (Ag_mono a3 (fun q z => Or.inr (Or.inr z)))
    have k4 : S3.1 K 4 = S.1 K 4 + 1 := by rw [(a3 K (nK_pm L)).1]; exact j4
    have k3 : S3.1 K 3 = S.1 K 3 := by rw [(a3 K (nK_pm L)).1]; exact j3
    have vt3 := vtb_ag vt ag3 (pt_pc L)
    unfold jb_X0_process_5_33
    dsimp only
    by_cases c2 : (aExec A i f).2 = 0
    · rw [if_pos c2, if_pos c2]
      have wx := wx_exec hA hs hi hx wf c2
      have ve3 := venv_mu hE v ag3 hP (lk_T L) (lk_B L) (lk_C L)
      rw [c_suK (b := b) L hA hG hfu tw wx hi ve3 vt3 vm.2.2.2.1, Option.bind_some]
      obtain ⟨S5, e5, a5, b5, l4, l3⟩ := fin S3 (gSu A (flK A.1 tb) nfK i (aExec A i f).1 b).1 ag3 k4 k3
      exact ⟨S5, e5, a5, fun _ => vf_ag vm.2.2.2.1 b5 (pf_K L (lk_p L)), l4, l3⟩
    · rw [if_neg c2, if_neg c2]
      obtain ⟨S5, e5, a5, b5, l4, l3⟩ := fin S3 (aExec A i f).2 ag3 k4 k3
      exact ⟨S5, e5, a5, fun z => absurd z c2, l4, l3⟩
  · rw [if_neg c1, if_neg c1]
    unfold jb_X0_process_5_33
    rw [if_neg c1]
    obtain ⟨S5, e5, a5, b5, l4, l3⟩ := fin S2 _ ag2 j4 j3
    exact ⟨S5, e5, a5, fun z => absurd z c1, l4, l3⟩
theorem c_ent (L : LK E K) (hA : EI A) (hfu : 200 ≤ fu) (tw : TWX A tb) {f : Fr} {b : Bool} {i : Nat} (hi : i < 100) (hf : b = true → VF E S (E.2 K 2) f ∧ WX A f) (v : VEnv E S (E.2 K 1) (E.2 K 5) (E.2 K 0) A) (vt : VTb E S (E.2 K 9) tb) : match aEnt A.1 tb i f b with
    | none => sp_X6_enter fu E S K (n32 i) (b2 b) = some (0, S)
    | some g => ∃ S', sp_X6_enter fu E S K (n32 i) (b2 b) = some (1, S') ∧ VF E S' (E.2 K 2) g ∧ Ag (PF E (E.2 K 2)) S S' := by
  have hin : inb (n32 i) 100 = true := by rw [z_inb (by omega)]; omega
  unfold sp_X6_enter jb_X6_enter_42 aEnt
  rw [t_has vt hi, Option.bind_some, b2_if, b2_if]
  dsimp only
  rw [isB_ite]
  cases htb : tb i with
  | none =>
    cases b with
    | true => exact ⟨S, rfl, (hf rfl).1, Ag_refl⟩
    | false => rfl
  | some x =>
    have vx : VF E S (E.2 (E.2 (E.2 K 9) 0) i) x := (vt.2.1 i x hi htb).1
    have wx := tw i x hi htb
    obtain ⟨S1, e1, v1, a1⟩ := f_copy (fu := fu) (S := S) L.1 L.2.1 (lk_p L) (tb_f L.1 (lk_t L) hi) (lk_pt L i hi) vx wx.1.2.2
    have e1 : sp_X3_copyFrom fu E S (E.2 K 2) (E.2 (E.2 (E.2 K 9) 0) i) = some S1 := e1
    rw [show (some x : Option Fr).isSome = true from rfl, if_pos rfl, if_pos hin, if_pos hin, z_nat (show i < 2 ^ 31 by omega), e1, Option.bind_some]
    cases b with
    | false =>
      rw [if_neg (by decide)]
      dsimp only
      rw [if_pos (Or.inl rfl)]
      exact ⟨S1, rfl, v1, a1⟩
    | true =>
      rw [if_pos rfl, t_frF hA.1 v.1 hfu (hf rfl).1 vx (hf rfl).2.1 wx.1, Option.bind_some, b2_if]
      dsimp only
      rw [if_pos (show true = true from rfl), e1, Option.bind_some]
      by_cases c : ffA A.1 f x = true
      · rw [if_pos c, if_pos (Or.inr c)]
        exact ⟨S1, if_pos hin, v1, a1⟩
      · rw [if_neg c, if_neg (fun z => z.elim (by decide) c)]
theorem c_ckL (L : LK E K) (hA : EI A) (hs : cst A.2.2 = true) (hG : Good A) (hfu : 200 ≤ fu) (tw : TWX A tb) : ∀ (k i F : Nat) (S : St) (y : Cst), i + k = cn A.2.2 → k + 1 ≤ F → VEnv E S (E.2 K 1) (E.2 K 5) (E.2 K 0) A → VTb E S (E.2 K 9) tb → (y.1 = 0 → y.2.1.2 = true → VF E S (E.2 K 2) y.2.1.1 ∧ WX A y.2.1.1) → S.1 K 4 = n32 y.2.2.1 → S.1 K 3 = y.2.2.2 → ∀ w : Int32, (y.1 = 0 → w = b2 y.2.1.2) → ∃ S', lp_X6_run_23 fu E K F y.1 w (n32 i) S = some ((aCk A tb k i y).1, S') ∧ Ag (PPc E K) S S' ∧ S'.1 K 4 = n32 (aCk A tb k i y).2.2.1 ∧ S'.1 K 3 = (aCk A tb k i y).2.2.2 := by
  have h100 := hA.2.2.2.2.2.1
  have hE := L.1
  have hP := mu_pc L
  intro k
  induction k with
  | zero =>
    intro i F S y hk hF v vt hf h4 h3 w hw
    obtain ⟨F, rfl⟩ : ∃ z, F = z + 1 := ⟨F - 1, by omega⟩
    show ∃ S', bd_X6_run_23 fu E K _ y.1 w (n32 i) S = some (y.1, S') ∧ _
    unfold bd_X6_run_23
    rw [v.2.2.2.2.2.2.1, zi_le (by omega) (by omega), if_pos (by omega)]
    exact ⟨S, rfl, Ag_refl, h4, h3⟩
  | succ k ih =>
    intro i F S y hk hF v vt hf h4 h3 w hw
    obtain ⟨F, rfl⟩ : ∃ z, F = z + 1 := ⟨F - 1, by omega⟩
    have hi : i < cn A.2.2 := by omega
    have hop := hA.2.2.2.2.2.2.2.1 i hi
    have hin : inb (n32 i) 100 = true := by rw [z_inb (by omega)]; omega
    have go : aCk A tb (k + 1) i y = if y.1 = 0 then aCk A tb k (i + 1) (aCkS A tb i y) else y := rfl
    rw [go]
    show ∃ S', bd_X6_run_23 fu E K (lp_X6_run_23 fu E K F) y.1 w (n32 i) S = _ ∧ _
    unfold bd_X6_run_23
    rw [v.2.2.2.2.2.2.1, zi_le (by omega) (by omega), if_neg (by omega)]
    by_cases c : y.1 = 0
    · rw [if_pos c, if_pos c, hw c]
      -- behind an instruction
      have nxt : ∀ (S1 : St) (z : Cst), Ag (PPc E K) S S1 → (z.1 = 0 → z.2.1.2 = fal (cop A.2.2 i)) → (z.1 = 0 → z.2.1.2 = true → VF E S1 (E.2 K 2) z.2.1.1 ∧ WX A z.2.1.1) → S1.1 K 4 = n32 z.2.2.1 → S1.1 K 3 = z.2.2.2 → ∃ S', jb_X6_run_64 fu E K (lp_X6_run_23 fu E K F) z.1 (n32 i) S1 = some ((aCk A tb k (i + 1) z).1, S') ∧ Ag (PPc E K) S S' ∧ S'.1 K 4 = n32 (aCk A tb k (i + 1) z).2.2.1 ∧ S'.1 K 3 = (aCk A tb k (i + 1) z).2.2.2 := by
        intro S1 z a1 hb hf1 g4 g3
        have v1 := venv_mu hE v a1 hP (lk_T L) (lk_B L) (lk_C L)
        unfold jb_X6_run_64
        have ef : sp_X9_fallsThrough fu E S1 (n32 (cop A.2.2 i)) = some (b2 (fal (cop A.2.2 i)), S1) := fal_ite hop
        rw [if_pos hin, z_nat (show i < 2 ^ 31 by omega), (v1.2.2.2.2.2.2.2.2.1 i hi).1, ef, Option.bind_some, show n32 i + 1 = n32 (i + 1) from z_add i 1]
        obtain ⟨S', e, a, r⟩ := ih (i + 1) F S1 z (by omega) (by omega) v1 (vtb_ag vt a1 (pt_pc L)) hf1 g4 g3 (b2 (fal (cop A.2.2 i))) (fun q => by rw [hb q])
        exact ⟨S', e, Ag_trans a1 a, r⟩
      have en := c_ent (fu := fu) (i := i) L hA hfu tw (by omega) (hf c) v vt
      unfold aCkS
      cases he : aEnt A.1 tb i y.2.1.1 y.2.1.2 with
      | none =>
        rw [he] at en
        have en : sp_X6_enter fu E S K (n32 i) (b2 y.2.1.2) = some (0, S) := en
        rw [en, Option.bind_some]
        dsimp only
        rw [if_pos rfl]
        have a1 : Ag (fun q => q = K) S (sF S K 3 (n32 i)) := sF_ag
        exact nxt (sF S K 3 (n32 i)) (10, (y.2.1.1, false), y.2.2.1, n32 i) (Ag_mono a1 (fun q z => Or.inl z)) (fun z => absurd z (show ¬ (10 : Int32) = 0 by decide)) (fun z => absurd z (show ¬ (10 : Int32) = 0 by decide)) ((up2_n _ _ (fun e => by simp at e)).trans h4) (up2_s _ _)
      | some g =>
        rw [he] at en
        obtain ⟨S1, e1, vg, a1⟩ := en
        have wg := aEnt_wx tw (show i < 100 by omega) (fun z => (hf c z).2) he
        have a1' : Ag (PPc E K) S S1 := Ag_mono a1 (fun q z => Or.inr (Or.inr (Or.inr z)))
        rw [e1, Option.bind_some]
        dsimp only
        rw [if_neg (show ¬ (1 : Int32) = 0 by decide)]
        have v1 := venv_mu hE v a1' hP (lk_T L) (lk_B L) (lk_C L)
        obtain ⟨S2, e2, a2, vf2, k4, k3⟩ := c_prK (fu := fu) L hA hs hG hfu tw wg hi false v1 (vtb_ag vt a1' (pt_pc L)) vg
        have nk1 := nK_pf L (lk_p L)
        rw [e2, Option.bind_some]
        have hx := okX_of (hA.2.2.2.2.2.2.2.1 i hi) ((good_all hG).1 i hi)
        refine nxt S2 (aCkG A tb i y g) (Ag_trans a1' a2) (fun _ => rfl) (fun z _ => ⟨vf2 z, wx_exec hA hs hi hx wg (gPr_0 (show (gPr A (flK A.1 tb) nfK i g false).1 = 0 from z))⟩) ?_ ?_
        · rw [k4, (a1 K nk1).1, h4]; exact z_add _ 1
        · rw [k3, (a1 K nk1).1, h3]; rfl
    · rw [if_neg c, if_neg c]
      exact ⟨S, rfl, Ag_refl, h4, h3⟩
theorem c_chk (L : LK E K) (hA : EI A) (hs : cst A.2.2 = true) (hfu : 200 ≤ fu) (tw : TWX A tb) (v : VEnv E S (E.2 K 1) (E.2 K 5) (E.2 K 0) A) (vt : VTb E S (E.2 K 9) tb) : ∃ S', sp_X6_run fu E S K = some ((aChk A tb).1, S') ∧ Ag (PCk E K) S S' ∧ S'.1 K 4 = n32 (aChk A tb).2.2.1 ∧ S'.1 K 3 = (aChk A tb).2.2.2 := by
  have h100 := hA.2.2.2.2.2.1
  have hE := L.1
  have hP := mu_ck L
  unfold sp_X6_run sp_X0_examine_5 bnd
  obtain ⟨S2, e2, x3, a2⟩ := t_exam (fu := fu) (S := S) hA hs (by omega) hE (lk_X L) (by rw [L.2.2.2.2.1, L.2.2.2.2.2.1, L.2.2.2.2.2.2]; exact v)
  have a2' : Ag (PCk E K) S S2 := Ag_mono a2 (fun q z => Or.inr z)
  rw [e2, Option.bind_some, Option.bind_some]
  dsimp only
  rw [x3]
  have a3 : Ag (fun q => q = K) S2 (sF (sF S2 K 3 (exam A).2) K 4 0) := Ag_trans sF_ag sF_ag
  have a3' : Ag (PCk E K) S2 (sF (sF S2 K 3 (exam A).2) K 4 0) := Ag_mono a3 (fun q z => Or.inl (Or.inl z))
  have j4 : (sF (sF S2 K 3 (exam A).2) K 4 0).1 K 4 = 0 := up2_s _ _
  have j3 : (sF (sF S2 K 3 (exam A).2) K 4 0).1 K 3 = (exam A).2 := (up2_n _ _ (fun e => by simp at e)).trans (up2_s _ _)
  generalize sF (sF S2 K 3 (exam A).2) K 4 0 = S3 at a3 a3' j4 j3 ⊢
  have ag3 := Ag_trans a2' a3'
  have ve3 := venv_mu hE v ag3 hP (lk_T L) (lk_B L) (lk_C L)
  have vt3 : VTb E S3 (E.2 K 9) tb := vtb_ag (vtb_ag vt a2 (pt_ne L (lk_X L) (by decide) (by decide))) a3 (pt_ne L L.2.2.1 (by decide) (by decide))
  unfold aChk
  by_cases c : (exam A).1 = 0
  · rw [if_pos c, if_pos c]
    have hG := exam_good c
    have hp : (exam A).2 = -1 := by rw [show exam A = (0, -1) from hG]
    obtain ⟨S4, e4, v4, a4⟩ := m_first_5 (fu := fu) (J := K) hfu hE L.2.1 (lk_p L) (lk_B L) (lk_C L) hA hs (good_all hG).2.2 ve3.2.1 ve3.2.2
    rw [e4, Option.bind_some, c]
    have a4' : Ag (PPc E K) S3 S4 := Ag_mono a4 (fun q z => Or.inr (Or.inr (Or.inr z)))
    have nk := nK_pf L (lk_p L)
    have wx := wx_fst hA hs (good_all hG).2.2
    obtain ⟨S5, e5, a5, r5⟩ := c_ckL (fu := fu) L hA hs hG hfu tw (cn A.2.2) 0 fu S4 (0, (aFst A, true), 0, -1) (by omega) (by omega) (venv_mu hE ve3 a4' (mu_pc L) (lk_T L) (lk_B L) (lk_C L)) (vtb_ag vt3 a4' (pt_pc L)) (fun _ _ => ⟨v4, wx⟩) (by rw [(a4 K nk).1]; exact j4) (by rw [(a4 K nk).1, j3, hp]) 1 (fun _ => rfl)
    exact ⟨S5, e5, Ag_trans ag3 (Ag_mono (Ag_trans a4' a5) (fun q z => Or.inl z)), r5⟩
  · rw [if_neg c, if_neg c]
    exact ⟨S3, rfl, ag3, j4, j3⟩
end CKW
