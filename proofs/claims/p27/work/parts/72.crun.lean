def fstP (p : Nat → Bool) : Nat → Nat → Option Nat
  | _, 0 => none
  | i, k + 1 => if p i = true then some i else fstP p (i + 1) k
theorem fstP_some {p : Nat → Bool} : ∀ (k i t : Nat), fstP p i k = some t → i ≤ t ∧ t < i + k ∧ p t = true
  | 0, _, _, h => by cases h
  | k + 1, i, t, h => by
    have h : (if p i = true then some i else fstP p (i + 1) k) = some t := h
    by_cases c : p i = true
    · rw [if_pos c] at h; cases h; exact ⟨Nat.le_refl _, by omega, c⟩
    · rw [if_neg c] at h
      have := fstP_some k (i + 1) t h
      exact ⟨by omega, by omega, this.2.2⟩
abbrev Rst : Type := (Int32 × Ist) × Nat × Int32
def tak (A : Enw) (y : Rst) (i : Nat) (x : Fr) : Rst := (aPrI A i x (y.1.2.1, upB y.1.2.2 i false), y.2.1 + 1, if (aPrI A i x (y.1.2.1, upB y.1.2.2 i false)).1 = 0 then y.2.2 else n32 i)
def aRun (A : Enw) : Nat → Rst → Rst
  | 0, y => y
  | n + 1, y => if y.1.1 = 0 then (match fstP y.1.2.2 0 (cn A.2.2) with
    | none => y
    | some i => match y.1.2.1 i with
      | none => y
      | some x => aRun A n (tak A y i x)) else y
def ist0 (A : Enw) : Ist := (upT (fun _ => none) 0 (aFst A), upB (fun _ => false) 0 true)
def aInf (A : Enw) : Rst := if (exam A).1 = 0 then aRun A 600000 ((0, ist0 A), 0, -1) else (((exam A).1, (fun _ => none), fun _ => false), 0, (exam A).2)
def lft (y : Rst) : Nat → Option Fr := if y.1.1 = 0 then y.1.2.1 else fun _ => none
theorem exam_good {A : Enw} (h : (exam A).1 = 0) : Good A := by
  unfold Good
  unfold exam at h ⊢
  split at h
  · exact absurd h (by decide)
  · rename_i c
    rw [if_neg c]
    unfold exO at h ⊢
    split at h
    · exact absurd h (show ¬ (1 : Int32) = 0 by decide)
    · unfold exH at h ⊢
      split at h
      · exact absurd h (show ¬ (2 : Int32) = 0 by decide)
      · unfold exN at h ⊢
        split at h
        · rename_i c2; rw [if_pos c2]
        · exact absurd h (by decide)
theorem inv_tak {A : Enw} (hA : EI A) (hs : cst A.2.2 = true) (hG : Good A) {y : Rst} {i n : Nat} {x : Fr} (h : InvI A y.1.2 (n + 1)) (hi : i < cn A.2.2) (hp : y.1.2.2 i = true) (hx : y.1.2.1 i = some x) : InvI A (y.1.2.1, upB y.1.2.2 i false) n ∧ InvI A (tak A y i x).1.2 n := by
  have h100 := hA.2.2.2.2.2.1
  have k : InvI A (y.1.2.1, upB y.1.2.2 i false) n := by
    refine ⟨h.1, fun j hj hq => ?_, ?_⟩
    · have hq : upB y.1.2.2 i false j = true := hq
      unfold upB at hq
      by_cases e : j = i
      · rw [if_pos e] at hq; cases hq
      · rw [if_neg e] at hq; exact h.2.1 j hj hq
    · have p := phi_up (s := y.1.2) (s' := (y.1.2.1, upB y.1.2.2 i false)) (t := i) (by omega) (fun _ _ => rfl) (fun j hj => if_neg hj)
      have q2 : upB y.1.2.2 i false i = false := if_pos rfl
      dsimp only at p
      rw [hp, q2, show pN true = 1 from rfl, show pN false = 0 from rfl] at p
      have := h.2.2
      omega
  exact ⟨k, inv_prI hA hs hG hi (h.1 i x (by omega) hx) k⟩
theorem phi_pos {s : Ist} {i : Nat} (hi : i < 100) (hp : s.2 i = true) : 1 ≤ Phi s := by
  have p := phi_up (s := s) (s' := (s.1, upB s.2 i false)) (t := i) hi (fun _ _ => rfl) (fun j hj => if_neg hj)
  have q2 : upB s.2 i false i = false := if_pos rfl
  dsimp only at p
  rw [hp, q2, show pN true = 1 from rfl, show pN false = 0 from rfl] at p
  omega
theorem inv_ist0 {A : Enw} (hA : EI A) (hs : cst A.2.2 = true) (hG : Good A) : InvI A (ist0 A) 600000 := by
  have wx := wx_fst hA hs (good_all hG).2.2
  have tw : TWX A (ist0 A).1 := fun i x hi hx => by
    have hx : upT (fun _ => none) 0 (aFst A) i = some x := hx
    unfold upT at hx
    by_cases e : i = 0
    · rw [if_pos e] at hx; cases hx; exact wx
    · rw [if_neg e] at hx; cases hx
  refine ⟨tw, fun i hi hp => ?_, ?_⟩
  · have hp : upB (fun _ => false) 0 true i = true := hp
    unfold upB at hp
    by_cases e : i = 0
    · subst e; rfl
    · rw [if_neg e] at hp; cases hp
  · have h1 := sumN_bd (f := fun i => pN ((ist0 A).2 i)) (c := 1) 100 (fun i _ => pN_le _)
    have h2 := sumN_bd (f := fun i => cF ((ist0 A).1 i)) (c := 4802) 100 (fun i hi => by
      show cF ((ist0 A).1 i) ≤ 4802
      cases c : (ist0 A).1 i with
      | none => exact Nat.le_refl _
      | some x => exact Nat.le_trans (cF_le hA.1 (tw i x hi c).1) (by decide))
    unfold Phi
    omega
section CRN
variable {E : Ev} {S : St} {fu J : Nat} {A : Enw}
theorem c_tak (hE : WE E) (hJ : E.1 J = some (0, 4, 0)) {pd : Nat → Bool} (vp : VPd E S J pd) (hn : cn A.2.2 ≤ 100) (h6 : S.1 (E.2 J 0) 6 = n32 (cn A.2.2)) : ∀ (k i F : Nat), i + k = cn A.2.2 → k + 1 ≤ F → lp_X5_takePending_2 fu E J F (n32 i) S = (match fstP pd i k with | none => some (-1, S) | some t => some (n32 t, sG S (E.2 J 10) t 0)) := by
  intro k
  induction k with
  | zero =>
    intro i F hk hF
    obtain ⟨F, rfl⟩ : ∃ z, F = z + 1 := ⟨F - 1, by omega⟩
    show bd_X5_takePending_2 fu E J _ (n32 i) S = some (-1, S)
    unfold bd_X5_takePending_2
    rw [h6, zi_le (by omega) (by omega), if_pos (by omega)]
  | succ k ih =>
    intro i F hk hF
    obtain ⟨F, rfl⟩ : ∃ z, F = z + 1 := ⟨F - 1, by omega⟩
    have hin : inb (n32 i) 100 = true := by rw [z_inb (by omega)]; omega
    show bd_X5_takePending_2 fu E J (lp_X5_takePending_2 fu E J F) (n32 i) S = (match (if pd i = true then some i else fstP pd (i + 1) k) with | none => some (-1, S) | some t => some (n32 t, sG S (E.2 J 10) t 0))
    unfold bd_X5_takePending_2 bnd
    rw [h6, zi_le (by omega) (by omega), if_neg (by omega), if_pos hin, if_pos hin, z_nat (show i < 2 ^ 31 by omega), vp i (by omega), b2_if, show n32 i + 1 = n32 (i + 1) from z_add i 1]
    by_cases c : pd i = true
    · rw [if_pos c, if_pos c]
    · rw [if_neg c, if_neg c]; exact ih (i + 1) F (by omega) (by omega)
theorem pr_pt (L : LJ E J) : ∀ q, PT E (E.2 J 9) q → PPr E J q := fun q h => Or.inr (Or.inr (Or.inr (Or.inl h)))
theorem c_run (L : LJ E J) (hA : EI A) (hs : cst A.2.2 = true) (hG : Good A) (hfu : 200 ≤ fu) : ∀ (n F r : Nat) (S : St) (y : Rst), n + 1 ≤ F → r + n < 1000000 → VEnv E S (E.2 J 1) (E.2 J 5) (E.2 J 0) A → (y.1.1 = 0 → VTb E S (E.2 J 9) y.1.2.1 ∧ VPd E S J y.1.2.2) → InvI A y.1.2 n → S.1 J 4 = n32 y.2.1 → S.1 J 3 = y.2.2 → ∃ S', lp_X5_run_22 fu E J F y.1.1 (n32 r) S = some ((aRun A n y).1.1, S') ∧ Ag (PPr E J) S S' ∧ VTb E S' (E.2 J 9) (lft (aRun A n y)) ∧ TWX A (lft (aRun A n y)) ∧ S'.1 J 4 = n32 (aRun A n y).2.1 ∧ S'.1 J 3 = (aRun A n y).2.2 := by
  have h100 := hA.2.2.2.2.2.1
  have hE := L.1
  have hI := L.2.1
  have hP := mu_pr L
  intro n
  induction n with
  | zero =>
    intro F r S y hF hr v vv iv h4 h3
    obtain ⟨F, rfl⟩ : ∃ z, F = z + 1 := ⟨F - 1, by omega⟩
    show ∃ S', bd_X5_run_22 fu E J (lp_X5_run_22 fu E J F) y.1.1 (n32 r) S = some (y.1.1, S') ∧ Ag (PPr E J) S S' ∧ VTb E S' (E.2 J 9) (lft y) ∧ TWX A (lft y) ∧ S'.1 J 4 = n32 y.2.1 ∧ S'.1 J 3 = y.2.2
    unfold bd_X5_run_22 lft
    rw [show (1000000 : Int32) = n32 1000000 from rfl, zi_le (by decide) (by omega), if_neg (by omega)]
    by_cases c : y.1.1 = 0
    · obtain ⟨vt, vp⟩ := vv c
      rw [if_pos c, if_pos c]
      unfold sp_X5_takePending
      have e := c_tak (fu := fu) hE L.2.2.1 vp h100 v.2.2.2.2.2.2.1 (cn A.2.2) 0 fu (by omega) (by omega)
      cases hp : fstP y.1.2.2 0 (cn A.2.2) with
      | none =>
        rw [hp] at e
        have e : lp_X5_takePending_2 fu E J fu 0 S = some (-1, S) := e
        rw [e, Option.bind_some, if_neg (show ¬ (0 : Int32) ≤ -1 by decide)]
        exact ⟨S, by rw [c], Ag_refl, vt, iv.1, h4, h3⟩
      | some i =>
        have := fstP_some _ _ _ hp
        have p := phi_pos (s := y.1.2) (i := i) (by omega) this.2.2
        have := iv.2.2
        omega
    · rw [if_neg c, if_neg c]
      obtain ⟨S1, e1, v1, a1⟩ := t_clear (fu := fu) (S := S) hfu (lj_t L)
      rw [e1, Option.bind_some]
      have nj := nJ_pt L
      exact ⟨S1, rfl, Ag_mono a1 (pr_pt L), v1, fun _ _ _ h => (by cases h), by rw [(a1 J nj).1]; exact h4, by rw [(a1 J nj).1]; exact h3⟩
  | succ n ih =>
    intro F r S y hF hr v vv iv h4 h3
    obtain ⟨F, rfl⟩ : ∃ z, F = z + 1 := ⟨F - 1, by omega⟩
    have go : aRun A (n + 1) y = if y.1.1 = 0 then (match fstP y.1.2.2 0 (cn A.2.2) with
      | none => y
      | some i => match y.1.2.1 i with
        | none => y
        | some x => aRun A n (tak A y i x)) else y := rfl
    rw [go]
    show ∃ S', bd_X5_run_22 fu E J (lp_X5_run_22 fu E J F) y.1.1 (n32 r) S = _ ∧ _
    unfold bd_X5_run_22
    rw [show (1000000 : Int32) = n32 1000000 from rfl, zi_le (by decide) (by omega), if_neg (by omega)]
    by_cases c : y.1.1 = 0
    · obtain ⟨vt, vp⟩ := vv c
      rw [if_pos c, if_pos c]
      unfold sp_X5_takePending
      have e := c_tak (fu := fu) hE L.2.2.1 vp h100 v.2.2.2.2.2.2.1 (cn A.2.2) 0 fu (by omega) (by omega)
      cases hp : fstP y.1.2.2 0 (cn A.2.2) with
      | none =>
        rw [hp] at e
        have e : lp_X5_takePending_2 fu E J fu 0 S = some (-1, S) := e
        rw [e, Option.bind_some, if_neg (show ¬ (0 : Int32) ≤ -1 by decide)]
        unfold lft
        dsimp only
        rw [if_pos c]
        exact ⟨S, by rw [c], Ag_refl, vt, iv.1, h4, h3⟩
      | some i =>
        rw [hp] at e
        have e : lp_X5_takePending_2 fu E J fu 0 S = some (n32 i, sG S (E.2 J 10) i 0) := e
        obtain ⟨_, hi, hpi⟩ := fstP_some _ _ _ hp
        have hi : i < cn A.2.2 := by omega
        have hin : inb (n32 i) 100 = true := by rw [z_inb (by omega)]; omega
        have hso := iv.2.1 i (by omega) hpi
        dsimp only
        cases hx : y.1.2.1 i with
        | none => rw [hx] at hso; cases hso
        | some x =>
          dsimp only
          rw [e, Option.bind_some, if_pos (by have := n32_ge (n := i) (by omega); simpa using this), if_pos hin, z_nat (show i < 2 ^ 31 by omega)]
          dsimp only
          have a1 : Ag (fun q => q = E.2 J 10) S (sG S (E.2 J 10) i 0) := sG_ag
          have a1' : Ag (PPr E J) S (sG S (E.2 J 10) i 0) := Ag_mono a1 (fun q z => Or.inr (Or.inr (Or.inr (Or.inr z))))
          have vt1 : VTb E (sG S (E.2 J 10) i 0) (E.2 J 9) y.1.2.1 := vtb_ag vt a1 (fun q h z => pd_pt hE hI L.2.2.1 (lj_t L) (z ▸ h))
          have vp1 : VPd E (sG S (E.2 J 10) i 0) J (upB y.1.2.2 i false) := fun j hj => by
            show up2 S.2.1 (E.2 J 10) i 0 (E.2 J 10) j = b2 (if j = i then false else y.1.2.2 j)
            by_cases q : j = i
            · rw [if_pos q, q, up2_s]; rfl
            · rw [if_neg q, up2_n _ _ (fun z => q z.2)]; exact vp j hj
          have vx := (vt1.2.1 i x (by omega) hx).1
          have wx := iv.1 i x (by omega) hx
          obtain ⟨S2, e2, v2, a2⟩ := f_copy (fu := fu) hE hI (lj_p L) (tb_f hE (lj_t L) (show i < 100 by omega)) (lj_pt L i (by omega)) vx wx.1.2.2
          have e2' : sp_X3_copyFrom fu E (sG S (E.2 J 10) i 0) (E.2 J 2) (E.2 (E.2 (E.2 J 9) 0) i) = some S2 := e2
          rw [e2', Option.bind_some]
          have a2' : Ag (PPr E J) (sG S (E.2 J 10) i 0) S2 := Ag_mono a2 (fun q z => Or.inr (Or.inr (Or.inl (Or.inr z))))
          have ag2 := Ag_trans a1' a2'
          have ve2 := venv_mu hE v ag2 hP (lj_T L) (lj_B L) (lj_C L)
          have vt2 := vtb_ag vt1 a2 (fun q h z => pf_pt hE hI (lj_t L) (lj_p L) (lj_pt L) q z h)
          have vp2 := vpd_ag vp1 a2 (pd_pf hE L.2.2.1 (lj_p L))
          obtain ⟨iv1, iv2⟩ := inv_tak hA hs hG iv hi hpi hx
          obtain ⟨S3, e3, a3, r3, j4, j3⟩ := c_prI (fu := fu) (s := (y.1.2.1, upB y.1.2.2 i false)) L hA hs hG hfu wx hi ve2 vt2 vp2 iv1.1 v2
          rw [e3, Option.bind_some]
          have nj10 : ¬ J = E.2 J 10 := fun z => ne_ty L.2.2.1 (pd_z hE L.2.2.1) (by decide) z
          have s2 : ∀ q, S2.1 J q = S.1 J q := fun q => by rw [(a2 J (nJ_pf L (lj_p L))).1]; rfl
          have ag3 := Ag_trans ag2 a3
          obtain ⟨S4, e4, a4, r4⟩ := ih F (r + 1) S3 (tak A y i x) (by omega) (by omega) (venv_mu hE v ag3 hP (lj_T L) (lj_B L) (lj_C L)) (fun z => ⟨(r3 z).1, (r3 z).2.1⟩) iv2 (by rw [j4, s2, h4]; exact z_add _ 1) (by rw [j3, s2, h3]; rfl)
          rw [show n32 r + 1 = n32 (r + 1) from z_add r 1]
          exact ⟨S4, e4, Ag_trans ag3 a4, r4⟩
    · rw [if_neg c, if_neg c]
      obtain ⟨S1, e1, v1, a1⟩ := t_clear (fu := fu) (S := S) hfu (lj_t L)
      rw [e1, Option.bind_some]
      have nj := nJ_pt L
      unfold lft
      rw [if_neg c]
      exact ⟨S1, rfl, Ag_mono a1 (pr_pt L), v1, fun _ _ _ h => (by cases h), by rw [(a1 J nj).1]; exact h4, by rw [(a1 J nj).1]; exact h3⟩
end CRN
