/-! the reference infers, whole -/
section RIW
variable {E : Ev} {S : St} {m fu : Nat} {A : Enw}
theorem r_disL (L : LR E m) : ∀ (k i F : Nat) (S : St), i + k = 100 → k + 1 ≤ F → (∀ z, z < i → S.2.1 (E.2 m 28) z = 0) → ∃ S', lp_X12_discard_7 fu E m F (n32 i) S = some S' ∧ VRI E S' m (fun _ => none) ∧ AgL E m [] [28] S S' := by
  intro k
  induction k with
  | zero =>
    intro i F S hk hF h
    obtain ⟨F, rfl⟩ : ∃ z, F = z + 1 := ⟨F - 1, by omega⟩
    show ∃ S', bd_X12_discard_7 fu E m _ (n32 i) S = some S' ∧ _
    unfold bd_X12_discard_7
    rw [show (100 : Int32) = n32 100 from rfl, zi_le (by decide) (by omega), if_pos (by omega)]
    exact ⟨S, rfl, ⟨fun z hz => h z (by omega), fun _ _ _ e => (by cases e)⟩, agl_refl⟩
  | succ k ih =>
    intro i F S hk hF h
    obtain ⟨F, rfl⟩ : ∃ z, F = z + 1 := ⟨F - 1, by omega⟩
    have hin : inb (n32 i) 100 = true := by rw [z_inb (by omega)]; omega
    show ∃ S', bd_X12_discard_7 fu E m (lp_X12_discard_7 fu E m F) (n32 i) S = some S' ∧ _
    unfold bd_X12_discard_7 bnd
    rw [show (100 : Int32) = n32 100 from rfl, zi_le (by decide) (by omega), if_neg (by omega), if_pos hin, z_nat (show i < 2 ^ 31 by omega), show n32 i + 1 = n32 (i + 1) from z_add i 1]
    obtain ⟨S', e, v, a⟩ := ih (i + 1) F (sG S (E.2 m 28) i 0) (by omega) (by omega) (fun z hz => by
      show up2 S.2.1 (E.2 m 28) i 0 (E.2 m 28) z = 0
      by_cases c : z = i
      · rw [c, up2_s]
      · rw [up2_n _ _ (fun u => c u.2)]; exact h z (by omega))
    exact ⟨S', e, v, agl_trans (agl_sG (by decide)) a⟩
theorem r_dis (L : LR E m) (hfu : 200 ≤ fu) : ∃ S', sp_X12_discard fu E S m = some S' ∧ VRI E S' m (fun _ => none) ∧ S'.1 m 27 = 0 ∧ AgL E m [27] [28] S S' := by
  unfold sp_X12_discard bnd
  obtain ⟨S', e, v, a⟩ := r_disL (fu := fu) (m := m) L 100 0 fu (sF S m 27 0) rfl (by omega) (fun z hz => absurd hz (Nat.not_lt_zero z))
  have a0 : AgL E m [27] [28] S (sF S m 27 0) := agl_sF (by decide)
  exact ⟨S', e, v, by rw [agl_f a rfl]; exact up2_s _ _, agl_trans a0 (agl_mono a (fun _ z => absurd z List.not_mem_nil) (by decide))⟩
theorem r_runL (L : LR E m) (hA : EI A) (hs : cst A.2.2 = true) (hG : Good A) (hfu : 1000000 ≤ fu) : ∀ (k i F : Nat) (S : St), i + k = 100 → k + 1 ≤ F → VRe E S m A → S.1 m 38 = 0 → S.1 m 35 = 0 → S.1 m 36 = -1 → S.1 m 37 = 0 → VRI E S m (fun _ => none) → (∀ z, z < i → S.2.1 (E.2 m 42) z = 0) → ∃ S', lp_X12_run_2 fu E m F (n32 i) S = some S' ∧ AgL E m [35, 36, 37, 41, 43] [28, 29, 39, 40, 42] S S' ∧ RS E m A S' (aRun A 600000 ((0, ist0 A), 0, -1)) := by
  intro k
  induction k with
  | zero =>
    intro i F S hk hF v h38 h35 h36 h37 vi h
    obtain ⟨F, rfl⟩ : ∃ z, F = z + 1 := ⟨F - 1, by omega⟩
    show ∃ S', bd_X12_run_2 fu E m _ (n32 i) S = some S' ∧ _
    unfold bd_X12_run_2
    rw [show (100 : Int32) = n32 100 from rfl, zi_le (by decide) (by omega), if_pos (by omega)]
    obtain ⟨S1, e1, vn, a1⟩ := r_first (fu := fu) (by omega) L hA hs (good_all hG).2.2 v
    rw [e1, Option.bind_some]
    have wx := wx_fst hA hs (good_all hG).2.2
    have a1' := agl_mono (fs' := fsV) (rs' := rsV) a1 (fun _ z => absurd z List.not_mem_nil) (by decide)
    have v1 := vre_ag L v a1'
    have vp : VRP E S m (fun _ => false) := fun z hz => h z (by omega)
    obtain ⟨S2, e2, a2, _, k0⟩ := r_merge (fu := fu) (pd := fun _ => false) L hA (by omega) (show 0 < 100 by decide) (Or.inl rfl) v1 (vri_ag L vi a1 rfl rfl rfl) (vrp_ag L vp a1 rfl rfl) (fun _ _ _ e => by cases e) vn wx (by rw [agl_f a1 rfl]; exact h35)
    have e2 : sp_X12_merge fu E S1 m (E.2 m 39) 0 = some S2 := e2
    rw [e2, Option.bind_some]
    have k := k0 (ist0 A) rfl
    have iv := inv_ist0 hA hs hG
    have v2 : RS E m A S2 ((0, ist0 A), 0, -1) := ⟨vre_ag L v1 (agl_mono a2 (by decide) (by decide)), k.1, Int32.le_refl _, by rw [k.2.1, agl_f a1 rfl]; exact h36, fun _ => rfl, by rw [agl_f a2 rfl, agl_f a1 rfl]; exact h37, fun _ => ⟨k.2.2.1, k.2.2.2, iv.1, by rw [agl_f a2 rfl, agl_f a1 rfl]; exact h38⟩⟩
    obtain ⟨S3, e3, a3, k3⟩ := r_run (fu := fu) L hA hs hG (by omega) 600000 fu S2 ((0, ist0 A), 0, -1) (by omega) v2 iv
    exact ⟨S3, e3, agl_trans (agl_mono a1 (fun _ z => absurd z List.not_mem_nil) (by decide)) (agl_trans (agl_mono a2 (by decide) (by decide)) a3), k3⟩
  | succ k ih =>
    intro i F S hk hF v h38 h35 h36 h37 vi h
    obtain ⟨F, rfl⟩ : ∃ z, F = z + 1 := ⟨F - 1, by omega⟩
    have hin : inb (n32 i) 100 = true := by rw [z_inb (by omega)]; omega
    show ∃ S', bd_X12_run_2 fu E m (lp_X12_run_2 fu E m F) (n32 i) S = some S' ∧ _
    unfold bd_X12_run_2 bnd
    rw [show (100 : Int32) = n32 100 from rfl, zi_le (by decide) (by omega), if_neg (by omega), if_pos hin, z_nat (show i < 2 ^ 31 by omega), show n32 i + 1 = n32 (i + 1) from z_add i 1]
    have a1 : AgL E m [] [42] S (sG S (E.2 m 42) i 0) := agl_sG (by decide)
    obtain ⟨S', e, a, r⟩ := ih (i + 1) F (sG S (E.2 m 42) i 0) (by omega) (by omega) (vre_ag L v (agl_mono a1 (fun _ z => absurd z List.not_mem_nil) (by decide))) h38 h35 h36 h37 (vri_ag L vi a1 rfl rfl rfl) (fun z hz => by
      show up2 S.2.1 (E.2 m 42) i 0 (E.2 m 42) z = 0
      by_cases c : z = i
      · rw [c, up2_s]
      · rw [up2_n _ _ (fun u => c u.2)]; exact h z (by omega))
    exact ⟨S', e, agl_trans (agl_mono a1 (fun _ z => absurd z List.not_mem_nil) (by decide)) a, r⟩
theorem aRun_tw {A : Enw} (hA : EI A) (hs : cst A.2.2 = true) (hG : Good A) : ∀ (n : Nat) (y : Rst), InvI A y.1.2 n → TWX A (aRun A n y).1.2.1 := by
  have h100 := hA.2.2.2.2.2.1
  intro n
  induction n with
  | zero => intro y iv; exact iv.1
  | succ n ih =>
    intro y iv
    have go : aRun A (n + 1) y = if y.1.1 = 0 then (match fstP y.1.2.2 0 (cn A.2.2) with
      | none => y
      | some i => match y.1.2.1 i with
        | none => y
        | some x => aRun A n (tak A y i x)) else y := rfl
    rw [go]
    by_cases c : y.1.1 = 0
    · rw [if_pos c]
      cases hp : fstP y.1.2.2 0 (cn A.2.2) with
      | none => exact iv.1
      | some i =>
        obtain ⟨_, hi, hpi⟩ := fstP_some _ _ _ hp
        dsimp only
        cases hx : y.1.2.1 i with
        | none => exact iv.1
        | some x => exact ih _ (inv_tak hA hs hG iv (by omega) hpi hx).2
    · rw [if_neg c]; exact iv.1
theorem r_inf (L : LR E m) (hA : EI A) (hs : cst A.2.2 = true) (hfu : 1000000 ≤ fu) (v : VRe E S m A) : ∃ S', sp_X12_infer fu E S m = some ((aInf A).1.1, S') ∧ AgL E m fsV rsV S S' ∧ VRI E S' m (lft (aInf A)) ∧ S'.1 m 0 = 0 ∧ S'.1 m 27 = b2 (decide ((aInf A).1.1 = 0)) ∧ S'.1 m 35 = (aInf A).1.1 ∧ S'.1 m 36 = (aInf A).2.2 ∧ S'.1 m 37 = n32 (aInf A).2.1 := by
  have a0 : AgL E m fsV rsV S (sF S m 0 0) := agl_sF (by decide)
  have v0 := vre_ag L v a0
  have e0 : (sF S m 0 0).1 m 0 = 0 := up2_s _ _
  unfold sp_X12_infer bnd
  dsimp only
  generalize sF S m 0 0 = S0 at a0 v0 e0 ⊢
  have h15 : S0.1 m 15 = b2 (cst A.2.2) := v0.2.2.1
  rw [h15, hs, if_neg (by decide)]
  obtain ⟨S1, e1, vi1, k27, a1⟩ := r_dis (S := S0) L (show 200 ≤ fu by omega)
  rw [e1, Option.bind_some]
  have a2 : AgL E m [38] [] S1 (sF S1 m 38 0) := agl_sF (by decide)
  have e38 : (sF S1 m 38 0).1 m 38 = 0 := up2_s _ _
  generalize sF S1 m 38 0 = S2 at a2 e38 ⊢
  have v2 : VRe E S2 m A := vre_ag L (vre_ag L v0 (agl_mono a1 (by decide) (by decide))) (agl_mono a2 (by decide) (by decide))
  obtain ⟨S3, e3, k35, k36, k37, a3⟩ := r_exam (fu := fu) (S := S2) L hA hs (by omega) v2
  rw [e3, Option.bind_some, rx_well, Option.bind_some, k35, b2_if]
  dsimp only
  have v3 := vre_ag L v2 (agl_mono a3 (by decide) (by decide))
  have a03 : AgL E m [27, 35, 36, 37, 38, 41, 43] [28, 29, 39, 40, 42] S0 S3 := agl_trans (agl_mono a1 (by decide) (by decide)) (agl_trans (agl_mono a2 (by decide) (by decide)) (agl_mono a3 (by decide) (by decide)))
  -- the end
  have fin : ∀ (S4 : St) (y : Rst), AgL E m [27, 35, 36, 37, 38, 41, 43] [28, 29, 39, 40, 42] S0 S4 → S4.1 m 35 = y.1.1 → S4.1 m 36 = y.2.2 → S4.1 m 37 = n32 y.2.1 → (y.1.1 = 0 → VRI E S4 m y.1.2.1) → ∃ S', jb_X12_infer_42 fu E m S4 = some (y.1.1, S') ∧ AgL E m fsV rsV S S' ∧ VRI E S' m (lft y) ∧ S'.1 m 0 = 0 ∧ S'.1 m 27 = b2 (decide (y.1.1 = 0)) ∧ S'.1 m 35 = y.1.1 ∧ S'.1 m 36 = y.2.2 ∧ S'.1 m 37 = n32 y.2.1 := by
    intro S4 y a4 j35 j36 j37 vi
    unfold jb_X12_infer_42 bnd lft
    rw [rx_well, Option.bind_some, j35, b2_if]
    dsimp only
    by_cases c : y.1.1 = 0
    · rw [if_pos (show (y.1.1 == 0) = true by rw [c]; rfl), if_pos c, decide_eq_true c]
      have a5 : AgL E m [27] [] S4 (sF S4 m 27 1) := agl_sF (by decide)
      refine ⟨sF S4 m 27 1, ?_, agl_trans a0 (agl_trans (agl_mono a4 (by decide) (by decide)) (agl_mono a5 (by decide) (by decide))), vri_ag L (vi c) a5 rfl rfl rfl, ?_, up2_s _ _, by rw [agl_f a5 rfl]; exact j35, by rw [agl_f a5 rfl]; exact j36, by rw [agl_f a5 rfl]; exact j37⟩
      · rw [show (sF S4 m 27 1).1 m 35 = y.1.1 from by rw [agl_f a5 rfl]; exact j35]
      · rw [agl_f a5 rfl, agl_f a4 rfl]; exact e0
    · rw [if_neg (show ¬ (y.1.1 == 0) = true by rw [beq_iff_eq]; exact c), if_neg c, decide_eq_false c]
      obtain ⟨S5, e5, vi5, l27, a5⟩ := r_dis (S := S4) L (show 200 ≤ fu by omega)
      rw [e5, Option.bind_some]
      refine ⟨S5, ?_, agl_trans a0 (agl_trans (agl_mono a4 (by decide) (by decide)) (agl_mono a5 (by decide) (by decide))), vi5, ?_, l27, by rw [agl_f a5 rfl]; exact j35, by rw [agl_f a5 rfl]; exact j36, by rw [agl_f a5 rfl]; exact j37⟩
      · rw [show S5.1 m 35 = y.1.1 from by rw [agl_f a5 rfl]; exact j35]
      · rw [agl_f a5 rfl, agl_f a4 rfl]; exact e0
  unfold aInf
  by_cases c : (exam A).1 = 0
  · rw [if_pos (show ((exam A).1 == 0) = true by rw [c]; rfl), if_pos c]
    have hG := exam_good c
    have hp : (exam A).2 = -1 := by rw [show exam A = (0, -1) from hG]
    have vi3 : VRI E S3 m (fun _ => none) := vri_ag L (vri_ag L vi1 a2 rfl rfl rfl) a3 rfl rfl rfl
    unfold sp_X12_run
    obtain ⟨S4, e4, a4, k4⟩ := r_runL L hA hs hG hfu 100 0 fu S3 rfl (by omega) v3 (by rw [agl_f a3 rfl]; exact e38) (by rw [k35, c]) (by rw [k36, hp]) k37 vi3 (fun z hz => absurd hz (Nat.not_lt_zero z))
    have e4 : lp_X12_run_2 fu E m fu 0 S3 = some S4 := e4
    rw [e4, Option.bind_some]
    exact fin S4 _ (agl_trans a03 (agl_mono a4 (by decide) (by decide))) k4.2.1 k4.2.2.2.1 k4.2.2.2.2.2.1 (fun z => (k4.2.2.2.2.2.2 z).1)
  · rw [if_neg (show ¬ ((exam A).1 == 0) = true by rw [beq_iff_eq]; exact c), if_neg c]
    exact fin S3 _ a03 k35 k36 k37 (fun z => absurd z c)
end RIW
