/-! the reference checks, whole -/
theorem gPr_f {A : Enw} {tb : Nat → Option Fr} {i : Nat} {g : Fr} (h : (gPr A (flK A.1 tb) nfK i g false).1 = 0) : (gPr A (flK A.1 tb) nfK i g false).2 = fal (cop A.2.2 i) := by
  unfold gPr at h ⊢
  have g2 := gHd_2 (A := A) (tb := tb) (i := i) (f := g) (b := false) (chn A.2.2) 0
  by_cases c : (gHd A (flK A.1 tb) i g 0 (chn A.2.2) false).1 = 0
  · rw [if_pos c] at h ⊢
    by_cases c2 : (aExec A i g).2 = 0
    · rw [if_pos c2, g2] at h ⊢
      unfold gSu gS1 at h ⊢
      cases hf : fal (cop A.2.2 i) with
      | true =>
        rw [hf] at h
        rw [if_pos (show true = true from rfl)] at h ⊢
        by_cases c3 : i + 1 < cn A.2.2
        · rw [if_pos c3]
          show (if (0 : Int32) = 0 then (if jmp (cop A.2.2 i) = true then flK A.1 tb (aExec A i g).1 (cx A.2.2 i).toNatClampNeg true else ((0 : Int32), true)) else (0, true)).2 = true
          rw [if_pos rfl]
          split
          · exact flK_2
          · rfl
        · rw [if_neg c3] at h
          exact absurd h (show ¬ (7 : Int32) = 0 by decide)
      | false =>
        rw [if_neg (show ¬ false = true by decide)]
        show (if (0 : Int32) = 0 then (if jmp (cop A.2.2 i) = true then flK A.1 tb (aExec A i g).1 (cx A.2.2 i).toNatClampNeg false else ((0 : Int32), false)) else (0, false)).2 = false
        rw [if_pos rfl]
        split
        · exact flK_2
        · rfl
    · rw [if_neg c2] at h; exact absurd h c2
  · rw [if_neg c] at h; exact absurd h c
theorem aCk_ne {A : Enw} {tb : Nat → Option Fr} {y : Cst} (h : y.1 ≠ 0) : ∀ k i, aCk A tb k i y = y
  | 0, _ => rfl
  | k + 1, i => by
    show (if y.1 = 0 then aCk A tb k (i + 1) (aCkS A tb i y) else y) = y
    rw [if_neg h]
section RCW
variable {E : Ev} {S : St} {m fu : Nat} {A : Enw} {tb ti : Nat → Option Fr}
def RK (E : Ev) (m : Nat) (A : Enw) (tb ti : Nat → Option Fr) (S : St) (y : Cst) : Prop := VRe E S m A ∧ S.1 m 35 = y.1 ∧ 0 ≤ y.1 ∧ S.1 m 36 = y.2.2.2 ∧ (y.1 = 0 → y.2.2.2 = -1) ∧ S.1 m 37 = n32 y.2.2.1 ∧ (VRD E S m tb ∧ VRI E S m ti ∧ S.1 m 38 = 1) ∧ (y.1 = 0 → S.1 m 41 = b2 y.2.1.2 ∧ (y.2.1.2 = true → VN E S m y.2.1.1 ∧ WX A y.2.1.1))
theorem r_ckL (L : LR E m) (hA : EI A) (hs : cst A.2.2 = true) (hG : (exam A).1 = 0 → Good A) (hfu : 200 ≤ fu) (tw : TWX A tb) : ∀ (k i F : Nat) (S : St) (y : Cst), i + k = cn A.2.2 → k + 1 ≤ F → (y.1 = 0 → Good A) → RK E m A tb ti S y → ∃ S', lp_X12_check_45 fu E m F (n32 i) S = some ((aCk A tb k i y).1, S') ∧ AgL E m [35, 36, 37, 41, 43] [28, 29, 39, 40, 42] S S' ∧ RK E m A tb ti S' (aCk A tb k i y) := by
  have h100 := hA.2.2.2.2.2.1
  intro k
  induction k with
  | zero =>
    intro i F S y hk hF hg v
    obtain ⟨F, rfl⟩ : ∃ z, F = z + 1 := ⟨F - 1, by omega⟩
    have h19 : S.1 m 19 = n32 (cn A.2.2) := v.1.2.2.2.2.2.2.1
    show ∃ S', bd_X12_check_45 fu E m _ (n32 i) S = some (y.1, S') ∧ _ ∧ RK E m A tb ti S' y
    unfold bd_X12_check_45
    rw [h19, zi_le (by omega) (by omega), if_pos (by omega), v.2.1]
    exact ⟨S, rfl, agl_refl, v⟩
  | succ k ih =>
    intro i F S y hk hF hg v
    obtain ⟨F, rfl⟩ : ∃ z, F = z + 1 := ⟨F - 1, by omega⟩
    have hi : i < cn A.2.2 := by omega
    have h19 : S.1 m 19 = n32 (cn A.2.2) := v.1.2.2.2.2.2.2.1
    have go : aCk A tb (k + 1) i y = if y.1 = 0 then aCk A tb k (i + 1) (aCkS A tb i y) else y := rfl
    rw [go]
    show ∃ S', bd_X12_check_45 fu E m (lp_X12_check_45 fu E m F) (n32 i) S = _ ∧ _
    unfold bd_X12_check_45 bnd
    rw [h19, zi_le (by omega) (by omega), if_neg (by omega), rx_well, Option.bind_some, v.2.1, b2_if, show n32 i + 1 = n32 (i + 1) from z_add i 1]
    dsimp only
    by_cases c : y.1 = 0
    · have hG := hg c
      have k41 := v.2.2.2.2.2.2.2 c
      have kt := v.2.2.2.2.2.2.1
      have q : QK E m tb ti S y.2.1.2 := ⟨kt.1, kt.2.1, kt.2.2, k41.1⟩
      rw [if_pos (show (y.1 == 0) = true by rw [c]; rfl), if_pos c]
      obtain ⟨S1, e1, a1, r1⟩ := r_enter (fu := fu) (i := i) L hA hfu tw (show i < 100 by omega) v.1 q (by rw [v.2.1]; exact c) k41.2
      rw [e1, Option.bind_some]
      have a2 : AgL E m [41] [] S1 (sF S1 m 41 0) := agl_sF (by decide)
      have e41 : (sF S1 m 41 0).1 m 41 = 0 := up2_s _ _
      have ag1 : AgL E m [35, 36, 37, 41, 43] [28, 29, 39, 40, 42] S S1 := agl_mono a1 (by decide) (by decide)
      have ag2 : AgL E m [35, 36, 37, 41, 43] [28, 29, 39, 40, 42] S (sF S1 m 41 0) := agl_trans ag1 (agl_mono a2 (by decide) (by decide))
      generalize sF S1 m 41 0 = S2 at a2 e41 ag2 ⊢
      have v2 : VRe E S2 m A := vre_ag L v.1 (agl_mono ag2 (by decide) (by decide))
      have vd2 : VRD E S2 m tb := vrd_ag L kt.1 ag2 rfl rfl rfl
      have vi2 : VRI E S2 m ti := vri_ag L (vri_ag L kt.2.1 a1 rfl rfl rfl) a2 rfl rfl rfl
      have e38 : S2.1 m 38 = 1 := by rw [agl_f ag2 rfl]; exact kt.2.2
      have e37 : S2.1 m 37 = n32 y.2.2.1 := by rw [agl_f a2 rfl, agl_f a1 rfl]; exact v.2.2.2.2.2.1
      rw [rx_well, Option.bind_some, b2_if]
      dsimp only
      unfold aCkS
      cases he : aEnt A.1 tb i y.2.1.1 y.2.1.2 with
      | none =>
        rw [he] at r1
        have r1 : S1.1 m 35 = 10 ∧ S1.1 m 36 = n32 i := r1
        have j35 : S2.1 m 35 = 10 := by rw [agl_f a2 rfl]; exact r1.1
        rw [if_neg (show ¬ (S2.1 m 35 == 0) = true by rw [j35]; decide)]
        obtain ⟨S', e, a, r⟩ := ih (i + 1) F S2 (10, (y.2.1.1, false), y.2.2.1, n32 i) (by omega) (by omega) (fun z => absurd z (show ¬ (10 : Int32) = 0 by decide)) ⟨v2, j35, (show (0 : Int32) ≤ 10 by decide), by rw [agl_f a2 rfl]; exact r1.2, fun z => absurd z (show ¬ (10 : Int32) = 0 by decide), e37, ⟨vd2, vi2, e38⟩, fun z => absurd z (show ¬ (10 : Int32) = 0 by decide)⟩
        exact ⟨S', e, agl_trans ag2 a, r⟩
      | some g =>
        rw [he] at r1
        have r1 : VN E S1 m g ∧ S1.1 m 35 = 0 ∧ S1.1 m 36 = S.1 m 36 := r1
        have wg := aEnt_wx tw (show i < 100 by omega) (fun z => (k41.2 z).2) he
        have j35 : S2.1 m 35 = 0 := by rw [agl_f a2 rfl]; exact r1.2.1
        rw [if_pos (show (S2.1 m 35 == 0) = true by rw [j35]; rfl)]
        have hx := okX_of (hA.2.2.2.2.2.2.2.1 i hi) ((good_all hG).1 i hi)
        have j36 : S2.1 m 36 = -1 := by rw [agl_f a2 rfl, r1.2.2, v.2.2.2.1]; exact v.2.2.2.2.1 c
        obtain ⟨S3, e3, a3, k3, j37, kn⟩ := r_pr (fl := flK A.1 tb) (nf := nfK) (Q := QK E m tb ti) L hA hs hG hfu (rf1_K L hA hfu tw) (rf2_K L) (rf3_K L) hi wg v2 (vn_ag L r1.1 a2 rfl rfl) (s := false) ⟨vd2, vi2, e38, e41⟩ j35 j36
        rw [e3, Option.bind_some]
        have q3 := k3.2.2.2.2.2
        obtain ⟨S', e, a, r⟩ := ih (i + 1) F S3 (aCkG A tb i y g) (by omega) (by omega) (fun _ => hG) ⟨k3.1, k3.2.2.1, k3.2.2.2.1, by
            rw [k3.2.2.2.2.1]
            show _ = (if (gPr A (flK A.1 tb) nfK i g false).1 = 0 then y.2.2.2 else n32 i)
            rw [v.2.2.2.2.1 c], fun z => by
            show (if (gPr A (flK A.1 tb) nfK i g false).1 = 0 then y.2.2.2 else n32 i) = -1
            rw [if_pos (show (gPr A (flK A.1 tb) nfK i g false).1 = 0 from z)]; exact v.2.2.2.2.1 c, by rw [j37, e37]; exact z_add _ 1, ⟨q3.1, q3.2.1, q3.2.2.1⟩, fun z => ⟨by rw [q3.2.2.2, gPr_f z]; rfl, fun _ => ⟨kn z, wx_exec hA hs hi hx wg (gPr_0 (show (gPr A (flK A.1 tb) nfK i g false).1 = 0 from z))⟩⟩⟩
        exact ⟨S', e, agl_trans ag2 (agl_trans a3 a), r⟩
    · rw [if_neg (show ¬ (y.1 == 0) = true by rw [beq_iff_eq]; exact c), if_neg c]
      exact ⟨S, rfl, agl_refl, v⟩
theorem r_chk (L : LR E m) (hA : EI A) (hs : cst A.2.2 = true) (hfu : 200 ≤ fu) (tw : TWX A tb) (v : VRe E S m A) (vd : VRD E S m tb) (vi : VRI E S m ti) : ∃ S', sp_X12_check fu E S m = some ((aChk A tb).1, S') ∧ AgL E m [0, 35, 36, 37, 38, 41, 43] [28, 29, 39, 40, 42] S S' ∧ VRD E S' m tb ∧ VRI E S' m ti ∧ S'.1 m 0 = 0 ∧ S'.1 m 35 = (aChk A tb).1 ∧ S'.1 m 36 = (aChk A tb).2.2.2 ∧ S'.1 m 37 = n32 (aChk A tb).2.2.1 := by
  have h100 := hA.2.2.2.2.2.1
  unfold sp_X12_check bnd
  dsimp only
  have a0 : AgL E m [0] [] S (sF S m 0 0) := agl_sF (by decide)
  have e0 : (sF S m 0 0).1 m 0 = 0 := up2_s _ _
  generalize sF S m 0 0 = S0 at a0 e0 ⊢
  have v0 := vre_ag L v (agl_mono a0 (by decide) (by decide))
  have h15 : S0.1 m 15 = b2 (cst A.2.2) := v0.2.2.1
  rw [h15, hs, if_neg (by decide)]
  have a1 : AgL E m [38] [] S0 (sF S0 m 38 1) := agl_sF (by decide)
  have e38 : (sF S0 m 38 1).1 m 38 = 1 := up2_s _ _
  generalize sF S0 m 38 1 = S1 at a1 e38 ⊢
  have v1 := vre_ag L v0 (agl_mono a1 (by decide) (by decide))
  obtain ⟨S2, e2, k35, k36, k37, a2⟩ := r_exam (fu := fu) (S := S1) L hA hs (by omega) v1
  have v2 := vre_ag L v1 (agl_mono a2 (by decide) (by decide))
  rw [e2, Option.bind_some, rx_well, Option.bind_some, k35, b2_if]
  dsimp only
  have vd2 : VRD E S2 m tb := vrd_ag L (vrd_ag L (vrd_ag L vd a0 rfl rfl rfl) a1 rfl rfl rfl) a2 rfl rfl rfl
  have vi2 : VRI E S2 m ti := vri_ag L (vri_ag L (vri_ag L vi a0 rfl rfl rfl) a1 rfl rfl rfl) a2 rfl rfl rfl
  have j38 : S2.1 m 38 = 1 := by rw [agl_f a2 rfl]; exact e38
  have j0 : S2.1 m 0 = 0 := by rw [agl_f a2 rfl, agl_f a1 rfl]; exact e0
  have a02 : AgL E m [0, 35, 36, 37, 38, 41, 43] [28, 29, 39, 40, 42] S S2 := agl_trans (agl_mono a0 (by decide) (by decide)) (agl_trans (agl_mono a1 (by decide) (by decide)) (agl_mono a2 (by decide) (by decide)))
  have hpos : 0 ≤ (exam A).1 := by
    unfold exam
    split
    · decide
    · unfold exO
      split
      · exact (show (0 : Int32) ≤ 1 by decide)
      · unfold exH
        split
        · exact (show (0 : Int32) ≤ 2 by decide)
        · unfold exN
          split <;> decide
  have fin : ∀ (S3 : St) (y : Cst), AgL E m [0, 35, 36, 37, 38, 41, 43] [28, 29, 39, 40, 42] S S3 → S3.1 m 0 = 0 → (y.1 = 0 → Good A) → RK E m A tb ti S3 y → ∃ S', lp_X12_check_45 fu E m fu 0 S3 = some ((aCk A tb (cn A.2.2) 0 y).1, S') ∧ AgL E m [0, 35, 36, 37, 38, 41, 43] [28, 29, 39, 40, 42] S S' ∧ VRD E S' m tb ∧ VRI E S' m ti ∧ S'.1 m 0 = 0 ∧ S'.1 m 35 = (aCk A tb (cn A.2.2) 0 y).1 ∧ S'.1 m 36 = (aCk A tb (cn A.2.2) 0 y).2.2.2 ∧ S'.1 m 37 = n32 (aCk A tb (cn A.2.2) 0 y).2.2.1 := by
    intro S3 y a3 z0 hg rk
    obtain ⟨S', e, a, r⟩ := r_ckL (fu := fu) L hA hs exam_good hfu tw (cn A.2.2) 0 fu S3 y (by omega) (by omega) hg rk
    exact ⟨S', e, agl_trans a3 (agl_mono a (by decide) (by decide)), r.2.2.2.2.2.2.1.1, r.2.2.2.2.2.2.1.2.1, by rw [agl_f a rfl]; exact z0, r.2.1, r.2.2.2.1, r.2.2.2.2.2.1⟩
  unfold aChk
  by_cases c : (exam A).1 = 0
  · rw [if_pos (show ((exam A).1 == 0) = true by rw [c]; rfl), if_pos c]
    have hG := exam_good c
    have hp : (exam A).2 = -1 := by rw [show exam A = (0, -1) from hG]
    obtain ⟨S3, e3, vn, a3⟩ := r_first (fu := fu) (by omega) L hA hs (good_all hG).2.2 v2
    rw [e3, Option.bind_some]
    have wx := wx_fst hA hs (good_all hG).2.2
    have a3' : AgL E m [0, 35, 36, 37, 38, 41, 43] [28, 29, 39, 40, 42] S2 S3 := agl_mono a3 (fun _ z => absurd z List.not_mem_nil) (by decide)
    have a4 : AgL E m [41] [] S3 (sF S3 m 41 1) := agl_sF (by decide)
    refine fin (sF S3 m 41 1) _ (agl_trans a02 (agl_trans a3' (agl_mono a4 (by decide) (by decide)))) (by rw [agl_f a4 rfl, agl_f a3 rfl]; exact j0) (fun _ => hG) ⟨vre_ag L (vre_ag L v2 (agl_mono a3 (fun _ z => absurd z List.not_mem_nil) (by decide))) (agl_mono a4 (by decide) (by decide)), by rw [agl_f a4 rfl, agl_f a3 rfl, k35, c], Int32.le_refl _, by rw [agl_f a4 rfl, agl_f a3 rfl, k36, hp], fun _ => rfl, by rw [agl_f a4 rfl, agl_f a3 rfl, k37]; rfl, ⟨vrd_ag L (vrd_ag L vd2 a3 rfl rfl rfl) a4 rfl rfl rfl, vri_ag L (vri_ag L vi2 a3 rfl rfl rfl) a4 rfl rfl rfl, by rw [agl_f a4 rfl, agl_f a3 rfl]; exact j38⟩, fun _ => ⟨up2_s _ _, fun _ => ⟨vn_ag L vn a4 rfl rfl, wx⟩⟩⟩
  · rw [if_neg (show ¬ ((exam A).1 == 0) = true by rw [beq_iff_eq]; exact c), if_neg c]
    have a4 : AgL E m [41] [] S2 (sF S2 m 41 1) := agl_sF (by decide)
    have r := fin (sF S2 m 41 1) ((exam A).1, (aFst A, false), 0, (exam A).2) (agl_trans a02 (agl_mono a4 (by decide) (by decide))) (by rw [agl_f a4 rfl]; exact j0) (fun z => absurd z c) ⟨vre_ag L v2 (agl_mono a4 (by decide) (by decide)), by rw [agl_f a4 rfl, k35], hpos, by rw [agl_f a4 rfl, k36], fun z => absurd z c, by rw [agl_f a4 rfl, k37]; rfl, ⟨vrd_ag L vd2 a4 rfl rfl rfl, vri_ag L vi2 a4 rfl rfl rfl, by rw [agl_f a4 rfl]; exact j38⟩, fun z => absurd z c⟩
    rw [aCk_ne (y := ((exam A).1, (aFst A, false), 0, (exam A).2)) c] at r
    exact r
end RCW
