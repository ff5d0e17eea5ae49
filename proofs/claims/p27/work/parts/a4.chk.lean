/-! checking against what was adopted -/
theorem aAll_of {p : Nat → Bool} : ∀ (k i : Nat), (∀ z, i ≤ z → z < i + k → p z = true) → aAll p i k = true
  | 0, _, _ => rfl
  | k + 1, i, h => by
    show (p i && aAll p (i + 1) k) = true
    rw [h i (Nat.le_refl _) (by omega), Bool.true_and]
    exact aAll_of k (i + 1) (fun z h1 h2 => h z (by omega) (by omega))
theorem ffA_of {x y : Fr} (vx : VOk x) (vy : VOk y) (l : LeF x y) : ffA d0 x y = true := by
  unfold ffA
  rw [decide_eq_true l.1, vx.2.2, aAll_of 12 0 (fun z _ h => ?_), aAll_of x.2.2.1 0 (fun z _ h => ?_)]
  · rfl
  · have h : z < x.2.2.1 := by omega
    rw [fits_L (vx.2.1 z h).a (vy.2.1 z (by rw [← l.1]; exact h)).a]
    exact l.2.2 z h
  · have h : z < 12 := by omega
    rw [fits_L (vx.1 z h).a (vy.1 z h).a]
    exact l.2.1 z h
def PaC (c : Cd) (ti : Nat → Option Fr) : Nat → Prop := fun t => ∃ j, j < cn c ∧ (ti j).isSome = true ∧ AdQ c j t
section CHK
variable {A : Enw} {ti tb : Nat → Option Fr}
theorem flK_0 {y : Fr} {t : Nat} {b : Bool} {x : Fr} (h : tb t = some x) (f : ffA d0 y x = true) : (flK d0 tb y t b).1 = 0 := by
  unfold flK
  rw [h]
  dsimp only
  rw [if_pos f]
theorem gHd_0 (hA : LW A) (hT : ∀ j x, ti j = some x → j < cn A.2.2 ∧ VOk x ∧ SatJ A ti j x) (hP : Adp ti (PaC A.2.2 ti) tb) {i : Nat} {x g : Fr} (hi : i < cn A.2.2) (hx : ti i = some x) (vg : VOk g) (sg : SatJ A ti i g) : ∀ (k h : Nat) (b : Bool), h + k = chn A.2.2 → (gHd A (flK A.1 tb) i g h k b).1 = 0
  | 0, _, _, _ => rfl
  | k + 1, h, b, hk => by
    have hh : h < chn A.2.2 := by omega
    show (if prot A.2.2 h i = true then (if cmost A.2.2 = 0 then ((6 : Int32), b) else if (flK A.1 tb (cauF A.2.2 h g) (tgt A.2.2 h) b).1 = 0 then gHd A (flK A.1 tb) i g (h + 1) k (flK A.1 tb (cauF A.2.2 h g) (tgt A.2.2 h) b).2 else (flK A.1 tb (cauF A.2.2 h g) (tgt A.2.2 h) b)) else gHd A (flK A.1 tb) i g (h + 1) k b).1 = 0
    by_cases c : prot A.2.2 h i = true
    · obtain ⟨w, ew, lw⟩ := sg.2.2.2 h hh c
      have et : tb (tgt A.2.2 h) = some w := ((hP (tgt A.2.2 h)).1 ⟨i, hi, by rw [hx]; rfl, Or.inr (Or.inr ⟨h, hh, c, rfl⟩)⟩).trans ew
      have f0 : (flK A.1 tb (cauF A.2.2 h g) (tgt A.2.2 h) b).1 = 0 := by
        rw [hA.1.1]
        exact flK_0 et (ffA_of (cau_ok hA hh vg) (hT _ w ew).2.1 lw)
      rw [if_pos c, if_neg (by rw [hA.2.1.2.2.1]; decide), if_pos f0]
      exact gHd_0 hA hT hP hi hx vg sg k (h + 1) _ (by omega)
    · rw [if_neg c]
      exact gHd_0 hA hT hP hi hx vg sg k (h + 1) b (by omega)
theorem gPr_ok (hA : LW A) (hT : ∀ j x, ti j = some x → j < cn A.2.2 ∧ VOk x ∧ SatJ A ti j x) (hP : Adp ti (PaC A.2.2 ti) tb) {i : Nat} {x g : Fr} (hi : i < cn A.2.2) (hx : ti i = some x) (vg : VOk g) (sg : SatJ A ti i g) : (gPr A (flK A.1 tb) nfK i g false).1 = 0 := by
  obtain ⟨-, -, ve, -⟩ := ex_le hA hi (leF_r g) vg vg sg.1
  unfold gPr
  rw [if_pos (gHd_0 hA hT hP hi hx vg sg (chn A.2.2) 0 false (by omega)), if_pos sg.1]
  generalize (gHd A (flK A.1 tb) i g 0 (chn A.2.2) false).2 = b
  have s1 : (gS1 A nfK i (aExec A i g).1 b).1 = 0 := by
    unfold gS1
    by_cases c : fal (cop A.2.2 i) = true
    · rw [if_pos c, if_pos (lw_last hA hi c)]; rfl
    · rw [if_neg c]
  unfold gSu
  rw [if_pos s1]
  by_cases c : jmp (cop A.2.2 i) = true
  · rw [if_pos c]
    obtain ⟨w, ew, lw⟩ := sg.2.2.1 c
    have et : tb (cx A.2.2 i).toNatClampNeg = some w := ((hP (cx A.2.2 i).toNatClampNeg).1 ⟨i, hi, by rw [hx]; rfl, Or.inl ⟨c, rfl⟩⟩).trans ew
    rw [hA.1.1]
    exact flK_0 et (ffA_of ve (hT _ w ew).2.1 lw)
  · rw [if_neg c]; exact s1
theorem aCk_st : ∀ (k i : Nat) (y : Cst), y.1 ≠ 0 → aCk A tb k i y = y
  | 0, _, _, _ => rfl
  | k + 1, i, y, h => if_neg h
theorem ck_lp (hA : LW A) (hT : ∀ j x, ti j = some x → j < cn A.2.2 ∧ VOk x ∧ SatJ A ti j x) (hP : Adp ti (PaC A.2.2 ti) tb) : ∀ (k i : Nat) (y : Cst), i + k = cn A.2.2 → (∀ j, j < i → (ti j).isSome = true) → y.1 = 0 → y.2.2.1 = i → y.2.2.2 = -1 → (y.2.1.2 = true → i < cn A.2.2 → ∃ x, ti i = some x ∧ VOk y.2.1.1 ∧ LeF y.2.1.1 x) → (y.2.1.2 = false → 0 < i ∧ fal (cop A.2.2 (i - 1)) = false) → ((∀ j, j < cn A.2.2 → (ti j).isSome = true) ∧ (aCk A tb k i y).1 = 0 ∧ (aCk A tb k i y).2.2.1 = cn A.2.2 ∧ (aCk A tb k i y).2.2.2 = -1) ∨ ∃ q, q < cn A.2.2 ∧ ti q = none ∧ (aCk A tb k i y).1 = 10 ∧ (aCk A tb k i y).2.2.2 = n32 q := by
  intro k
  induction k with
  | zero =>
    intro i y hk hj h0 hv hp _ _
    have : i = cn A.2.2 := by omega
    subst this
    exact Or.inl ⟨hj, h0, hv, hp⟩
  | succ k ih =>
    intro i y hk hj h0 hv hp hb hf
    have hi : i < cn A.2.2 := by omega
    have go : aCk A tb (k + 1) i y = aCk A tb k (i + 1) (aCkS A tb i y) := if_pos h0
    rw [go]
    cases hx : ti i with
    | none =>
      have b0 : y.2.1.2 = false := by
        cases c : y.2.1.2 with
        | false => rfl
        | true =>
          obtain ⟨x, e, -⟩ := hb c hi
          rw [hx] at e; cases e
      have et : tb i = none := by
        by_cases p : PaC A.2.2 ti i
        · rw [(hP i).1 p]; exact hx
        · exact (hP i).2 p
      have es : aCkS A tb i y = (10, (y.2.1.1, false), y.2.2.1, n32 i) := by
        unfold aCkS aEnt
        rw [et, b0]; rfl
      rw [es, aCk_st _ _ _ (show (10 : Int32) ≠ 0 by decide)]
      exact Or.inr ⟨i, hi, hx, rfl, rfl⟩
    | some x =>
      obtain ⟨-, vx, sx⟩ := hT i x hx
      have hg : ∃ g, aEnt A.1 tb i y.2.1.1 y.2.1.2 = some g ∧ VOk g ∧ LeF g x := by
        unfold aEnt
        cases ht : tb i with
        | none =>
          cases c : y.2.1.2 with
          | true =>
            obtain ⟨x', e, v, l⟩ := hb c hi
            rw [hx] at e; cases e
            exact ⟨_, rfl, v, l⟩
          | false =>
            obtain ⟨i0, f0⟩ := hf c
            have := (hP i).1 ⟨i, hi, by rw [hx]; rfl, Or.inr (Or.inl ⟨i0, f0, rfl⟩)⟩
            rw [ht, hx] at this; cases this
        | some x' =>
          have e := adp_h hP ht
          rw [hx] at e; cases e
          refine ⟨x, if_pos ?_, vx, leF_r x⟩
          cases c : y.2.1.2 with
          | false => exact Or.inl rfl
          | true =>
            obtain ⟨x', e, v, l⟩ := hb c hi
            rw [hx] at e; cases e
            rw [hA.1.1]
            exact Or.inr (ffA_of v vx l)
      obtain ⟨g, eg, vg, lg⟩ := hg
      have sg := sat_dn hA hi sx lg vg vx
      obtain ⟨-, -, ve, -⟩ := ex_le hA hi (leF_r g) vg vg sg.1
      have ep := gPr_ok hA hT hP hi hx vg sg
      have es : aCkS A tb i y = (0, ((aExec A i g).1, fal (cop A.2.2 i)), i + 1, -1) := by
        unfold aCkS
        rw [eg]
        dsimp only
        unfold aCkG
        rw [ep, if_pos rfl, hv, hp]
      rw [es]
      refine ih (i + 1) _ (by omega) (fun j h => ?_) rfl rfl rfl (fun c h => ?_) (fun c => ⟨Nat.succ_pos i, c⟩)
      · by_cases q : j = i
        · rw [q, hx]; rfl
        · exact hj j (by omega)
      · obtain ⟨x2, e2, l2⟩ := (sg.2.1 c).2
        exact ⟨x2, e2, ve, l2⟩
theorem chk_ok (hA : LW A) (hT : ∀ j x, ti j = some x → j < cn A.2.2 ∧ VOk x ∧ SatJ A ti j x) (h0 : ∃ x, ti 0 = some x ∧ LeF (aFst A) x) (hP : Adp ti (PaC A.2.2 ti) tb) : ((∀ j, j < cn A.2.2 → (ti j).isSome = true) ∧ (aChk A tb).1 = 0 ∧ (aChk A tb).2.2.1 = cn A.2.2 ∧ (aChk A tb).2.2.2 = -1) ∨ ∃ q, q < cn A.2.2 ∧ ti q = none ∧ (aChk A tb).1 = 10 ∧ (aChk A tb).2.2.2 = n32 q := by
  have e0 : (exam A).1 = 0 := by rw [show exam A = (0, -1) from lw_good hA]
  unfold aChk
  rw [if_pos e0]
  obtain ⟨x, e, l⟩ := h0
  exact ck_lp hA hT hP (cn A.2.2) 0 (0, (aFst A, true), 0, -1) (by omega) (fun j h => absurd h (Nat.not_lt_zero j)) rfl rfl rfl (fun _ _ => ⟨x, e, fst_ok hA, l⟩) (fun c => by cases c)
end CHK
