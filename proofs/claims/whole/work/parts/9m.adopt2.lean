/-! adoptFrames: the reference's side -/
section ADR
variable {E : Ev} {S S0 : St} {a m a3 fu : Nat} {z : Zs} {tb : Nat → Option Fr} {P : Nat → Prop}
theorem adp_h {ti tb : Nat → Option Fr} (h : Adp ti P tb) {j : Nat} {y : Fr} (e : tb j = some y) : ti j = some y := by
  by_cases p : P j
  · rw [← (h j).1 p]; exact e
  · rw [(h j).2 p] at e; cases e
theorem r_atL (Lm : LR E m) {q : Nat} (hq : q < 100) : ∀ (k i F : Nat) (S : St), i + k = 26 → k + 1 ≤ F → (∀ j, j < i → S.2.1 (E.2 m 31) (26 * q + j) = S.2.1 (E.2 m 29) (26 * q + j)) → ∃ S', lp_X12_adopt_9 fu E m F (n32 q) (n32 i) S = some S' ∧ (∀ j, j < 26 → S'.2.1 (E.2 m 31) (26 * q + j) = S.2.1 (E.2 m 29) (26 * q + j)) ∧ (∀ p, p < 26 * q ∨ 26 * q + 26 ≤ p → S'.2.1 (E.2 m 31) p = S.2.1 (E.2 m 31) p) ∧ AgL E m [] [31] S S' := by
  have n19 : E.2 m 29 ≠ E.2 m 31 := lr_ne Lm rfl rfl (by decide)
  intro k
  induction k with
  | zero =>
    intro i F S hk hF h
    obtain ⟨F, rfl⟩ : ∃ z, F = z + 1 := ⟨F - 1, by omega⟩
    show ∃ S', bd_X12_adopt_9 fu E m _ (n32 q) (n32 i) S = _ ∧ _
    unfold bd_X12_adopt_9
    rw [show (26 : Int32) = n32 26 from rfl, zi_le (by decide) (by omega), if_pos (by omega)]
    exact ⟨S, rfl, fun j hj => h j (by omega), fun _ _ => rfl, agl_refl⟩
  | succ k ih =>
    intro i F S hk hF h
    obtain ⟨F, rfl⟩ : ∃ z, F = z + 1 := ⟨F - 1, by omega⟩
    have hin : inb (n32 (26 * q + i)) 2600 = true := by rw [z_inb (by omega)]; omega
    show ∃ S', bd_X12_adopt_9 fu E m (lp_X12_adopt_9 fu E m F) (n32 q) (n32 i) S = _ ∧ _
    unfold bd_X12_adopt_9 bnd
    rw [show (26 : Int32) = n32 26 from rfl, zi_le (by decide) (by omega), if_neg (by omega), z_mul, z_add, if_pos hin, if_pos hin, z_nat (show 26 * q + i < 2 ^ 31 by omega), show n32 i + 1 = n32 (i + 1) from z_add i 1]
    obtain ⟨S', e, h1, h2, al⟩ := ih (i + 1) F (sG S (E.2 m 31) (26 * q + i) (S.2.1 (E.2 m 29) (26 * q + i))) (by omega) (by omega) (fun j hj => by
      show up2 S.2.1 (E.2 m 31) (26 * q + i) (S.2.1 (E.2 m 29) (26 * q + i)) (E.2 m 31) (26 * q + j) = up2 S.2.1 (E.2 m 31) (26 * q + i) (S.2.1 (E.2 m 29) (26 * q + i)) (E.2 m 29) (26 * q + j)
      rw [up2_n _ _ (fun c => n19 c.1)]
      by_cases c : j = i
      · rw [c, up2_s]
      · rw [up2_n _ _ (fun d => by have := d.2; omega)]; exact h j (by omega))
    refine ⟨S', e, fun j hj => (h1 j hj).trans (up2_n _ _ (fun c => n19 c.1)), fun p hp => (h2 p hp).trans (up2_n _ _ (fun d => by have := d.2; omega)), agl_trans (agl_sG (by decide)) al⟩
/-- one frame is adopted -/
theorem r_at (Lm : LR E m) (hfu : 200 ≤ fu) {ti : Nat → Option Fr} (vi : VRI E S m ti) (hw : ∀ j y, j < 100 → ti j = some y → y.2.2.1 ≤ 12) (vd : VRD E S m tb) (h : Adp ti P tb) {q : Nat} (hq : q < 100) (hs : (ti q).isSome = true) : ∃ S' tb', sp_X12_adopt fu E S m (n32 q) = some S' ∧ VRD E S' m tb' ∧ Adp ti (fun t => P t ∨ t = q) tb' ∧ AgL E m [] [30, 31] S S' := by
  obtain ⟨x, hx⟩ : ∃ x, ti q = some x := by
    cases e : ti q with
    | none => rw [e] at hs; cases hs
    | some x => exact ⟨x, rfl⟩
  have n01 : E.2 m 30 ≠ E.2 m 31 := lr_ne Lm rfl rfl (by decide)
  have n90 : E.2 m 29 ≠ E.2 m 30 := lr_ne Lm rfl rfl (by decide)
  have hin : inb (n32 q) 100 = true := by rw [z_inb (by omega)]; exact hq
  unfold sp_X12_adopt bnd
  rw [if_pos hin, z_nat (show q < 2 ^ 31 by omega)]
  have al0 : AgL E m [] [30] S (sG S (E.2 m 30) q 1) := agl_sG (by decide)
  obtain ⟨S', e, h1, h2, al⟩ := r_atL (fu := fu) Lm hq 26 0 fu (sG S (E.2 m 30) q 1) rfl (by omega) (fun j hj => absurd hj (Nat.not_lt_zero j))
  have e30 : S'.2.1 (E.2 m 30) = (sG S (E.2 m 30) q 1).2.1 (E.2 m 30) := agl_a Lm al (j := 30) rfl rfl rfl
  have h1' : ∀ j, j < 26 → S'.2.1 (E.2 m 31) (26 * q + j) = S.2.1 (E.2 m 29) (26 * q + j) := fun j hj => (h1 j hj).trans (up2_n _ _ (fun c => n90 c.1))
  have h2' : ∀ p, p < 26 * q ∨ 26 * q + 26 ≤ p → S'.2.1 (E.2 m 31) p = S.2.1 (E.2 m 31) p := fun p hp => (h2 p hp).trans (up2_n _ _ (fun c => n01 c.1.symm))
  refine ⟨S', upT tb q x, e, ⟨fun j hj => ?_, fun j y hj ey => ?_⟩, adp_s h hx, agl_trans (agl_mono al0 (fun _ w => w) (by decide)) (agl_mono al (fun _ w => w) (by decide))⟩
  · rw [e30]
    show up2 S.2.1 (E.2 m 30) q 1 (E.2 m 30) j = _
    by_cases c : j = q
    · have e1 : upT tb q x j = some x := if_pos c
      rw [e1, c, up2_s]; rfl
    · have e1 : upT tb q x j = tb j := if_neg c
      rw [e1, up2_n _ _ (fun u => c u.2)]; exact vd.1 j hj
  · by_cases c : j = q
    · have e1 : upT tb q x j = some x := if_pos c
      rw [e1] at ey
      cases ey
      rw [c]
      have h12 := hw q x hq hx
      obtain ⟨w1, w2, w3, w4⟩ := vi.2 q x hq hx
      exact ⟨fun i hi => (h1' i (by omega)).trans (w1 i hi), fun i hi => (h1' (12 + i) (by omega)).trans (w2 i hi), (h1' 24 (by omega)).trans w3, (h1' 25 (by omega)).trans w4⟩
    · have e1 : upT tb q x j = tb j := if_neg c
      rw [e1] at ey
      have h12 := hw j y hj (adp_h h ey)
      obtain ⟨w1, w2, w3, w4⟩ := vd.2 j y hj ey
      exact ⟨fun i hi => (h2' _ (by omega)).trans (w1 i hi), fun i hi => (h2' _ (by omega)).trans (w2 i hi), (h2' _ (by omega)).trans w3, (h2' _ (by omega)).trans w4⟩
theorem vri_a (Lm : LR E m) {ti : Nat → Option Fr} (vi : VRI E S0 m ti) (al : AgL E m [] [30, 31] S0 S) : VRI E S m ti := vri_ag Lm vi al rfl rfl rfl
/-- the handlers that protect one index -/
theorem r_atH (Lm : LR E m) (hfu : 200 ≤ fu) (iz : IZ z) (v0 : VY E S0 m z) (hc : CloT z.1.2.2 (zI z)) {i : Nat} (hi : i < cn z.1.2.2) {rc : Int32 → St → Option (Int32 × St)} : ∀ (k h F : Nat) (S : St) (tb : Nat → Option Fr) (P : Nat → Prop), h + k = chn z.1.2.2 → k + 1 ≤ F → AgL E m [] [30, 31] S0 S → VRD E S m tb → Adp (zI z) P tb → ∃ S' tb', lp_X12_adoptFrames_114 fu E m rc F (n32 i) (n32 h) S = rc (n32 (i + 1)) S' ∧ VRD E S' m tb' ∧ Adp (zI z) (fun t => P t ∨ ∃ g, h ≤ g ∧ g < chn z.1.2.2 ∧ (zI z i).isSome = true ∧ prot z.1.2.2 g i = true ∧ t = tgt z.1.2.2 g) tb' ∧ AgL E m [] [30, 31] S0 S' := by
  have h100 := iz.1.2.2.2.2.2.1
  have h10 := iz.1.2.2.2.2.2.2.1
  have hw : ∀ j y, j < 100 → zI z j = some y → y.2.2.1 ≤ 12 := fun j y hj e => (iz.2.2.2.1 j y hj e).1.2.2
  intro k
  induction k with
  | zero =>
    intro h F S tb P hk hF al vd hA
    obtain ⟨F, rfl⟩ : ∃ z, F = z + 1 := ⟨F - 1, by omega⟩
    show ∃ S' tb', bd_X12_adoptFrames_114 fu E m rc _ (n32 i) (n32 h) S = _ ∧ _
    unfold bd_X12_adoptFrames_114
    rw [show S.1 m 22 = n32 (chn z.1.2.2) from (agl_f al rfl).trans v0.1.2.2.2.2.2.2.2.1, zi_le (by omega) (by omega), if_pos (by omega), show n32 i + 1 = n32 (i + 1) from z_add i 1]
    exact ⟨S, tb, rfl, vd, adp_c hA (fun t _ => ⟨Or.inl, fun w => w.resolve_right (fun ⟨j, h1, h2, _⟩ => by omega)⟩), al⟩
  | succ k ih =>
    intro h F S tb P hk hF al vd hA
    obtain ⟨F, rfl⟩ : ∃ z, F = z + 1 := ⟨F - 1, by omega⟩
    have hh : h < chn z.1.2.2 := by omega
    have hin : inb (n32 i) 100 = true := by rw [z_inb (by omega)]; omega
    have hinh : inb (n32 h) 10 = true := by rw [z_inb (by omega)]; omega
    show ∃ S' tb', bd_X12_adoptFrames_114 fu E m rc (lp_X12_adoptFrames_114 fu E m rc F) (n32 i) (n32 h) S = _ ∧ _
    unfold bd_X12_adoptFrames_114
    have vi := vri_a Lm v0.2.2.2.1 al
    have w7 := v0.1.2.2.2.2.2.2.2.2.2 h hh
    have e23 : S.2.1 (E.2 m 23) h = chs z.1.2.2 h := by rw [agl_a Lm al (j := 23) rfl rfl rfl]; exact w7.1
    have e24 : S.2.1 (E.2 m 24) h = che z.1.2.2 h := by rw [agl_a Lm al (j := 24) rfl rfl rfl]; exact w7.2.1
    have e25 : S.2.1 (E.2 m 25) h = cht z.1.2.2 h := by rw [agl_a Lm al (j := 25) rfl rfl rfl]; exact w7.2.2.1
    rw [show S.1 m 22 = n32 (chn z.1.2.2) from (agl_f al rfl).trans v0.1.2.2.2.2.2.2.2.1, zi_le (by omega) (by omega), if_neg (by omega), if_pos hin, z_nat (show i < 2 ^ 31 by omega), vi.1 i (by omega), b2_if, if_pos hinh, if_pos hinh, if_pos hinh, z_nat (show h < 2 ^ 31 by omega), e23, e24, e25, show n32 h + 1 = n32 (h + 1) from z_add h 1]
    have skip : ¬ ((zI z i).isSome = true ∧ prot z.1.2.2 h i = true) → ∃ S' tb', lp_X12_adoptFrames_114 fu E m rc F (n32 i) (n32 (h + 1)) S = rc (n32 (i + 1)) S' ∧ VRD E S' m tb' ∧ Adp (zI z) (fun t => P t ∨ ∃ g, h ≤ g ∧ g < chn z.1.2.2 ∧ (zI z i).isSome = true ∧ prot z.1.2.2 g i = true ∧ t = tgt z.1.2.2 g) tb' ∧ AgL E m [] [30, 31] S0 S' := by
      intro hno
      obtain ⟨S', tb', e, v, h', ag⟩ := ih (h + 1) F S tb P (by omega) (by omega) al vd hA
      refine ⟨S', tb', e, v, adp_c h' (fun t _ => ⟨fun w => w.imp id (fun ⟨j, h1, h2⟩ => ⟨j, by omega, h2⟩), fun w => w.imp id (fun ⟨j, h1, h2, h3, h4, h5⟩ => ⟨j, ?_, h2, h3, h4, h5⟩)⟩), ag⟩
      by_cases c : j = h
      · rw [c] at h4; exact absurd ⟨h3, h4⟩ hno
      · omega
    by_cases c1 : (zI z i).isSome = true
    rotate_left
    · rw [if_neg c1]; exact skip (fun w => c1 w.1)
    rw [if_pos c1]
    by_cases c2 : n32 i < chs z.1.2.2 h
    · rw [if_pos c2]
      refine skip (fun w => ?_)
      have := w.2
      unfold prot at this
      rw [decide_eq_false (Int32.not_le.mpr c2), Bool.false_and] at this
      cases this
    rw [if_neg c2]
    by_cases c3 : che z.1.2.2 h ≤ n32 i
    · rw [if_pos c3]
      refine skip (fun w => ?_)
      have := w.2
      unfold prot at this
      rw [decide_eq_true c3, Bool.not_true, Bool.and_false] at this
      cases this
    rw [if_neg c3]
    have cp : prot z.1.2.2 h i = true := by
      unfold prot
      rw [decide_eq_false c3, decide_eq_true (Int32.not_lt.mp c2)]; rfl
    obtain ⟨t1, t2, t3⟩ := (hc i hi c1).2 h hh cp
    rw [t3]
    obtain ⟨S1, tb1, e1, v1, h1, a1⟩ := r_at (fu := fu) Lm hfu vi hw vd hA (show tgt z.1.2.2 h < 100 by omega) t1
    rw [e1, Option.bind_some]
    obtain ⟨S', tb', e, v, h', ag⟩ := ih (h + 1) F S1 tb1 _ (by omega) (by omega) (agl_trans al a1) v1 h1
    refine ⟨S', tb', e, v, adp_c h' (fun t _ => ⟨fun w => ?_, fun w => ?_⟩), ag⟩
    · rcases w with (w | w) | ⟨j, h1, h2⟩
      · exact Or.inl w
      · exact Or.inr ⟨h, Nat.le_refl h, hh, c1, cp, w⟩
      · exact Or.inr ⟨j, by omega, h2⟩
    · rcases w with w | ⟨j, h1, h2, h3, h4, h5⟩
      · exact Or.inl (Or.inl w)
      · by_cases c : j = h
        · exact Or.inl (Or.inr (by rw [← c]; exact h5))
        · exact Or.inr ⟨j, by omega, h2, h3, h4, h5⟩
/-- what an index asks for -/
def AdQ (c : Cd) (j t : Nat) : Prop := (jmp (cop c j) = true ∧ t = (cx c j).toNatClampNeg) ∨ (0 < j ∧ fal (cop c (j - 1)) = false ∧ t = j) ∨ ∃ g, g < chn c ∧ prot c g j = true ∧ t = tgt c g
theorem r_atA (Lm : LR E m) (hfu : 200 ≤ fu) (iz : IZ z) (v0 : VY E S0 m z) (hc : CloT z.1.2.2 (zI z)) : ∀ (k i F : Nat) (S : St) (tb : Nat → Option Fr) (P : Nat → Prop), i + k = cn z.1.2.2 → k + 1 ≤ F → AgL E m [] [30, 31] S0 S → VRD E S m tb → Adp (zI z) P tb → ∃ S' tb', lp_X12_adoptFrames_41 fu E m F (n32 i) S = some (n32 (cntT tb' (cn z.1.2.2)), S') ∧ VRD E S' m tb' ∧ Adp (zI z) (fun t => P t ∨ ∃ j, i ≤ j ∧ j < cn z.1.2.2 ∧ (zI z j).isSome = true ∧ AdQ z.1.2.2 j t) tb' ∧ AgL E m [] [30, 31] S0 S' := by
  have h100 := iz.1.2.2.2.2.2.1
  have hw : ∀ j y, j < 100 → zI z j = some y → y.2.2.1 ≤ 12 := fun j y hj e => (iz.2.2.2.1 j y hj e).1.2.2
  intro k
  induction k with
  | zero =>
    intro i F S tb P hk hF al vd hA
    obtain ⟨F, rfl⟩ : ∃ z, F = z + 1 := ⟨F - 1, by omega⟩
    show ∃ S' tb', bd_X12_adoptFrames_41 fu E m _ (n32 i) S = _ ∧ _
    unfold bd_X12_adoptFrames_41
    have e19 : S.1 m 19 = n32 (cn z.1.2.2) := (agl_f al rfl).trans v0.1.2.2.2.2.2.2.1
    rw [e19, zi_le (by omega) (by omega), if_pos (by omega), r_dct hfu h100 e19 vd.1, Option.bind_some]
    exact ⟨S, tb, rfl, vd, adp_c hA (fun t _ => ⟨Or.inl, fun w => w.resolve_right (fun ⟨j, h1, h2, _⟩ => by omega)⟩), al⟩
  | succ k ih =>
    intro i F S tb P hk hF al vd hA
    obtain ⟨F, rfl⟩ : ∃ z, F = z + 1 := ⟨F - 1, by omega⟩
    have hi : i < cn z.1.2.2 := by omega
    have hin : inb (n32 i) 100 = true := by rw [z_inb (by omega)]; omega
    have hop := iz.1.2.2.2.2.2.2.2.1 i hi
    show ∃ S' tb', bd_X12_adoptFrames_41 fu E m (lp_X12_adoptFrames_41 fu E m F) (n32 i) S = _ ∧ _
    -- behind the jump
    have j80 : ∀ (S1 : St) (tb1 : Nat → Option Fr) (P1 : Nat → Prop), AgL E m [] [30, 31] S0 S1 → VRD E S1 m tb1 → Adp (zI z) P1 tb1 → (∀ t, (zI z t).isSome = true → (P1 t ↔ P t ∨ ((zI z i).isSome = true ∧ jmp (cop z.1.2.2 i) = true ∧ t = (cx z.1.2.2 i).toNatClampNeg))) → ∃ S' tb', jb_X12_adoptFrames_80 fu E m (lp_X12_adoptFrames_41 fu E m F) (n32 i) S1 = some (n32 (cntT tb' (cn z.1.2.2)), S') ∧ VRD E S' m tb' ∧ Adp (zI z) (fun t => P t ∨ ∃ j, i ≤ j ∧ j < cn z.1.2.2 ∧ (zI z j).isSome = true ∧ AdQ z.1.2.2 j t) tb' ∧ AgL E m [] [30, 31] S0 S' := by
      intro S1 tb1 P1 al1 vd1 hA1 hP1
      -- behind the ends
      have j114 : ∀ (S2 : St) (tb2 : Nat → Option Fr) (P2 : Nat → Prop), AgL E m [] [30, 31] S0 S2 → VRD E S2 m tb2 → Adp (zI z) P2 tb2 → (∀ t, (zI z t).isSome = true → (P2 t ↔ P1 t ∨ ((zI z i).isSome = true ∧ 0 < i ∧ fal (cop z.1.2.2 (i - 1)) = false ∧ t = i))) → ∃ S' tb', lp_X12_adoptFrames_114 fu E m (lp_X12_adoptFrames_41 fu E m F) fu (n32 i) 0 S2 = some (n32 (cntT tb' (cn z.1.2.2)), S') ∧ VRD E S' m tb' ∧ Adp (zI z) (fun t => P t ∨ ∃ j, i ≤ j ∧ j < cn z.1.2.2 ∧ (zI z j).isSome = true ∧ AdQ z.1.2.2 j t) tb' ∧ AgL E m [] [30, 31] S0 S' := by
        intro S2 tb2 P2 al2 vd2 hA2 hP2
        have h10 := iz.1.2.2.2.2.2.2.1
        obtain ⟨S3, tb3, e3, v3, hA3, al3⟩ := r_atH (fu := fu) (rc := lp_X12_adoptFrames_41 fu E m F) Lm hfu iz v0 hc hi (chn z.1.2.2) 0 fu S2 tb2 P2 (by omega) (by omega) al2 vd2 hA2
        obtain ⟨S', tb', e, v, h', ag⟩ := ih (i + 1) F S3 tb3 _ (by omega) (by omega) al3 v3 hA3
        refine ⟨S', tb', e3.trans e, v, adp_c h' (fun t ht => ⟨fun w => ?_, fun w => ?_⟩), ag⟩
        · rcases w with (w | ⟨g, _, g2, g3, g4, g5⟩) | ⟨j, h1, h2⟩
          · rcases (hP2 t ht).mp w with w | ⟨w1, w2, w3, w4⟩
            · rcases (hP1 t ht).mp w with w | ⟨w1, w2, w3⟩
              · exact Or.inl w
              · exact Or.inr ⟨i, Nat.le_refl i, hi, w1, Or.inl ⟨w2, w3⟩⟩
            · exact Or.inr ⟨i, Nat.le_refl i, hi, w1, Or.inr (Or.inl ⟨w2, w3, w4⟩)⟩
          · exact Or.inr ⟨i, Nat.le_refl i, hi, g3, Or.inr (Or.inr ⟨g, g2, g4, g5⟩)⟩
          · exact Or.inr ⟨j, by omega, h2⟩
        · rcases w with w | ⟨j, h1, h2, h3, h4⟩
          · exact Or.inl (Or.inl ((hP2 t ht).mpr (Or.inl ((hP1 t ht).mpr (Or.inl w)))))
          · by_cases c : j = i
            · rw [c] at h3 h4
              rcases h4 with ⟨w2, w3⟩ | ⟨w2, w3, w4⟩ | ⟨g, g2, g4, g5⟩
              · exact Or.inl (Or.inl ((hP2 t ht).mpr (Or.inl ((hP1 t ht).mpr (Or.inr ⟨h3, w2, w3⟩)))))
              · exact Or.inl (Or.inl ((hP2 t ht).mpr (Or.inr ⟨h3, w2, w3, w4⟩)))
              · exact Or.inl (Or.inr ⟨g, Nat.zero_le g, g2, h3, g4, g5⟩)
            · exact Or.inr ⟨j, by omega, h2, h3, h4⟩
      unfold jb_X12_adoptFrames_80
      have vi1 := vri_a Lm v0.2.2.2.1 al1
      rw [if_pos hin, z_nat (show i < 2 ^ 31 by omega), vi1.1 i (by omega), b2_if, show ∀ {α : Type} (u w : α), (if n32 i ≤ 0 then u else w) = if i ≤ 0 then u else w from fun u w => zi_le (a := i) (b := 0) (by omega) (by decide)]
      by_cases c1 : (zI z i).isSome = true
      rotate_left
      · rw [if_neg c1]
        exact j114 S1 tb1 P1 al1 vd1 hA1 (fun t _ => ⟨Or.inl, fun w => w.resolve_right (fun w => c1 w.1)⟩)
      rw [if_pos c1]
      by_cases c2 : i ≤ 0
      · rw [if_pos c2]
        exact j114 S1 tb1 P1 al1 vd1 hA1 (fun t _ => ⟨Or.inl, fun w => w.resolve_right (fun w => by have := w.2.1; omega)⟩)
      rw [if_neg c2, show n32 i - 1 = n32 (i - 1) from z_sub (show 1 ≤ i by omega), if_pos (show inb (n32 (i - 1)) 100 = true by rw [z_inb (by omega)]; omega), z_nat (show i - 1 < 2 ^ 31 by omega)]
      have hop1 := iz.1.2.2.2.2.2.2.2.1 (i - 1) (by omega)
      have e20 : S1.2.1 (E.2 m 20) (i - 1) = n32 (cop z.1.2.2 (i - 1)) := by
        rw [agl_a Lm al1 (j := 20) rfl rfl rfl]; exact (v0.1.2.2.2.2.2.2.2.2.1 (i - 1) (by omega)).1
      rw [e20]
      rw [show sp_X12_goesOn fu E S1 (n32 (cop z.1.2.2 (i - 1))) = some (b2 (fal (cop z.1.2.2 (i - 1))), S1) from fal_ite hop1, Option.bind_some, b2_if]
      dsimp only
      by_cases c3 : fal (cop z.1.2.2 (i - 1)) = true
      · rw [if_pos c3]
        exact j114 S1 tb1 P1 al1 vd1 hA1 (fun t _ => ⟨Or.inl, fun w => w.resolve_right (fun w => by have := w.2.2.1; rw [c3] at this; cases this)⟩)
      · rw [if_neg c3]
        have cf : fal (cop z.1.2.2 (i - 1)) = false := by
          cases q : fal (cop z.1.2.2 (i - 1)) with
          | false => rfl
          | true => exact absurd q c3
        obtain ⟨S2, tb2, e2, v2, hA2, a2⟩ := r_at (fu := fu) Lm hfu vi1 hw vd1 hA1 (show i < 100 by omega) c1
        rw [e2, Option.bind_some]
        exact j114 S2 tb2 _ (agl_trans al1 a2) v2 hA2 (fun t _ => ⟨fun w => w.imp id (fun w => ⟨c1, by omega, cf, w⟩), fun w => w.imp id (fun w => w.2.2.2)⟩)
    unfold bd_X12_adoptFrames_41
    have vi := vri_a Lm v0.2.2.2.1 al
    have e19 : S.1 m 19 = n32 (cn z.1.2.2) := (agl_f al rfl).trans v0.1.2.2.2.2.2.2.1
    have ci := v0.1.2.2.2.2.2.2.2.2.1 i hi
    have e20 : S.2.1 (E.2 m 20) i = n32 (cop z.1.2.2 i) := by rw [agl_a Lm al (j := 20) rfl rfl rfl]; exact ci.1
    have e21 : S.2.1 (E.2 m 21) i = cx z.1.2.2 i := by rw [agl_a Lm al (j := 21) rfl rfl rfl]; exact ci.2
    rw [e19, zi_le (by omega) (by omega), if_neg (by omega), if_pos hin, z_nat (show i < 2 ^ 31 by omega), vi.1 i (by omega), b2_if, if_pos hin, e20]
    by_cases c1 : (zI z i).isSome = true
    rotate_left
    · rw [if_neg c1]
      exact j80 S tb P al vd hA (fun t _ => ⟨Or.inl, fun w => w.resolve_right (fun w => c1 w.1)⟩)
    rw [if_pos c1, show sp_X12_isJump fu E S (n32 (cop z.1.2.2 i)) = some (b2 (jmp (cop z.1.2.2 i)), S) from r_jmp hop, Option.bind_some, b2_if]
    dsimp only
    by_cases c2 : jmp (cop z.1.2.2 i) = true
    rotate_left
    · rw [if_neg c2]
      exact j80 S tb P al vd hA (fun t _ => ⟨Or.inl, fun w => w.resolve_right (fun w => c2 w.2.1)⟩)
    rw [if_pos c2, if_pos hin, e21]
    obtain ⟨t1, t2, t3⟩ := (hc i hi c1).1 c2
    rw [t3]
    obtain ⟨S1, tb1, e1, v1, h1, a1⟩ := r_at (fu := fu) Lm hfu vi hw vd hA (show (cx z.1.2.2 i).toNatClampNeg < 100 by omega) t1
    rw [e1, Option.bind_some]
    exact j80 S1 tb1 _ (agl_trans al a1) v1 h1 (fun t _ => ⟨fun w => w.imp id (fun w => ⟨c1, c2, w⟩), fun w => w.imp id (fun w => w.2.2)⟩)
end ADR
