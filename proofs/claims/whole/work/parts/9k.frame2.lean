/-! declareFrame: the reference's side; put together -/
theorem cnt_top {tb : Nat → Option Fr} {n : Nat} (h : ∀ i, n ≤ i → tb i = none) : ∀ k, cntT tb (n + k) = cntT tb n
  | 0 => rfl
  | k + 1 => by
    show cntT tb (n + k) + (if (tb (n + k)).isSome = true then 1 else 0) = _
    rw [h (n + k) (by omega), cnt_top h k]
    rfl
theorem cnt_100 {tb : Nat → Option Fr} {n : Nat} (hn : n ≤ 100) (h : ∀ i, n ≤ i → tb i = none) : cntT tb 100 = cntT tb n := by
  have := cnt_top h (100 - n)
  rw [show n + (100 - n) = 100 by omega] at this
  exact this
section DF2
variable {E : Ev} {S : St} {a m a3 fu : Nat} {z : Zs} {rc : Int32 → St → Option (Int32 × St)} {x4 : Int32}
/-- the declared frames are counted -/
theorem r_dct {n : Nat} {tb : Nat → Option Fr} (hfu : 200 ≤ fu) (hn : n ≤ 100) (h19 : S.1 m 19 = n32 n) (h : ∀ i, i < 100 → S.2.1 (E.2 m 30) i = b2 (tb i).isSome) : sp_X12_declaredCount fu E S m = some (n32 (cntT tb n), S) := by
  have lp : ∀ (k i F : Nat), i + k = n → k + 1 ≤ F → lp_X12_declaredCount_4 fu E m F (n32 (cntT tb i)) (n32 i) S = some (n32 (cntT tb n), S) := by
    intro k
    induction k with
    | zero =>
      intro i F hk hF
      obtain ⟨F, rfl⟩ : ∃ z, F = z + 1 := ⟨F - 1, by omega⟩
      show bd_X12_declaredCount_4 fu E m _ _ (n32 i) S = _
      unfold bd_X12_declaredCount_4
      rw [h19, zi_le (by omega) (by omega), if_pos (by omega), show i = n by omega]
    | succ k ih =>
      intro i F hk hF
      obtain ⟨F, rfl⟩ : ∃ z, F = z + 1 := ⟨F - 1, by omega⟩
      have hin : inb (n32 i) 100 = true := by rw [z_inb (by omega)]; omega
      show bd_X12_declaredCount_4 fu E m (lp_X12_declaredCount_4 fu E m F) _ (n32 i) S = _
      unfold bd_X12_declaredCount_4 bnd
      rw [h19, zi_le (by omega) (by omega), if_neg (by omega), if_pos hin, z_nat (show i < 2 ^ 31 by omega), h i (by omega), b2_if, show n32 i + 1 = n32 (i + 1) from z_add i 1]
      have nx := ih (i + 1) F (by omega) (by omega)
      have ec : cntT tb (i + 1) = cntT tb i + (if (tb i).isSome = true then 1 else 0) := rfl
      by_cases c : (tb i).isSome = true
      · rw [if_pos c, show n32 (cntT tb i) + 1 = n32 (cntT tb i + 1) from z_add _ 1]
        rw [ec, if_pos c] at nx
        exact nx
      · rw [if_neg c, show n32 (cntT tb i) + 0 = n32 (cntT tb i + 0) from z_add _ 0]
        rw [ec, if_neg c] at nx
        exact nx
  exact lp n 0 fu (by omega) (by omega)
/-- the draft is copied, and its frame declared -/
theorem r_dfL (Lm : LR E m) (hfu : 200 ≤ fu) {q n w : Nat} {x : Fr} {tb : Nat → Option Fr} (hw : w ≤ 100) (hq : q < w) (hn : n ≤ 12) (h12 : x.2.2.1 ≤ 12) (ht : ∀ i, n ≤ i → i < 12 → x.1 i = -2) : ∀ (k i F : Nat) (S : St), i + k = 12 → k + 1 ≤ F → S.1 m 19 = n32 w → (∀ j, j < n → S.2.1 (E.2 m 34) j = x.1 j) → (∀ j, j < x.2.2.1 → S.2.1 (E.2 m 34) (12 + j) = x.2.1 j) → (∀ j, j < 100 → S.2.1 (E.2 m 30) j = b2 (tb j).isSome) → (∀ j y, j < 100 → j ≠ q → tb j = some y → VA S (E.2 m 31) (26 * j) y ∧ y.2.2.1 ≤ 12) → (∀ j, j < i → S.2.1 (E.2 m 31) (26 * q + j) = x.1 j) → (∀ j, j < i → j < x.2.2.1 → S.2.1 (E.2 m 31) (26 * q + (12 + j)) = x.2.1 j) → ∃ S', lp_X12_declareFrame_90 fu E m F (n32 q) (b2 x.2.2.2) (n32 n) (n32 x.2.2.1) (n32 i) S = some (n32 (cntT (upT tb q x) w), S') ∧ VRD E S' m (upT tb q x) ∧ AgL E m [] [30, 31] S S' := by
  intro k
  have n01 : E.2 m 30 ≠ E.2 m 31 := lr_ne Lm rfl rfl (by decide)
  have n41 : E.2 m 34 ≠ E.2 m 31 := lr_ne Lm rfl rfl (by decide)
  have n40 : E.2 m 34 ≠ E.2 m 30 := lr_ne Lm rfl rfl (by decide)
  -- the other frames stay
  have oth : ∀ {S1 : St} {o v : Nat} {u : Int32}, o < 26 → (∀ j y, j < 100 → j ≠ q → tb j = some y → VA S1 (E.2 m 31) (26 * j) y ∧ y.2.2.1 ≤ 12) → ∀ j y, j < 100 → j ≠ q → tb j = some y → VA (sG S1 (E.2 m 31) (26 * q + o) u) (E.2 m 31) (26 * j) y ∧ y.2.2.1 ≤ 12 := by
    intro S1 o v u ho h j y hj hjq e
    obtain ⟨⟨w1, w2, w3, w4⟩, w5⟩ := h j y hj hjq e
    refine ⟨⟨fun i hi => (up2_n _ _ (fun c => ?_)).trans (w1 i hi), fun i hi => (up2_n _ _ (fun c => ?_)).trans (w2 i hi), (up2_n _ _ (fun c => ?_)).trans w3, (up2_n _ _ (fun c => ?_)).trans w4⟩, w5⟩
    · have := c.2; omega
    · have := c.2; omega
    · have := c.2; omega
    · have := c.2; omega
  induction k with
  | zero =>
    intro i F S hk hF h19 hl hs h30 hv hL hS
    obtain ⟨F, rfl⟩ : ∃ z, F = z + 1 := ⟨F - 1, by omega⟩
    show ∃ S', bd_X12_declareFrame_90 fu E m _ (n32 q) (b2 x.2.2.2) (n32 n) (n32 x.2.2.1) (n32 i) S = _ ∧ _
    unfold bd_X12_declareFrame_90 bnd
    dsimp only
    have hin4 : inb (n32 (26 * q + 24)) 2600 = true := by rw [z_inb (by omega)]; omega
    have hin5 : inb (n32 (26 * q + 25)) 2600 = true := by rw [z_inb (by omega)]; omega
    have hinq : inb (n32 q) 100 = true := by rw [z_inb (by omega)]; omega
    rw [show (12 : Int32) = n32 12 from rfl, zi_le (by decide) (by omega), if_pos (by omega), show (26 : Int32) = n32 26 from rfl, z_mul, show (24 : Int32) = n32 24 from rfl, z_add, if_pos hin4, show (25 : Int32) = n32 25 from rfl, z_add]
    have jb : ∀ f : Bool, f = x.2.2.2 → ∃ S', jb_X12_declareFrame_204 fu E m (E.2 m 31) (n32 q) (n32 (26 * q + 25)) (b2 f) (sG S (E.2 m 31) (n32 (26 * q + 24)).toNatClampNeg (n32 x.2.2.1)) = some (n32 (cntT (upT tb q x) w), S') ∧ VRD E S' m (upT tb q x) ∧ AgL E m [] [30, 31] S S' := by
      intro f hf
      unfold jb_X12_declareFrame_204 bnd
      rw [if_pos hin5]
      dsimp only
      rw [if_pos hinq, z_nat (show 26 * q + 24 < 2 ^ 31 by omega), z_nat (show 26 * q + 25 < 2 ^ 31 by omega), z_nat (show q < 2 ^ 31 by omega)]
      have al : AgL E m [] [30, 31] S (sG (sG (sG S (E.2 m 31) (26 * q + 24) (n32 x.2.2.1)) (E.2 m 31) (26 * q + 25) (b2 f)) (E.2 m 30) q 1) := agl_trans (agl_sG (by decide)) (agl_trans (agl_sG (by decide)) (agl_sG (by decide)))
      have hv1 := oth (v := 0) (u := n32 x.2.2.1) (show 24 < 26 by decide) hv
      have hv2 := oth (v := 0) (u := b2 f) (show 25 < 26 by decide) hv1
      have vd : VRD E (sG (sG (sG S (E.2 m 31) (26 * q + 24) (n32 x.2.2.1)) (E.2 m 31) (26 * q + 25) (b2 f)) (E.2 m 30) q 1) m (upT tb q x) := by
        refine ⟨fun j hj => ?_, fun j y hj e => ?_⟩
        · show up2 (up2 (up2 S.2.1 (E.2 m 31) (26 * q + 24) (n32 x.2.2.1)) (E.2 m 31) (26 * q + 25) (b2 f)) (E.2 m 30) q 1 (E.2 m 30) j = _
          by_cases c : j = q
          · have e1 : upT tb q x j = some x := if_pos c
            rw [e1, c, up2_s]; rfl
          · have e1 : upT tb q x j = tb j := if_neg c
            rw [e1, up2_n _ _ (fun u => c u.2), up2_n _ _ (fun u => n01 u.1), up2_n _ _ (fun u => n01 u.1)]
            exact h30 j hj
        · by_cases c : j = q
          · have e1 : upT tb q x j = some x := if_pos c
            rw [e1] at e
            cases e
            rw [c]
            refine ⟨fun i' hi' => ?_, fun i' hi' => ?_, ?_, ?_⟩
            · exact (up2_n _ _ (fun u => n01 u.1.symm)).trans ((up2_n _ _ (fun u => by have := u.2; omega)).trans ((up2_n _ _ (fun u => by have := u.2; omega)).trans (hL i' (by omega))))
            · exact (up2_n _ _ (fun u => n01 u.1.symm)).trans ((up2_n _ _ (fun u => by have := u.2; omega)).trans ((up2_n _ _ (fun u => by have := u.2; omega)).trans (hS i' (by omega) hi')))
            · exact (up2_n _ _ (fun u => n01 u.1.symm)).trans ((up2_n _ _ (fun u => by have := u.2; omega)).trans (up2_s _ _))
            · rw [← hf]
              exact (up2_n _ _ (fun u => n01 u.1.symm)).trans (up2_s _ _)
          · have e1 : upT tb q x j = tb j := if_neg c
            rw [e1] at e
            obtain ⟨⟨w1, w2, w3, w4⟩, w5⟩ := hv2 j y hj c e
            exact ⟨fun i' hi' => (up2_n _ _ (fun u => n01 u.1.symm)).trans (w1 i' hi'), fun i' hi' => (up2_n _ _ (fun u => n01 u.1.symm)).trans (w2 i' hi'), (up2_n _ _ (fun u => n01 u.1.symm)).trans w3, (up2_n _ _ (fun u => n01 u.1.symm)).trans w4⟩
      rw [r_dct (S := sG (sG (sG S (E.2 m 31) (26 * q + 24) (n32 x.2.2.1)) (E.2 m 31) (26 * q + 25) (b2 f)) (E.2 m 30) q 1) hfu hw h19 vd.1, Option.bind_some]
      exact ⟨_, rfl, vd, al⟩
    cases hf : x.2.2.2 with
    | false =>
      rw [if_pos (show b2 false = 0 from rfl)]
      exact jb false hf.symm
    | true =>
      rw [if_neg (show ¬ b2 true = 0 by decide)]
      exact jb true hf.symm
  | succ k ih =>
    intro i F S hk hF h19 hl hs h30 hv hL hS
    obtain ⟨F, rfl⟩ : ∃ z, F = z + 1 := ⟨F - 1, by omega⟩
    show ∃ S', bd_X12_declareFrame_90 fu E m (lp_X12_declareFrame_90 fu E m F) (n32 q) (b2 x.2.2.2) (n32 n) (n32 x.2.2.1) (n32 i) S = _ ∧ _
    unfold bd_X12_declareFrame_90
    have hi24 : inb (n32 i) 24 = true := by rw [z_inb (by omega)]; omega
    have hi24' : inb (n32 (12 + i)) 24 = true := by rw [z_inb (by omega)]; omega
    have hinL : inb (n32 (26 * q + i)) 2600 = true := by rw [z_inb (by omega)]; omega
    have hinS : inb (n32 (26 * q + 12 + i)) 2600 = true := by rw [z_inb (by omega)]; omega
    rw [show (12 : Int32) = n32 12 from rfl, zi_le (by decide) (by omega), if_neg (by omega), show (26 : Int32) = n32 26 from rfl, z_mul, z_add, if_pos hi24, z_nat (show i < 2 ^ 31 by omega), zi_le (by omega) (by omega)]
    have ss : ∀ {α : Type} (c : Prop) [Decidable c] (g : Int32 → α) (u v : Int32), (if c then g u else g v) = g (if c then u else v) := fun c _ g u v => by by_cases h : c <;> simp [h]
    rw [ss (n ≤ i) (fun y => jb_X12_declareFrame_126 fu E m (E.2 m 31) (lp_X12_declareFrame_90 fu E m F) (n32 q) (b2 x.2.2.2) (n32 n) (n32 x.2.2.1) (n32 i) (n32 (26 * q + i)) y S)]
    have hy : (if n ≤ i then (-2 : Int32) else S.2.1 (E.2 m 34) i) = x.1 i := by
      by_cases c : n ≤ i
      · rw [if_pos c]; exact (ht i c (by omega)).symm
      · rw [if_neg c]; exact hl i (by omega)
    rw [hy]
    unfold jb_X12_declareFrame_126 bnd
    rw [if_pos hinL]
    dsimp only
    rw [show (12 : Int32) = n32 12 from rfl, show (26 : Int32) = n32 26 from rfl, z_mul, z_add, z_add, z_add, if_pos hinS, if_pos hi24', zi_le (by omega) (by omega), z_nat (show 26 * q + i < 2 ^ 31 by omega), z_nat (show 26 * q + 12 + i < 2 ^ 31 by omega), z_nat (show 12 + i < 2 ^ 31 by omega), show n32 i + 1 = n32 (i + 1) from z_add i 1]
    have hv1 := oth (v := 0) (u := x.1 i) (show i < 26 by omega) hv
    -- one more step, whatever stands in the slot of the stack
    have stp : ∀ u : Int32, (i < x.2.2.1 → u = x.2.1 i) → ∃ S', lp_X12_declareFrame_90 fu E m F (n32 q) (b2 x.2.2.2) (n32 n) (n32 x.2.2.1) (n32 (i + 1)) (sG (sG S (E.2 m 31) (26 * q + i) (x.1 i)) (E.2 m 31) (26 * q + 12 + i) u) = some (n32 (cntT (upT tb q x) w), S') ∧ VRD E S' m (upT tb q x) ∧ AgL E m [] [30, 31] S S' := by
      intro u hu
      have hv2 := oth (v := 0) (u := u) (show 12 + i < 26 by omega) hv1
      rw [show 26 * q + (12 + i) = 26 * q + 12 + i by omega] at hv2
      obtain ⟨S', e, vd, al⟩ := ih (i + 1) F (sG (sG S (E.2 m 31) (26 * q + i) (x.1 i)) (E.2 m 31) (26 * q + 12 + i) u) (by omega) (by omega) h19 (fun j hj => (up2_n _ _ (fun c => n41 c.1)).trans ((up2_n _ _ (fun c => n41 c.1)).trans (hl j hj))) (fun j hj => (up2_n _ _ (fun c => n41 c.1)).trans ((up2_n _ _ (fun c => n41 c.1)).trans (hs j hj))) (fun j hj => (up2_n _ _ (fun c => n01 c.1)).trans ((up2_n _ _ (fun c => n01 c.1)).trans (h30 j hj))) hv2 (fun j hj => by
        refine (up2_n _ _ (fun c => by have := c.2; omega)).trans ?_
        by_cases c : j = i
        · rw [c]; exact up2_s _ _
        · exact (up2_n _ _ (fun d => by have := d.2; omega)).trans (hL j (by omega))) (fun j hj h1 => by
        by_cases c : j = i
        · rw [c, show 26 * q + (12 + i) = 26 * q + 12 + i by omega]
          exact (up2_s _ _).trans (hu (by omega))
        · exact (up2_n _ _ (fun d => by have := d.2; omega)).trans ((up2_n _ _ (fun d => by have := d.2; omega)).trans (hS j (by omega) h1)))
      exact ⟨S', e, vd, agl_trans (agl_sG (by decide)) (agl_trans (agl_sG (by decide)) al)⟩
    by_cases c : x.2.2.1 ≤ i
    · rw [if_pos c]
      exact stp (-2) (fun h => absurd h (by omega))
    · rw [if_neg c, if_pos hinS, show (sG S (E.2 m 31) (26 * q + i) (x.1 i)).2.1 (E.2 m 34) (12 + i) = x.2.1 i from (up2_n _ _ (fun d => n41 d.1)).trans (hs i (by omega))]
      exact stp (x.2.1 i) (fun _ => rfl)
theorem go_df (L : LX E a) (Lm : LR E m) (h3 : E.1 a3 = some (1, 2, 1)) (hfu : 200 ≤ fu) (iz : IZ z) (vx : VX E S a z) (vy : VY E S m z) (x : Int32) (f : Bool) : GoS E a m a3 fu rc x4 (sp_L_declareFrame fu E S a x (b2 f) a3) (fun S => sp_X12_declareFrame fu E S m x (b2 f)) := by
  have h100 := iz.1.2.2.2.2.2.1
  have hmo := iz.1.2.2.2.1
  have hlo := iz.1.2.2.2.2.1
  have hL := iz.2.2.1.1
  have hS := iz.2.2.1.2.1.2.2
  have C := lx_C L
  have k6 : S.1 (E.2 a 2) 6 = n32 (cn z.1.2.2) := vx.1.2.2.2.2.2.2.1
  have k3 : S.1 (E.2 a 2) 3 = n32 (cloc z.1.2.2) := vx.1.2.2.2.2.2.1
  have k2 : S.1 (E.2 a 2) 2 = n32 (cmost z.1.2.2) := vx.1.2.2.2.2.1
  have k4 : S.1 a 4 = n32 (zL z) := vx.2.2.1.2
  have kh : S.1 (E.2 a 3) 2 = n32 (zD z).2.2.1 := vx.2.2.1.1.2.2.1
  have tw := t_wf (fu := fu) hfu vx.2.2.1.1 hS
  -- the reference begins
  have hR : ∀ {S1 : St}, VY E S1 m z → ∃ S3, VY E S3 m (zDd z) ∧ S3.1 m 0 = 0 ∧ (∀ i, i < zL z → S3.2.1 (E.2 m 34) i = (zD z).1 i) ∧ (∀ i, i < (zD z).2.2.1 → S3.2.1 (E.2 m 34) (12 + i) = (zD z).2.1 i) ∧ Ag (RFc E m) S1 S3 ∧ sp_X12_declareFrame fu E S1 m x (b2 f) = if x < 0 then ((sp_X12_no fu E S3 m 1).bind fun u => some (u.1, u.2)) else if x < n32 (cn z.1.2.2) then (if cloc z.1.2.2 < zL z then ((sp_X12_no fu E S3 m 2).bind fun u => some (u.1, u.2)) else if cmost z.1.2.2 < (zD z).2.2.1 then ((sp_X12_no fu E S3 m 2).bind fun u => some (u.1, u.2)) else if (PrB (zD z).1 12 && PrB (zD z).2.1 (zD z).2.2.1) = true then lp_X12_declareFrame_90 fu E m fu x (b2 f) (n32 (zL z)) (n32 (zD z).2.2.1) 0 S3 else ((sp_X12_no fu E S3 m 2).bind fun u => some (u.1, u.2))) else ((sp_X12_no fu E S3 m 1).bind fun u => some (u.1, u.2)) := by
    intro S1 v
    have v0 := vy_0 Lm (x := 0) v
    have al : AgL E m [32, 33] [] (sF S1 m 0 0) (sF (sF (sF S1 m 0 0) m 32 0) m 33 0) := agl_trans (agl_sF (by decide)) (agl_sF (by decide))
    have vd' : VYd E (sF (sF (sF S1 m 0 0) m 32 0) m 33 0) m 0 ((fun _ => -2), (zD z).2.1, 0, false) := ⟨(up2_n _ _ (fun e => by simp at e)).trans (up2_s _ _), up2_s _ _, fun i hi => absurd hi (Nat.not_lt_zero i), fun i hi => absurd hi (Nat.not_lt_zero i)⟩
    have v3 : VY E (sF (sF (sF S1 m 0 0) m 32 0) m 33 0) m (zDd z) := vy_mk (vrt_agl Lm v0.1.1 al rfl rfl rfl) (vrb_agl Lm v0.1.2.1 al rfl rfl rfl) (vrc_agl Lm v0.1.2.2 al rfl rfl rfl) (vyp_agl Lm v0.2.1 al rfl rfl rfl) vd' (vri_ag Lm v0.2.2.2.1 al rfl rfl rfl) (vrd_ag Lm v0.2.2.2.2.1 al rfl rfl rfl) ((agl_f al rfl).trans v0.2.2.2.2.2.1) ((agl_f al rfl).trans v0.2.2.2.2.2.2.1) ((agl_f al rfl).trans v0.2.2.2.2.2.2.2)
    have e0 : (sF (sF (sF S1 m 0 0) m 32 0) m 33 0).1 m 0 = 0 := (agl_f al rfl).trans (up2_s _ _)
    have hl : ∀ i, i < zL z → (sF (sF (sF S1 m 0 0) m 32 0) m 33 0).2.1 (E.2 m 34) i = (zD z).1 i := v0.2.2.1.2.2.1
    have hs : ∀ i, i < (zD z).2.2.1 → (sF (sF (sF S1 m 0 0) m 32 0) m 33 0).2.1 (E.2 m 34) (12 + i) = (zD z).2.1 i := v0.2.2.1.2.2.2
    have ag : Ag (RFc E m) S1 (sF (sF (sF S1 m 0 0) m 32 0) m 33 0) := Ag_trans (rfc_F Lm) (Ag_trans (rfc_F Lm) (rfc_F Lm))
    have e32 : (sF S1 m 0 0).1 m 32 = n32 (zL z) := v0.2.2.1.1
    have e33 : (sF S1 m 0 0).1 m 33 = n32 (zD z).2.2.1 := v0.2.2.1.2.1
    refine ⟨_, v3, e0, hl, hs, ag, ?_⟩
    unfold sp_X12_declareFrame bnd
    dsimp only
    rw [e32, e33]
    generalize sF (sF (sF S1 m 0 0) m 32 0) m 33 0 = S3 at v3 e0 hl hs ag ⊢
    rw [show S3.1 m 19 = n32 (cn z.1.2.2) from v3.1.2.2.2.2.2.2.1, show S3.1 m 18 = n32 (cloc z.1.2.2) from v3.1.2.2.2.2.2.1, show S3.1 m 17 = n32 (cmost z.1.2.2) from v3.1.2.2.2.2.1, zi_lt (show cloc z.1.2.2 < 2 ^ 31 by omega) (show zL z < 2 ^ 31 by omega), zi_lt (show cmost z.1.2.2 < 2 ^ 31 by omega) (show (zD z).2.2.1 < 2 ^ 31 by omega)]
    have p1 : sp_X12_isPaired fu E S3 m 0 (n32 (zL z)) = some (b2 (PrB (zD z).1 (zL z)), S3) := r_prd (fu := fu) (l := (zD z).1) (o := 0) hfu (by decide) hL (fun i hi => by rw [Nat.zero_add]; exact hl i hi)
    have p2 : sp_X12_isPaired fu E S3 m 12 (n32 (zD z).2.2.1) = some (b2 (PrB (zD z).2.1 (zD z).2.2.1), S3) := r_prd (fu := fu) (o := 12) hfu (by decide) hS hs
    rw [p1, Option.bind_some, b2_if]
    dsimp only
    rw [p2, Option.bind_some, b2_if]
    dsimp only
    rw [PrB_top hL iz.2.2.1.2.2.1]
    cases PrB (zD z).1 (zL z)
    · rfl
    · rfl
  unfold sp_L_declareFrame
  have nf : ∀ (n : String) (k : Int32), eNo [("java/lang/IndexOutOfBoundsException", 1), ("java/lang/IllegalArgumentException", 2)] (.inl n) = some k → k ≠ 0 → sp_X11_declareFrame fu E S a x (b2 f) = ((sp_X11_dropDraft fu E S a).bind fun u => some (.inl n, u)) → (∀ S1, VY E S1 m z → ∃ S3, VY E S3 m (zDd z) ∧ Ag (RFc E m) S1 S3 ∧ sp_X12_declareFrame fu E S1 m x (b2 f) = ((sp_X12_no fu E S3 m k).bind fun u => some (u.1, u.2))) → GoS E a m a3 fu rc x4 ((sp_X11_declareFrame fu E S a x (b2 f)).bind fun u1 => hcat u1 [("java/lang/IndexOutOfBoundsException", 1), ("java/lang/IllegalArgumentException", 2)] fun r2 S3 => bnd (sL S3 a3 ((0 : Int32).toNatClampNeg) r2.toInt64) fun S4 => some (0, S4)) (fun S => sp_X12_declareFrame fu E S m x (b2 f)) := by
    intro n k he hk h1 h2
    refine gos_no (z' := zDd z) L Lm h3 vy (iz_Dd iz) n k he hk ?_ (fun S1 v => ?_)
    · obtain ⟨S2, e, v2, a2⟩ := c_dd (fu := fu) L hfu vx
      rw [h1, e, Option.bind_some]
      exact ⟨S2, rfl, v2, Ag_mono a2 (nrf_D L Lm)⟩
    · obtain ⟨S3, v3, ag3, e3⟩ := h2 S1 v
      show RO E S1 m (sp_X12_declareFrame fu E S1 m x (b2 f)) k 0 (zDd z)
      rw [e3]
      exact ro_at Lm ag3 v3
  have i0 : ¬ ((1 : Int32) = 0) := by decide
  rcases z_sgn x with hx | ⟨q, hq31, rfl⟩
  · refine nf "java/lang/IndexOutOfBoundsException" 1 (by decide) (by decide) (by unfold sp_X11_declareFrame sp_X1_isIndex; rw [if_pos hx, Option.bind_some, if_pos rfl]) (fun S1 v => ?_)
    obtain ⟨S3, v3, _, _, _, ag3, e3⟩ := hR v
    exact ⟨S3, v3, ag3, by rw [e3, if_pos hx]⟩
  by_cases hq : q < cn z.1.2.2
  rotate_left
  · refine nf "java/lang/IndexOutOfBoundsException" 1 (by decide) (by decide) (by unfold sp_X11_declareFrame sp_X1_isIndex; rw [zi_nlt hq31, k6, zi_le (by omega) hq31, if_pos (by omega), Option.bind_some, if_pos rfl]) (fun S1 v => ?_)
    obtain ⟨S3, v3, _, _, _, ag3, e3⟩ := hR v
    exact ⟨S3, v3, ag3, by rw [e3, zi_nlt hq31, zi_lt hq31 (by omega), if_neg hq]⟩
  have ci : sp_X1_isIndex fu E S (E.2 a 2) (n32 q) = some (1, S) := by unfold sp_X1_isIndex; rw [zi_nlt hq31, k6, zi_le (by omega) hq31, if_neg (by omega)]
  by_cases hl : cloc z.1.2.2 < zL z
  · refine nf "java/lang/IllegalArgumentException" 2 (by decide) (by decide) (by unfold sp_X11_declareFrame; rw [ci, Option.bind_some, if_neg i0]; dsimp only; rw [k3, k4, zi_lt (by omega) (by omega), if_pos hl]) (fun S1 v => ?_)
    obtain ⟨S3, v3, _, _, _, ag3, e3⟩ := hR v
    exact ⟨S3, v3, ag3, by rw [e3, zi_nlt hq31, zi_lt hq31 (by omega), if_pos hq, if_pos hl]⟩
  by_cases hs : cmost z.1.2.2 < (zD z).2.2.1
  · refine nf "java/lang/IllegalArgumentException" 2 (by decide) (by decide) (by unfold sp_X11_declareFrame; rw [ci, Option.bind_some, if_neg i0]; dsimp only; rw [k3, k4, zi_lt (by omega) (by omega), if_neg hl, k2, kh, zi_lt (by omega) (by omega), if_pos hs]) (fun S1 v => ?_)
    obtain ⟨S3, v3, _, _, _, ag3, e3⟩ := hR v
    exact ⟨S3, v3, ag3, by rw [e3, zi_nlt hq31, zi_lt hq31 (by omega), if_pos hq, if_neg hl, if_pos hs]⟩
  by_cases hp : (PrB (zD z).1 12 && PrB (zD z).2.1 (zD z).2.2.1) = true
  rotate_left
  · refine nf "java/lang/IllegalArgumentException" 2 (by decide) (by decide) (by unfold sp_X11_declareFrame; rw [ci, Option.bind_some, if_neg i0]; dsimp only; rw [k3, k4, zi_lt (by omega) (by omega), if_neg hl, k2, kh, zi_lt (by omega) (by omega), if_neg hs, tw, Option.bind_some, b2_if, if_neg hp]) (fun S1 v => ?_)
    obtain ⟨S3, v3, _, _, _, ag3, e3⟩ := hR v
    exact ⟨S3, v3, ag3, by rw [e3, zi_nlt hq31, zi_lt hq31 (by omega), if_pos hq, if_neg hl, if_neg hs, if_neg hp]⟩
  have hp' := hp
  rw [Bool.and_eq_true] at hp'
  refine gos_ok (z' := zDf z q f) L Lm h3 vy (iz_Df iz hq (by omega) (by omega) hp'.1 hp'.2) (w := n32 (cntT (upT (zT z) q (fDf z f)) 100)) ?_ (fun S1 v => ?_)
  · unfold sp_X11_declareFrame
    rw [ci, Option.bind_some, if_neg i0]
    dsimp only
    rw [k3, k4, zi_lt (by omega) (by omega), if_neg hl, k2, kh, zi_lt (by omega) (by omega), if_neg hs, tw, Option.bind_some, b2_if, if_pos hp, isB_ite]
    exact c_Df L Lm hfu iz vx hq
  · obtain ⟨S3, v3, e0, hl3, hs3, ag3, e3⟩ := hR v
    have vd3 : VRD E S3 m (zT z) := v3.2.2.2.2.1
    obtain ⟨S', e, vd, al⟩ := r_dfL (fu := fu) (q := q) (n := zL z) (w := cn z.1.2.2) (x := fDf z f) (tb := zT z) Lm hfu h100 hq hL hS iz.2.2.1.2.2.1 12 0 fu S3 rfl (by omega) v3.1.2.2.2.2.2.2.1 hl3 hs3 vd3.1 (fun j y hj _ e => ⟨vd3.2 j y hj e, (iz.2.2.2.2.1 j y hj e).1.2.2⟩) (fun j hj => absurd hj (Nat.not_lt_zero j)) (fun j hj => absurd hj (Nat.not_lt_zero j))
    refine ⟨S', ?_, (agl_f al rfl).trans e0, ?_, Ag_trans ag3 (agl_rf al rfl)⟩
    · show sp_X12_declareFrame fu E S1 m (n32 q) (b2 f) = _
      rw [e3, zi_nlt hq31, zi_lt hq31 (by omega), if_pos hq, if_neg hl, if_neg hs, if_pos hp, cnt_100 h100 (fun i hi => by
        have e1 : upT (zT z) q (fDf z f) i = zT z i := if_neg (by omega)
        rw [e1]; exact iz.2.2.2.2.2.2 i hi)]
      exact e
    · exact vy_mk (x := ((fun _ => -2), (zD z).2.1, 0, false)) (n := 0) (vrt_agl Lm v3.1.1 al rfl rfl rfl) (vrb_agl Lm v3.1.2.1 al rfl rfl rfl) (vrc_agl Lm v3.1.2.2 al rfl rfl rfl) (vyp_agl Lm v3.2.1 al rfl rfl rfl) (vyd_agl Lm v3.2.2.1 al rfl rfl rfl) (vri_ag Lm v3.2.2.2.1 al rfl rfl rfl) vd ((agl_f al rfl).trans v3.2.2.2.2.2.1) ((agl_f al rfl).trans v3.2.2.2.2.2.2.1) ((agl_f al rfl).trans v3.2.2.2.2.2.2.2)
end DF2
