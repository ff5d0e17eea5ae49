/-! the reference's first frame -/
section RF
variable {E : Ev} {S : St} {m fu : Nat} {A : Enw}
theorem r_layL (L : LR E m) (hA : EI A) (hs : cst A.2.2 = true) {s : Nat → Int32} {b : Bool} : ∀ (k j n F : Nat) (S : St) (l : Nat → Int32), j + k = mpcn A.2.1 (cme A.2.2) → k + 1 ≤ F → n + psF (mpty A.2.1 (cme A.2.2)) j k ≤ 12 → VRe E S m A → VN E S m (l, s, 0, b) → ∃ S', lp_X12_setFirst_132 fu E m F (n32 n) (n32 j) S = some S' ∧ VN E S' m (layP (mpty A.2.1 (cme A.2.2)) j k n l, s, 0, b) ∧ AgL E m [] [39] S S' := by
  have h30 := hA.2.1.2.1
  have hme := hA.2.2.1 hs
  have mq := hA.2.1.2.2.2 _ hme
  have hin : inb (n32 (cme A.2.2)) 30 = true := by rw [z_inb (by omega)]; omega
  intro k
  induction k with
  | zero =>
    intro j n F S l hj hF hn v vn
    obtain ⟨F, rfl⟩ : ∃ z, F = z + 1 := ⟨F - 1, by omega⟩
    refine ⟨S, ?_, vn, agl_refl⟩
    show bd_X12_setFirst_132 fu E m _ (n32 n) (n32 j) S = _
    unfold bd_X12_setFirst_132
    rw [v.2.2.2.1, if_pos hin, z_nat (by omega), (v.2.1.2.2.2 _ hme).2.2.2.1, zi_le (by omega) (by omega), if_pos (by omega)]
  | succ k ih =>
    intro j n F S l hj hF hn v vn
    obtain ⟨F, rfl⟩ : ∃ z, F = z + 1 := ⟨F - 1, by omega⟩
    have tj := isT_lt hA.1 (mq.2.2.2.2.2.2 j (by omega))
    have hn' : n + (wide (mpty A.2.1 (cme A.2.2) j) + psF (mpty A.2.1 (cme A.2.2)) (j + 1) k) ≤ 12 := hn
    show ∃ S', bd_X12_setFirst_132 fu E m (lp_X12_setFirst_132 fu E m F) (n32 n) (n32 j) S = some S' ∧ VN E S' m (layP (mpty A.2.1 (cme A.2.2)) (j + 1) k (n + wide (mpty A.2.1 (cme A.2.2) j)) (if mpty A.2.1 (cme A.2.2) j = 8 then up1 (up1 l n 8) (n + 1) (-3) else up1 l n (n32 (mpty A.2.1 (cme A.2.2) j))), s, 0, b) ∧ _
    unfold bd_X12_setFirst_132 jb_X12_setFirst_183 bnd
    dsimp only
    rw [v.2.2.2.1, if_pos hin, z_nat (show cme A.2.2 < 2 ^ 31 by omega), (v.2.1.2.2.2 _ hme).2.2.2.1, zi_le (by omega) (by omega), if_neg (by omega), show (6 : Int32) * n32 (cme A.2.2) + n32 j = n32 (6 * cme A.2.2 + j) from by rw [show (6 : Int32) * n32 (cme A.2.2) = n32 (6 * cme A.2.2) from z_mul 6 _, z_add], if_pos (by rw [z_inb (by omega)]; omega), z_nat (show 6 * cme A.2.2 + j < 2 ^ 31 by omega), (v.2.1.2.2.2 _ hme).2.2.2.2 j (by omega)]
    unfold wide at hn' ⊢
    by_cases c : mpty A.2.1 (cme A.2.2) j = 8
    · simp only [if_pos c] at hn' ⊢
      rw [if_pos (by rw [z_inb (by omega)]; omega), z_nat (show n < 2 ^ 31 by omega), c, if_pos (show n32 8 = 8 from rfl), show n32 n + 1 = n32 (n + 1) from z_add n 1, if_pos (by rw [z_inb (by omega)]; omega), z_nat (show n + 1 < 2 ^ 31 by omega), r_wide (by decide), Option.bind_some]
      have a1 : AgL E m [] [39] S (sG (sG S (E.2 m 39) n (n32 8)) (E.2 m 39) (n + 1) (-3)) := agl_trans (agl_sG (by decide)) (agl_sG (by decide))
      dsimp only
      rw [z_add, show n32 j + 1 = n32 (j + 1) from z_add j 1]
      obtain ⟨S', e, v', a'⟩ := ih (j + 1) (n + 2) F _ _ (by omega) (by omega) (by omega) (vre_ag L v (agl_mono a1 (fun _ z => absurd z List.not_mem_nil) (by decide))) (vn_loc (vn_loc vn (show n < 12 by omega)) (show n + 1 < 12 by omega))
      exact ⟨S', e, v', agl_trans a1 a'⟩
    · simp only [if_neg c] at hn' ⊢
      rw [if_pos (by rw [z_inb (by omega)]; omega), z_nat (show n < 2 ^ 31 by omega), show (8 : Int32) = n32 8 from rfl, zi_eq (by omega) (by decide), if_neg c, r_wide (by omega), Option.bind_some]
      have a1 : AgL E m [] [39] S (sG S (E.2 m 39) n (n32 (mpty A.2.1 (cme A.2.2) j))) := agl_sG (by decide)
      dsimp only
      unfold wide
      rw [if_neg c, z_add, show n32 j + 1 = n32 (j + 1) from z_add j 1]
      obtain ⟨S', e, v', a'⟩ := ih (j + 1) (n + 1) F _ _ (by omega) (by omega) (by omega) (vre_ag L v (agl_mono a1 (fun _ z => absurd z List.not_mem_nil) (by decide))) (vn_loc vn (show n < 12 by omega))
      exact ⟨S', e, v', agl_trans a1 a'⟩
theorem r_fstE (hfu : 200 ≤ fu) (L : LR E m) (hA : EI A) (hs : cst A.2.2 = true) (hn : need A.2.1 (cme A.2.2) ≤ cloc A.2.2) (v : VRe E S m A) (h : ∀ z, z < 24 → S.2.1 (E.2 m 39) z = -2) (rc : Int32 → St → Option St) : ∃ S', bd_X12_setFirst_2 fu E m rc (n32 24) S = some S' ∧ VN E S' m (aFst A) ∧ AgL E m [] [39] S S' := by
  have h30 := hA.2.1.2.1
  have hl := hA.2.2.2.2.1
  have h20 := hA.1.2.1
  have hme := hA.2.2.1 hs
  have mm := hA.2.1.2.2.2 _ hme
  have hin : inb (n32 (cme A.2.2)) 30 = true := by rw [z_inb (by omega)]; omega
  have a1 : AgL E m [] [39] S (sG (sG S (E.2 m 39) 24 0) (E.2 m 39) 25 0) := agl_trans (agl_sG (by decide)) (agl_sG (by decide))
  have v1 : VN E (sG (sG S (E.2 m 39) 24 0) (E.2 m 39) 25 0) m (fun _ => -2, fun _ => -2, 0, false) := ⟨fun z hz => (up2_n _ _ (fun e => by have := e.2; omega)).trans ((up2_n _ _ (fun e => by have := e.2; omega)).trans (h z (by omega))), fun z hz => absurd hz (Nat.not_lt_zero z), (up2_n _ _ (fun e => by have := e.2; omega)).trans (up2_s _ _), up2_s _ _⟩
  have ve1 : VRe E (sG (sG S (E.2 m 39) 24 0) (E.2 m 39) 25 0) m A := vre_ag L v (agl_mono a1 (fun _ z => absurd z List.not_mem_nil) (by decide))
  unfold bd_X12_setFirst_2 bnd
  rw [if_pos (by decide), c24, c25]
  dsimp only
  generalize sG (sG S (E.2 m 39) 24 0) (E.2 m 39) 25 0 = S1 at a1 v1 ve1
  have hb := ve1.2.1.2.2.2 _ hme
  rw [ve1.2.2.2.1, if_pos hin, if_pos hin, if_pos hin, z_nat (by omega), hb.1, hb.2.1, show (1 : Int32) = n32 1 from rfl, zi_eq (by omega) (by decide), show n32 1 = (1 : Int32) from rfl]
  unfold aFst fstL need mslo at *
  by_cases c : mkin A.2.1 (cme A.2.2) = 1
  · rw [if_pos c] at hn
    rw [if_pos c, if_pos c, decide_eq_false (show ¬ (mkin A.2.1 (cme A.2.2) ≠ 1) from fun z => z c), Bool.false_and]
    obtain ⟨S2, e2, v2, a2⟩ := r_layL (fu := fu) L hA hs (mpcn A.2.1 (cme A.2.2)) 0 0 fu S1 _ (by omega) (by have := mm.2.2.2.2.1; omega) (by rw [psF_0]; omega) ve1 v1
    exact ⟨S2, e2, v2, agl_trans a1 a2⟩
  · rw [if_neg c] at hn
    rw [if_neg c, if_neg c, decide_eq_true c, Bool.true_and]
    have go : ∀ w : Bool, ∃ S', jb_X12_setFirst_84 fu E m (b2 w) S1 = some S' ∧ VN E S' m (layP (mpty A.2.1 (cme A.2.2)) 0 (mpcn A.2.1 (cme A.2.2)) 1 (up1 (fun _ => -2) 0 (if w = true then -4 else n32 (8 * mown A.2.1 (cme A.2.2)))), (fun _ => -2), 0, w) ∧ AgL E m [] [39] S S' := by
      intro w
      have fin : ∀ z : Int32, ∃ S', jb_X12_setFirst_111 fu E m (E.2 m 39) (b2 w) 0 z S1 = some S' ∧ VN E S' m (layP (mpty A.2.1 (cme A.2.2)) 0 (mpcn A.2.1 (cme A.2.2)) 1 (up1 (fun _ => -2) 0 z), (fun _ => -2), 0, w) ∧ AgL E m [] [39] S S' := by
        intro z
        unfold jb_X12_setFirst_111 bnd
        rw [if_pos (by decide), c25]
        dsimp only
        rw [c0n, b2_if]
        have v2 := vn_loc (j := 0) (z := z) v1 (by decide)
        have key : ∀ q : Bool, ∃ S', lp_X12_setFirst_132 fu E m fu 1 0 (sG (sG S1 (E.2 m 39) 0 z) (E.2 m 39) 25 (b2 q)) = some S' ∧ VN E S' m (layP (mpty A.2.1 (cme A.2.2)) 0 (mpcn A.2.1 (cme A.2.2)) 1 (up1 (fun _ => -2) 0 z), (fun _ => -2), 0, q) ∧ AgL E m [] [39] S S' := by
          intro q
          have a2 : AgL E m [] [39] S1 (sG (sG S1 (E.2 m 39) 0 z) (E.2 m 39) 25 (b2 q)) := agl_trans (agl_sG (by decide)) (agl_sG (by decide))
          have v3 : VN E (sG (sG S1 (E.2 m 39) 0 z) (E.2 m 39) 25 (b2 q)) m (up1 (fun _ => -2) 0 z, (fun _ => -2), 0, q) := ⟨fun j hj => (up2_n _ _ (fun e => by have := e.2; omega)).trans (v2.1 j hj), fun j hj => absurd hj (Nat.not_lt_zero j), (up2_n _ _ (fun e => by have := e.2; omega)).trans v2.2.2.1, up2_s _ _⟩
          obtain ⟨S3, e3, v4, a3⟩ := r_layL (fu := fu) L hA hs (mpcn A.2.1 (cme A.2.2)) 0 1 fu _ _ (by omega) (by have := mm.2.2.2.2.1; omega) (by rw [psF_0]; omega) (vre_ag L ve1 (agl_mono a2 (fun _ z => absurd z List.not_mem_nil) (by decide))) v3
          exact ⟨S3, e3, v4, agl_trans a1 (agl_trans a2 a3)⟩
        cases w with
        | true => exact key true
        | false => exact key false
      unfold jb_X12_setFirst_84
      cases w with
      | true => exact fin (-4)
      | false =>
        have := fin (n32 (8 * mown A.2.1 (cme A.2.2)))
        rw [if_pos (show b2 false = 0 from rfl), if_neg (show ¬ false = true by decide), ve1.2.2.2.1, if_pos hin, z_nat (by omega), hb.1, show (8 : Int32) * n32 (mown A.2.1 (cme A.2.2)) = n32 (8 * mown A.2.1 (cme A.2.2)) from z_mul 8 _]
        exact this
    rw [show (2 : Int32) = n32 2 from rfl, zi_eq (by omega) (by decide), zi_eq (by omega) (by decide)]
    unfold isNw
    by_cases c2 : mkin A.2.1 (cme A.2.2) = 2
    · rw [if_pos c2, decide_eq_true c2, Bool.true_and]
      by_cases c3 : mown A.2.1 (cme A.2.2) = 2
      · rw [if_pos c3, decide_eq_true c3]
        exact go false
      · rw [if_neg c3, decide_eq_false c3]
        exact go true
    · rw [if_neg c2, decide_eq_false c2, Bool.false_and]
      exact go false
theorem r_fstL (hfu : 200 ≤ fu) (L : LR E m) (hA : EI A) (hs : cst A.2.2 = true) (hn : need A.2.1 (cme A.2.2) ≤ cloc A.2.2) : ∀ (j q F : Nat) (S : St), q + j = 24 → j + 1 ≤ F → VRe E S m A → (∀ z, z < q → S.2.1 (E.2 m 39) z = -2) → ∃ S', lp_X12_setFirst_2 fu E m F (n32 q) S = some S' ∧ VN E S' m (aFst A) ∧ AgL E m [] [39] S S' := by
  intro j
  induction j with
  | zero =>
    intro q F S hq hF v h
    obtain ⟨F, rfl⟩ : ∃ z, F = z + 1 := ⟨F - 1, by omega⟩
    have e : q = 24 := by omega
    subst e
    exact r_fstE hfu L hA hs hn v h _
  | succ j ih =>
    intro q F S hq hF v h
    obtain ⟨F, rfl⟩ : ∃ z, F = z + 1 := ⟨F - 1, by omega⟩
    show ∃ S', bd_X12_setFirst_2 fu E m (lp_X12_setFirst_2 fu E m F) (n32 q) S = some S' ∧ _
    unfold bd_X12_setFirst_2
    rw [show (24 : Int32) = n32 24 from rfl, zi_le (by decide) (by omega), if_neg (by omega), if_pos (by rw [z_inb (by omega)]; omega), z_nat (show q < 2 ^ 31 by omega), show n32 q + 1 = n32 (q + 1) from z_add q 1]
    have a1 : AgL E m [] [39] S (sG S (E.2 m 39) q (-2)) := agl_sG (by decide)
    obtain ⟨S', e, v', a'⟩ := ih (q + 1) F (sG S (E.2 m 39) q (-2)) (by omega) (by omega) (vre_ag L v (agl_mono a1 (fun _ z => absurd z List.not_mem_nil) (by decide))) (fun z hz => by
      show up2 S.2.1 (E.2 m 39) q (-2) (E.2 m 39) z = -2
      by_cases e : z = q
      · rw [e, up2_s]
      · rw [up2_n _ _ (fun w => e w.2)]; exact h z (by omega))
    exact ⟨S', e, v', agl_trans a1 a'⟩
theorem r_first (hfu : 200 ≤ fu) (L : LR E m) (hA : EI A) (hs : cst A.2.2 = true) (hn : need A.2.1 (cme A.2.2) ≤ cloc A.2.2) (v : VRe E S m A) : ∃ S', sp_X12_setFirst fu E S m = some S' ∧ VN E S' m (aFst A) ∧ AgL E m [] [39] S S' := r_fstL hfu L hA hs hn 24 0 fu S rfl (by omega) v (fun z hz => absurd hz (Nat.not_lt_zero z))
end RF
