/-! the reference: merging slot by slot; a frame flows to an index -/
def orgC (x : Fr) (k : Nat) : Int32 := if k < 12 then x.1 k else x.2.1 (k - 12)
def finC (A : Enw) (x y : Fr) (k : Nat) : Int32 := if k < 12 then (if k < cloc A.2.2 then joinA A.1 (x.1 k) (y.1 k) else x.1 k) else joinA A.1 (x.2.1 (k - 12)) (y.2.1 (k - 12))
section RW2
variable {E : Ev} {S : St} {m fu : Nat} {A : Enw} {tb : Nat → Option Fr} {pd : Nat → Bool}
theorem b2_or0 {b : Bool} : b2 b ||| 0 = b2 b := by cases b <;> decide
theorem b2_or1 {b : Bool} : b2 b ||| 1 = b2 true := by cases b <;> decide
theorem i25 {t : Nat} : n32 (26 * t) + 25 = n32 (26 * t + 25) := z_add _ 25
theorem r_mrgL (L : LR E m) (hA : EI A) (hfu : 200 ≤ fu) {aj t : Nat} {x y : Fr} (ht : t < 100) (haj : aj = 39 ∨ aj = 40) (wx : WFr A.1 x) (wy : WFr A.1 y) (hh : x.2.2.1 = y.2.2.1) : ∀ (j q F : Nat) (S : St) (p : Bool), q + j = 12 + x.2.2.1 → j + 1 ≤ F → VRe E S m A → VNj E S m aj y → (∀ k, k < 12 + x.2.2.1 → S.2.1 (E.2 m 29) (26 * t + k) = (if k < q then finC A x y k else orgC x k)) → S.2.1 (E.2 m 29) (26 * t + 24) = n32 x.2.2.1 → S.2.1 (E.2 m 29) (26 * t + 25) = b2 x.2.2.2 → S.2.1 (E.2 m 42) t = b2 p → ∃ S', lp_X12_merge_172 fu E m (E.2 m aj) F (n32 t) (n32 (26 * t)) (n32 q) S = some S' ∧ (∀ k, k < 12 + x.2.2.1 → S'.2.1 (E.2 m 29) (26 * t + k) = finC A x y k) ∧ S'.2.1 (E.2 m 29) (26 * t + 24) = n32 x.2.2.1 ∧ S'.2.1 (E.2 m 29) (26 * t + 25) = b2 (x.2.2.2 || y.2.2.2) ∧ S'.2.1 (E.2 m 42) t = b2 ((p || neqF (finC A x y) (orgC x) q j) || (y.2.2.2 && !x.2.2.2)) ∧ OutT E m t S S' ∧ S'.2.1 (E.2 m 28) = S.2.1 (E.2 m 28) ∧ AgL E m [] [29, 42] S S' := by
  have hd := hA.1
  have hl := hA.2.2.2.2.1
  have hx12 := wx.2.2
  have n1 : E.2 m 29 ≠ E.2 m 28 := lr_ne L rfl rfl (by decide)
  have n2 : E.2 m 29 ≠ E.2 m 42 := lr_ne L rfl rfl (by decide)
  have n3 : E.2 m 28 ≠ E.2 m 42 := lr_ne L rfl rfl (by decide)
  have n4 : E.2 m aj ≠ E.2 m 29 := by rcases haj with rfl | rfl <;> exact lr_ne L rfl rfl (by decide)
  have n5 : E.2 m aj ≠ E.2 m 42 := by rcases haj with rfl | rfl <;> exact lr_ne L rfl rfl (by decide)
  have hint : inb (n32 t) 100 = true := by rw [z_inb (by omega)]; exact ht
  intro j
  induction j with
  | zero =>
    intro q F S p hq hF v vy hk h24 h25 hp
    obtain ⟨F, rfl⟩ : ∃ z, F = z + 1 := ⟨F - 1, by omega⟩
    show ∃ S', bd_X12_merge_172 fu E m (E.2 m aj) _ (n32 t) (n32 (26 * t)) (n32 q) S = some S' ∧ _ ∧ _ ∧ _ ∧ S'.2.1 (E.2 m 42) t = b2 ((p || false) || (y.2.2.2 && !x.2.2.2)) ∧ _
    have hin25 : inb (n32 (26 * t + 25)) 2600 = true := by rw [z_inb (by omega)]; omega
    unfold bd_X12_merge_172 jb_X12_merge_295 bnd
    dsimp only
    rw [c24, c25, vy.2.2.1, show (12 : Int32) + n32 y.2.2.1 = n32 (12 + y.2.2.1) from z_add 12 _, zi_le (by omega) (by omega), if_pos (by omega), i25, z_nat (show t < 2 ^ 31 by omega), z_nat (show 26 * t + 25 < 2 ^ 31 by omega), vy.2.2.2, h25, hp, b2_or0, b2_or1]
    simp only [hint, hin25, eq_self, if_true, b2_isB]
    rw [Bool.or_false]
    -- the mark behind
    have fin : ∀ w : Bool, (y.2.2.2 = true → x.2.2.2 = false → w = true) → (¬ (y.2.2.2 = true ∧ x.2.2.2 = false) → w = p) → ∃ S', some (sG (sG S (E.2 m 42) t (b2 w)) (E.2 m 29) (26 * t + 25) (if (sG S (E.2 m 42) t (b2 w)).2.1 (E.2 m 29) (26 * t + 25) < (sG S (E.2 m 42) t (b2 w)).2.1 (E.2 m aj) 25 then (sG S (E.2 m 42) t (b2 w)).2.1 (E.2 m aj) 25 else (sG S (E.2 m 42) t (b2 w)).2.1 (E.2 m 29) (26 * t + 25))) = some S' ∧ (∀ k, k < 12 + x.2.2.1 → S'.2.1 (E.2 m 29) (26 * t + k) = finC A x y k) ∧ S'.2.1 (E.2 m 29) (26 * t + 24) = n32 x.2.2.1 ∧ S'.2.1 (E.2 m 29) (26 * t + 25) = b2 (x.2.2.2 || y.2.2.2) ∧ S'.2.1 (E.2 m 42) t = b2 (p || (y.2.2.2 && !x.2.2.2)) ∧ OutT E m t S S' ∧ S'.2.1 (E.2 m 28) = S.2.1 (E.2 m 28) ∧ AgL E m [] [29, 42] S S' := by
      intro w hw1 hw2
      have f29 : ∀ z, (sG S (E.2 m 42) t (b2 w)).2.1 (E.2 m 29) z = S.2.1 (E.2 m 29) z := fun z => up2_n _ _ (fun e => n2 e.1)
      have faj : (sG S (E.2 m 42) t (b2 w)).2.1 (E.2 m aj) 25 = b2 y.2.2.2 := (up2_n _ _ (fun e => n5 e.1)).trans vy.2.2.2
      rw [f29, faj, h25]
      refine ⟨_, rfl, fun k hk2 => ?_, ?_, ?_, ?_, ⟨fun z hz => ?_, fun z hz => ?_, fun z hz => ?_⟩, ?_, agl_trans (agl_sG (by decide)) (agl_sG (by decide))⟩
      · refine (up2_n _ _ (fun e => by have := e.2; omega)).trans ((f29 _).trans ((hk k hk2).trans (if_pos (by omega))))
      · exact (up2_n _ _ (fun e => by have := e.2; omega)).trans ((f29 _).trans h24)
      · refine (up2_s _ _).trans ?_
        cases x.2.2.2 <;> cases y.2.2.2 <;> decide
      · refine (up2_n _ _ (fun e => n2 e.1.symm)).trans ((up2_s _ _).trans ?_)
        congr 1
        cases hym : y.2.2.2 with
        | true =>
          cases hxm : x.2.2.2 with
          | true =>
            rw [hw2 (fun z => by rw [hxm] at z; cases z.2)]
            cases p <;> rfl
          | false =>
            rw [hw1 hym hxm]
            cases p <;> rfl
        | false =>
          rw [hw2 (fun z => by rw [hym] at z; cases z.1)]
          cases p <;> rfl
      · exact (up2_n _ _ (fun e => by have := e.2; omega)).trans (f29 z)
      · exact (up2_n _ _ (fun e => n1 e.1.symm)).trans (up2_n _ _ (fun e => n3 e.1))
      · exact (up2_n _ _ (fun e => n2 e.1.symm)).trans (up2_n _ _ (fun e => hz e.2))
      · funext z
        exact (up2_n _ _ (fun e => n1 e.1.symm)).trans (up2_n _ _ (fun e => n3 e.1))
    cases hym : y.2.2.2 with
    | false =>
      rw [if_pos (show b2 false ≤ b2 x.2.2.2 from by cases x.2.2.2 <;> decide)]
      rw [hym] at fin
      exact fin p (fun z => by cases z) (fun _ => rfl)
    | true =>
      cases hxm : x.2.2.2 with
      | true =>
        rw [if_pos (show b2 true ≤ b2 true from by decide)]
        rw [hym, hxm] at fin
        exact fin p (fun _ z => by cases z) (fun _ => rfl)
      | false =>
        rw [if_neg (show ¬ b2 true ≤ b2 false from by decide)]
        rw [hym, hxm] at fin
        exact fin true (fun _ _ => rfl) (fun z => absurd ⟨rfl, rfl⟩ z)
  | succ j ih =>
    intro q F S p hq hF v vy hk h24 h25 hp
    obtain ⟨F, rfl⟩ : ∃ z, F = z + 1 := ⟨F - 1, by omega⟩
    show ∃ S', bd_X12_merge_172 fu E m (E.2 m aj) (lp_X12_merge_172 fu E m (E.2 m aj) F) (n32 t) (n32 (26 * t)) (n32 q) S = some S' ∧ _ ∧ _ ∧ _ ∧ S'.2.1 (E.2 m 42) t = b2 ((p || ((finC A x y q != orgC x q) || neqF (finC A x y) (orgC x) (q + 1) j)) || (y.2.2.2 && !x.2.2.2)) ∧ _
    unfold bd_X12_merge_172
    rw [c24, vy.2.2.1, show (12 : Int32) + n32 y.2.2.1 = n32 (12 + y.2.2.1) from z_add 12 _, zi_le (by omega) (by omega), if_neg (by omega), v.2.2.2.2.2.1, zi_lt (by omega) (by omega), show (12 : Int32) = n32 12 from rfl, zi_le (by decide) (by omega), show n32 q + 1 = n32 (q + 1) from z_add q 1]
    have eo : S.2.1 (E.2 m 29) (26 * t + q) = orgC x q := (hk q (by omega)).trans (if_neg (by omega))
    have ey : q < cloc A.2.2 ∨ 12 ≤ q → finC A x y q = joinA A.1 (orgC x q) (S.2.1 (E.2 m aj) q) := by
      intro hc
      unfold finC orgC
      by_cases c : q < 12
      · rw [if_pos c, if_pos c, if_pos (by omega), vy.1 q c]
      · have := vy.2.1 (q - 12) (by omega)
        rw [show 12 + (q - 12) = q by omega] at this
        rw [if_neg c, if_neg c, this]
    have sx : svA A.1 (orgC x q) := by
      unfold orgC
      split
      · exact wx.1 q (by omega)
      · exact wx.2.1 _ (by omega)
    have sy : svA A.1 (S.2.1 (E.2 m aj) q) := by
      by_cases c : q < 12
      · rw [vy.1 q c]; exact wy.1 q c
      · have := vy.2.1 (q - 12) (by omega)
        rw [show 12 + (q - 12) = q by omega] at this
        rw [this]; exact wy.2.1 _ (by omega)
    have go : q < cloc A.2.2 ∨ 12 ≤ q → ∃ S', jb_X12_merge_203 fu E m (E.2 m aj) (lp_X12_merge_172 fu E m (E.2 m aj) F) (n32 t) (n32 (26 * t)) (n32 q) S = some S' ∧ (∀ k, k < 12 + x.2.2.1 → S'.2.1 (E.2 m 29) (26 * t + k) = finC A x y k) ∧ S'.2.1 (E.2 m 29) (26 * t + 24) = n32 x.2.2.1 ∧ S'.2.1 (E.2 m 29) (26 * t + 25) = b2 (x.2.2.2 || y.2.2.2) ∧ S'.2.1 (E.2 m 42) t = b2 ((p || ((finC A x y q != orgC x q) || neqF (finC A x y) (orgC x) (q + 1) j)) || (y.2.2.2 && !x.2.2.2)) ∧ OutT E m t S S' ∧ S'.2.1 (E.2 m 28) = S.2.1 (E.2 m 28) ∧ AgL E m [] [29, 42] S S' := by
      intro hc
      have efin := ey hc
      have hin1 : inb (n32 (26 * t + q)) 2600 = true := by rw [z_inb (by omega)]; omega
      have hin2 : inb (n32 q) 26 = true := by rw [z_inb (by omega)]; omega
      unfold jb_X12_merge_203 jb_X12_merge_248 bnd
      rw [z_add, if_pos hin1, if_pos hin2, z_nat (show 26 * t + q < 2 ^ 31 by omega), z_nat (show q < 2 ^ 31 by omega), eo, r_join hd v.1 (by omega) sx sy, Option.bind_some]
      dsimp only
      rw [← efin, eo, z_nat (show t < 2 ^ 31 by omega), hp, b2_or0, b2_or1]
      simp only [hint, hin1, eq_self, if_true, b2_isB]
      rw [show n32 q + 1 = n32 (q + 1) from z_add q 1]
      have step : ∀ w : Bool, ∃ S', lp_X12_merge_172 fu E m (E.2 m aj) F (n32 t) (n32 (26 * t)) (n32 (q + 1)) (sG (sG S (E.2 m 42) t (b2 w)) (E.2 m 29) (26 * t + q) (finC A x y q)) = some S' ∧ (∀ k, k < 12 + x.2.2.1 → S'.2.1 (E.2 m 29) (26 * t + k) = finC A x y k) ∧ S'.2.1 (E.2 m 29) (26 * t + 24) = n32 x.2.2.1 ∧ S'.2.1 (E.2 m 29) (26 * t + 25) = b2 (x.2.2.2 || y.2.2.2) ∧ S'.2.1 (E.2 m 42) t = b2 ((w || neqF (finC A x y) (orgC x) (q + 1) j) || (y.2.2.2 && !x.2.2.2)) ∧ OutT E m t S S' ∧ S'.2.1 (E.2 m 28) = S.2.1 (E.2 m 28) ∧ AgL E m [] [29, 42] S S' := by
        intro w
        have a1 : AgL E m [] [29, 42] S (sG (sG S (E.2 m 42) t (b2 w)) (E.2 m 29) (26 * t + q) (finC A x y q)) := agl_trans (agl_sG (by decide)) (agl_sG (by decide))
        have f29 : ∀ z, z ≠ 26 * t + q → (sG (sG S (E.2 m 42) t (b2 w)) (E.2 m 29) (26 * t + q) (finC A x y q)).2.1 (E.2 m 29) z = S.2.1 (E.2 m 29) z := fun z hz => (up2_n _ _ (fun e => hz e.2)).trans (up2_n _ _ (fun e => n2 e.1))
        have faj : ∀ z, (sG (sG S (E.2 m 42) t (b2 w)) (E.2 m 29) (26 * t + q) (finC A x y q)).2.1 (E.2 m aj) z = S.2.1 (E.2 m aj) z := fun z => (up2_n _ _ (fun e => n4 e.1)).trans (up2_n _ _ (fun e => n5 e.1))
        obtain ⟨S', r0, r1, r2, r3, r4, r5, r6, r7⟩ := ih (q + 1) F _ w (by omega) (by omega) (vre_ag L v (agl_mono a1 (fun _ z => absurd z List.not_mem_nil) (by decide))) ⟨fun z hz => (faj z).trans (vy.1 z hz), fun z hz => (faj _).trans (vy.2.1 z hz), (faj _).trans vy.2.2.1, (faj _).trans vy.2.2.2⟩ (fun k hk2 => by
          by_cases e : k = q
          · rw [e, if_pos (by omega)]
            exact up2_s _ _
          · rw [f29 _ (by omega), hk k hk2]
            by_cases e2 : k < q
            · rw [if_pos e2, if_pos (by omega)]
            · rw [if_neg e2, if_neg (by omega)]) ((f29 _ (by omega)).trans h24) ((f29 _ (by omega)).trans h25) ((up2_n _ _ (fun e => n2 e.1.symm)).trans (up2_s _ _))
        refine ⟨S', r0, r1, r2, r3, r4, outT_trans ⟨fun z hz => f29 z (by omega), fun z hz => (up2_n _ _ (fun e => n1 e.1.symm)).trans (up2_n _ _ (fun e => n3 e.1)), fun z hz => (up2_n _ _ (fun e => n2 e.1.symm)).trans (up2_n _ _ (fun e => hz e.2))⟩ r5, ?_, agl_trans a1 r7⟩
        rw [r6]
        funext z
        exact (up2_n _ _ (fun e => n1 e.1.symm)).trans (up2_n _ _ (fun e => n3 e.1))
      by_cases c : finC A x y q = orgC x q
      · rw [if_pos c, show (finC A x y q != orgC x q) = false from by rw [c]; exact bne_self_eq_false _, Bool.false_or]
        exact step p
      · rw [if_neg c, show (finC A x y q != orgC x q) = true from by simpa using c, Bool.true_or, Bool.or_true]
        have := step true
        rw [Bool.true_or] at this
        exact this
    by_cases c1 : q < cloc A.2.2
    · rw [if_pos c1]; exact go (Or.inl c1)
    · rw [if_neg c1]
      by_cases c2 : 12 ≤ q
      · rw [if_pos c2]; exact go (Or.inr c2)
      · rw [if_neg c2]
        have eq : finC A x y q = orgC x q := by
          unfold finC orgC
          rw [if_pos (show q < 12 by omega), if_neg c1, if_pos (show q < 12 by omega)]
        rw [show (finC A x y q != orgC x q) = false from by rw [eq]; exact bne_self_eq_false _, Bool.false_or]
        exact ih (q + 1) F S p (by omega) (by omega) v vy (fun k hk2 => by
          rw [hk k hk2]
          by_cases e : k = q
          · rw [e, if_neg (by omega), if_pos (by omega), eq]
          · by_cases e2 : k < q
            · rw [if_pos e2, if_pos (by omega)]
            · rw [if_neg e2, if_neg (by omega)]) h24 h25 hp
end RW2
