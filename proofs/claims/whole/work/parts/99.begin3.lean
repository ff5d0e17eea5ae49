/-! begin, the reference's side: the declared table is emptied -/
section BG3
variable {E : Ev} {S : St} {m fu : Nat} {z : Zs}
theorem r_bgL (Lm : LR E m) (hfu : 200 ≤ fu) {A : Enw} (hA : EI A) (hs : cst A.2.2 = true) : ∀ (k i F : Nat) (S : St), i + k = 100 → k + 1 ≤ F → VRe E S m A → (∀ j, j < i → S.2.1 (E.2 m 30) j = 0) → ∃ S', lp_X12_begin_100 fu E m F (n32 i) S = some (n32 (need A.2.1 (cme A.2.2)), S') ∧ VRD E S' m (fun _ => none) ∧ AgL E m [] [30] S S' := by
  intro k
  induction k with
  | zero =>
    intro i F S hk hF v h
    obtain ⟨F, rfl⟩ : ∃ z, F = z + 1 := ⟨F - 1, by omega⟩
    show ∃ S', bd_X12_begin_100 fu E m _ (n32 i) S = _ ∧ _
    unfold bd_X12_begin_100
    have h16 : S.1 m 16 = n32 (cme A.2.2) := v.2.2.2.1
    rw [show (100 : Int32) = n32 100 from rfl, zi_le (by decide) (by omega), if_pos (by omega), h16, r_need hA hfu v.2.1 (hA.2.2.1 hs), Option.bind_some]
    exact ⟨S, rfl, ⟨fun j hj => h j (by omega), fun _ _ _ e => (by cases e)⟩, agl_refl⟩
  | succ k ih =>
    intro i F S hk hF v h
    obtain ⟨F, rfl⟩ : ∃ z, F = z + 1 := ⟨F - 1, by omega⟩
    have hin : inb (n32 i) 100 = true := by rw [z_inb (by omega)]; omega
    show ∃ S', bd_X12_begin_100 fu E m (lp_X12_begin_100 fu E m F) (n32 i) S = _ ∧ _
    unfold bd_X12_begin_100 bnd
    rw [show (100 : Int32) = n32 100 from rfl, zi_le (by decide) (by omega), if_neg (by omega), if_pos hin, z_nat (show i < 2 ^ 31 by omega), show n32 i + 1 = n32 (i + 1) from z_add i 1]
    have al : AgL E m [] [30] S (sG S (E.2 m 30) i 0) := agl_sG (by decide)
    obtain ⟨S', e, vd, a⟩ := ih (i + 1) F (sG S (E.2 m 30) i 0) (by omega) (by omega) ⟨vrt_agl Lm v.1 al rfl rfl rfl, vrb_agl Lm v.2.1 al rfl rfl rfl, vrc_agl Lm v.2.2 al rfl rfl rfl⟩ (fun j hj => by
      show up2 S.2.1 (E.2 m 30) i 0 (E.2 m 30) j = 0
      by_cases c : j = i
      · rw [c, up2_s]
      · rw [up2_n _ _ (fun u => c u.2)]; exact h j (by omega))
    exact ⟨S', e, vd, agl_trans al a⟩
end BG3
