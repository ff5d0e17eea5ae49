/-! the reference: a frame flows to an index -/
section RX
variable {E : Ev} {S : St} {m fu : Nat} {A : Enw} {tb : Nat → Option Fr} {pd : Nat → Bool}
theorem fin_ch {x y : Fr} (hx : WX A x) (hy : WX A y) : neqF (finC A x y) (orgC x) 0 (12 + x.2.2.1) = (chJ A.1 x.2.1 y.2.1 0 x.2.2.1 || chJ A.1 x.1 y.1 0 12) := by
  rw [neqF_add, Nat.zero_add, Bool.or_comm, chJ_n, chJ_n]
  congr 1
  · have h := neqF_sh (f := finC A x y) (g := orgC x) (c := 12) x.2.2.1 0
    rw [Nat.add_zero] at h
    rw [h]
    refine neqF_congr _ _ (fun z _ _ => ?_)
    unfold finC orgC
    rw [if_neg (show ¬ 12 + z < 12 by omega), if_neg (show ¬ 12 + z < 12 by omega), Nat.add_sub_cancel_left]
  · refine neqF_congr _ _ (fun z _ hz => ?_)
    have hz' : z < 12 := by omega
    unfold finC orgC
    rw [if_pos hz', if_pos hz']
    by_cases c : z < cloc A.2.2
    · rw [if_pos c]
    · rw [if_neg c, hx.2.2.2.2 z (by omega) hz', hy.2.2.2.2 z (by omega) hz']
      rfl
theorem r_merge (L : LR E m) (hA : EI A) (hfu : 200 ≤ fu) {aj t : Nat} {y : Fr} (ht : t < 100) (haj : aj = 39 ∨ aj = 40) (v : VRe E S m A) (vi : VRI E S m tb) (vp : VRP E S m pd) (wt : TWX A tb) (vy : VNj E S m aj y) (wy : WX A y) (h35 : S.1 m 35 = 0) : ∃ S', sp_X12_merge fu E S m (E.2 m aj) (n32 t) = some S' ∧ AgL E m [35, 36] [28, 29, 42] S S' ∧ (aFlow A.1 y t (tb, pd) = none → S'.1 m 35 = 8 ∧ S'.1 m 36 = S.1 m 43 ∧ VRI E S' m tb ∧ VRP E S' m pd) ∧ ∀ s, aFlow A.1 y t (tb, pd) = some s → S'.1 m 35 = 0 ∧ S'.1 m 36 = S.1 m 36 ∧ VRI E S' m s.1 ∧ VRP E S' m s.2 := by
  have hd := hA.1
  have hint : inb (n32 t) 100 = true := by rw [z_inb (by omega)]; exact ht
  have n1 : E.2 m 29 ≠ E.2 m 28 := lr_ne L rfl rfl (by decide)
  unfold sp_X12_merge aFlow bnd
  dsimp only
  rw [show (26 : Int32) * n32 t = n32 (26 * t) from z_mul 26 t, if_pos hint, z_nat (show t < 2 ^ 31 by omega), vi.1 t ht, b2_if]
  cases htb : tb t with
  | none =>
    rw [show (none : Option Fr).isSome = false from rfl, if_neg (by decide)]
    obtain ⟨S', e, r1, r2, r3, r4, r5⟩ := r_cpyL (fu := fu) L ht haj 26 0 fu S rfl (by omega) (fun z hz => absurd hz (Nat.not_lt_zero z))
    refine ⟨S', e, agl_mono r5 (fun _ z => absurd z List.not_mem_nil) (fun _ z => z), fun z => (by cases z), fun s hs => ?_⟩
    cases hs
    have hy12 := wy.1.2.2
    refine ⟨by rw [agl_f r5 rfl]; exact h35, agl_f r5 rfl, vri_up vi wt r4 r2 ⟨fun i hi => (r1 i (by omega)).trans (vy.1 i hi), fun i hi => (r1 (12 + i) (by omega)).trans (vy.2.1 i hi), (r1 24 (by decide)).trans vy.2.2.1, (r1 25 (by decide)).trans vy.2.2.2⟩, vrp_up vp r4 r3⟩
  | some x =>
    rw [show (some x : Option Fr).isSome = true from rfl, if_pos rfl]
    dsimp only
    have vx := vi.2 t x ht htb
    have wx := wt t x ht htb
    have hx12 := wx.1.2.2
    have hy12 := wy.1.2.2
    rw [c24, show n32 (26 * t) + 24 = n32 (26 * t + 24) from z_add _ 24, if_pos (by rw [z_inb (by omega)]; omega), z_nat (by omega), vy.2.2.1, vx.2.2.1, zi_eq (by omega) (by omega)]
    have fit : ∀ c : Bool, (c = true → x.2.2.1 = y.2.2.1) → lp_X12_merge_85 fu E m (E.2 m aj) fu (n32 t) (n32 (26 * t)) (b2 c) 12 S = jb_X12_merge_153 fu E m (E.2 m aj) (n32 t) (n32 (26 * t)) (b2 (c && okJ A.1 x.2.1 y.2.1 0 y.2.2.1)) S := fun c hc => r_fitL (fu := fu) L hA hfu ht v vx vy wx.1 wy.1 y.2.2.1 0 fu c hc (by omega) (by omega)
    have e0 : (if y.2.2.1 = x.2.2.1 then lp_X12_merge_85 fu E m (E.2 m aj) fu (n32 t) (n32 (26 * t)) 1 12 S else lp_X12_merge_85 fu E m (E.2 m aj) fu (n32 t) (n32 (26 * t)) 0 12 S) = jb_X12_merge_153 fu E m (E.2 m aj) (n32 t) (n32 (26 * t)) (b2 (mrgOk A.1 x y)) S := by
      unfold mrgOk
      by_cases c : y.2.2.1 = x.2.2.1
      · rw [if_pos c, decide_eq_true c.symm, ← c]
        exact fit true (fun _ => c.symm)
      · rw [if_neg c, decide_eq_false (fun z => c z.symm), Bool.false_and]
        have := fit false (fun z => by cases z)
        rw [Bool.false_and] at this
        exact this
    rw [e0]
    unfold jb_X12_merge_153
    rw [b2_if]
    by_cases ok : mrgOk A.1 x y = true
    · rw [if_pos ok, if_pos ok]
      have hh : x.2.2.1 = y.2.2.1 := by
        unfold mrgOk at ok
        rw [Bool.and_eq_true, decide_eq_true_eq] at ok
        exact ok.1
      obtain ⟨S', e, r1, r2, r3, r4, r5, r6, r7⟩ := r_mrgL (fu := fu) L hA hfu ht haj wx.1 wy.1 hh (12 + x.2.2.1) 0 fu S (pd t) (by omega) (by omega) v vy (fun k hk => by
        rw [if_neg (Nat.not_lt_zero k)]
        unfold orgC
        by_cases c : k < 12
        · rw [if_pos c]; exact vx.1 k c
        · have := vx.2.1 (k - 12) (by omega)
          rw [show 12 + (k - 12) = k by omega] at this
          rw [if_neg c]; exact this) vx.2.2.1 vx.2.2.2 (vp t ht)
      refine ⟨S', e, agl_mono r7 (fun _ z => absurd z List.not_mem_nil) (by decide), fun z => (by cases z), fun s hs => ?_⟩
      cases hs
      refine ⟨by rw [agl_f r7 rfl]; exact h35, agl_f r7 rfl, vri_up vi wt r5 (by rw [r6, vi.1 t ht, htb]; rfl) ⟨fun i hi => ?_, fun i hi => ?_, r2, r3⟩, ?_⟩
      · rw [r1 i (by omega)]
        unfold finC
        rw [if_pos hi]
        show _ = joinA A.1 (x.1 i) (y.1 i)
        by_cases c : i < cloc A.2.2
        · rw [if_pos c]
        · rw [if_neg c, wx.2.2.2.2 i (by omega) hi, wy.2.2.2.2 i (by omega) hi]
          rfl
      · have hi' : i < x.2.2.1 := hi
        rw [r1 (12 + i) (by omega)]
        unfold finC
        rw [if_neg (show ¬ 12 + i < 12 by omega), Nat.add_sub_cancel_left]
        rfl
      · refine vrp_up vp r5 ?_
        rw [r4, fin_ch wx wy]
        unfold mrgCh
        congr 1
        cases pd t <;> cases (y.2.2.2 && !x.2.2.2) <;> cases chJ A.1 x.2.1 y.2.1 0 x.2.2.1 <;> cases chJ A.1 x.1 y.1 0 12 <;> rfl
    · rw [if_neg ok, if_neg ok, rx_fail h35, Option.bind_some]
      refine ⟨_, rfl, agl_trans (agl_sF (by decide)) (agl_sF (by decide)), fun _ => ⟨?_, up2_s _ _, vi, vp⟩, fun s hs => by cases hs⟩
      show up2 (up2 S.1 m 35 8) m 36 (S.1 m 43) m 35 = 8
      rw [up2_n _ _ (by simp), up2_s]
end RX
