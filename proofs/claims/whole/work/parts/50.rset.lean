/-! the reference's stores and replacements -/
theorem brk_1 {l : Nat → Int32} {n : Nat} (h : l n = -3 ∧ 0 < n) : brk n l = (if up1 l (n - 1) (-2) n = 8 ∧ n < 11 then up1 (up1 l (n - 1) (-2)) (n + 1) (-2) else up1 l (n - 1) (-2)) := by
  show (if (if l n = -3 ∧ 0 < n then up1 l (n - 1) (-2) else l) n = 8 ∧ n < 11 then up1 (if l n = -3 ∧ 0 < n then up1 l (n - 1) (-2) else l) (n + 1) (-2) else (if l n = -3 ∧ 0 < n then up1 l (n - 1) (-2) else l)) = _
  rw [if_pos h]
theorem brk_2 {l : Nat → Int32} {n : Nat} (h : ¬ (l n = -3 ∧ 0 < n)) : brk n l = (if l n = 8 ∧ n < 11 then up1 l (n + 1) (-2) else l) := by
  show (if (if l n = -3 ∧ 0 < n then up1 l (n - 1) (-2) else l) n = 8 ∧ n < 11 then up1 (if l n = -3 ∧ 0 < n then up1 l (n - 1) (-2) else l) (n + 1) (-2) else (if l n = -3 ∧ 0 < n then up1 l (n - 1) (-2) else l)) = _
  rw [if_neg h]
theorem brk_o {l : Nat → Int32} {n j : Nat} (h1 : j ≠ n + 1) (h2 : j + 1 ≠ n) : brk n l j = l j := by
  unfold brk
  have k1 : ∀ l1 : Nat → Int32, (if l1 n = 8 ∧ n < 11 then up1 l1 (n + 1) (-2) else l1) j = l1 j := fun l1 => by
    split
    · exact up1_n _ _ h1
    · rfl
  refine (k1 _).trans ?_
  split
  · rename_i h
    exact up1_n _ _ (by omega)
  · rfl
/-- the cases of a store into well paired slots -/
theorem brk_c {l : Nat → Int32} {n : Nat} (h : PrL l) (hn : n < 12) : (l n = -3 ∧ 0 < n ∧ l (n - 1) = 8 ∧ brk n l = up1 l (n - 1) (-2)) ∨ (l n = 8 ∧ n + 1 < 12 ∧ l (n + 1) = -3 ∧ brk n l = up1 l (n + 1) (-2)) ∨ (l n ≠ -3 ∧ l n ≠ 8 ∧ brk n l = l) := by
  have hp := h n hn
  by_cases h1 : l n = -3
  · have := hp.2 h1
    refine Or.inl ⟨h1, this.1, this.2, ?_⟩
    have e : up1 l (n - 1) (-2) n = -3 := (up1_n _ _ (by omega)).trans h1
    rw [brk_1 ⟨h1, this.1⟩, if_neg (fun z => by rw [e] at z; exact absurd z.1 (by decide))]
  · by_cases h2 : l n = 8
    · have := hp.1 h2
      refine Or.inr (Or.inl ⟨h2, this.1, this.2, ?_⟩)
      rw [brk_2 (fun z => h1 z.1), if_pos ⟨h2, by omega⟩]
    · refine Or.inr (Or.inr ⟨h1, h2, ?_⟩)
      rw [brk_2 (fun z => h1 z.1), if_neg (fun z => h2 z.1)]
theorem pr_store {l : Nat → Int32} {n : Nat} {v : Int32} (h : PrL l) (hn : n < 12) (h8 : v ≠ 8) (h3 : v ≠ -3) : PrL (up1 (brk n l) n v) := by
  have d8 : (-2 : Int32) ≠ 8 := by decide
  have d3 : (-2 : Int32) ≠ -3 := by decide
  have d : (8 : Int32) ≠ -3 := by decide
  rcases brk_c h hn with ⟨c1, c2, c3, e⟩ | ⟨c1, c2, c3, e⟩ | ⟨c1, c2, e⟩
  · rw [e]
    intro i hi
    have hp := h i hi
    simp only [up1]
    constructor
    · intro z
      split at z
      · exact absurd z h8
      · split at z
        · exact absurd z d8
        · have := hp.1 z
          refine ⟨this.1, ?_⟩
          rw [if_neg (fun q => by omega), if_neg (fun q => by
            have w := this.2
            rw [q, c3] at w
            exact d w)]
          exact this.2
    · intro z
      split at z
      · exact absurd z h3
      · split at z
        · exact absurd z d3
        · have := hp.2 z
          refine ⟨this.1, ?_⟩
          rw [if_neg (fun q => by
            have w := this.2
            rw [q, c1] at w
            exact d w.symm), if_neg (fun q => by omega)]
          exact this.2
  · rw [e]
    intro i hi
    have hp := h i hi
    simp only [up1]
    constructor
    · intro z
      split at z
      · exact absurd z h8
      · split at z
        · exact absurd z d8
        · have := hp.1 z
          refine ⟨this.1, ?_⟩
          rw [if_neg (fun q => by
            have w := this.2
            rw [q, c1] at w
            exact d w), if_neg (fun q => by omega)]
          exact this.2
    · intro z
      split at z
      · exact absurd z h3
      · split at z
        · exact absurd z d3
        · have := hp.2 z
          refine ⟨this.1, ?_⟩
          rw [if_neg (fun q => by omega), if_neg (fun q => by
            have w := this.2
            rw [q, c3] at w
            exact d w.symm)]
          exact this.2
  · rw [e]
    intro i hi
    have hp := h i hi
    simp only [up1]
    constructor
    · intro z
      split at z
      · exact absurd z h8
      · have := hp.1 z
        refine ⟨this.1, ?_⟩
        rw [if_neg (fun q => by
          have w := this.2
          rw [q] at w
          exact c1 w)]
        exact this.2
    · intro z
      split at z
      · exact absurd z h3
      · have := hp.2 z
        refine ⟨this.1, ?_⟩
        rw [if_neg (fun q => by
          have w := this.2
          rw [q] at w
          exact c2 w)]
        exact this.2
section RS
variable {E : Ev} {m fu i k : Nat} {A : Enw} {S : St} {y : Ms}
theorem vn_loc {x : Fr} {j : Nat} {z : Int32} (v : VN E S m x) (hj : j < 12) : VN E (sG S (E.2 m 39) j z) m (up1 x.1 j z, x.2) := by
  refine ⟨fun q hq => ?_, fun q hq => (up2_n _ _ (fun e => by have := e.2; omega)).trans (v.2.1 q hq), (up2_n _ _ (fun e => by have := e.2; omega)).trans v.2.2.1, (up2_n _ _ (fun e => by have := e.2; omega)).trans v.2.2.2⟩
  show up2 S.2.1 (E.2 m 39) j z (E.2 m 39) q = up1 x.1 j z q
  by_cases e : q = j
  · rw [e, up2_s, up1_s]
  · rw [up2_n _ _ (fun z => e z.2), up1_n _ _ e]; exact v.1 q hq
theorem vn_eqL {x : Fr} {l : Nat → Int32} (v : VN E S m x) (h : ∀ q, q < 12 → x.1 q = l q) : VN E S m (l, x.2) := ⟨fun q hq => (v.1 q hq).trans (h q hq), v.2⟩
theorem rx_setLS {x : Fr} {n : Nat} {z : Int32} (e0 : S.1 m 35 = 0) (v : VN E S m x) (hp : PrL x.1) (hn : n < 12) : ∃ S', sp_X12_setLocal fu E S m (n32 n) z = some S' ∧ AgL E m [] [39] S S' ∧ VN E S' m (up1 (brk n x.1) n z, x.2) := by
  unfold sp_X12_setLocal
  rw [rx_well, e0, Option.bind_some, b2_if, if_pos (by decide)]
  dsimp only
  rw [if_pos (by rw [z_inb (by omega)]; omega), z_nat (by omega), v.1 n hn]
  rcases brk_c hp hn with ⟨c1, c2, c3, e⟩ | ⟨c1, c2, c3, e⟩ | ⟨c1, c2, e⟩
  · rw [if_pos c1, show (0 : Int32) = n32 0 from rfl, zi_le (by omega) (by decide), if_neg (by omega), show n32 n - 1 = n32 (n - 1) from z_sub (b := 1) (by omega), if_pos (by rw [z_inb (by omega)]; omega), z_nat (show n - 1 < 2 ^ 31 by omega), v.1 (n - 1) (by omega), if_pos c3, if_pos (by rw [z_inb (by omega)]; omega)]
    unfold jb_X12_setLocal_46 bnd
    dsimp only
    have v1 := vn_loc (j := n - 1) (z := -2) v (by omega)
    have en : (sG S (E.2 m 39) (n - 1) (-2)).2.1 (E.2 m 39) n = -3 := (v1.1 n hn).trans ((up1_n _ _ (by omega)).trans c1)
    rw [if_pos (by rw [z_inb (by omega)]; omega), z_nat (show n < 2 ^ 31 by omega), en, if_neg (by decide), if_pos (by rw [z_inb (by omega)]; omega)]
    refine ⟨_, rfl, agl_trans (agl_sG (by decide)) (agl_sG (by decide)), ?_⟩
    rw [e]
    exact vn_loc v1 hn
  · rw [if_neg (by rw [c1]; decide)]
    unfold jb_X12_setLocal_46 bnd
    rw [if_pos (by rw [z_inb (by omega)]; omega), z_nat (show n < 2 ^ 31 by omega), v.1 n hn, if_pos c1, show n32 n + 1 = n32 (n + 1) from z_add n 1, if_pos (by rw [z_inb (by omega)]; omega), z_nat (show n + 1 < 2 ^ 31 by omega), v.1 (n + 1) (by omega), if_pos c3, if_pos (by rw [z_inb (by omega)]; omega)]
    dsimp only
    rw [if_pos (by rw [z_inb (by omega)]; omega)]
    refine ⟨_, rfl, agl_trans (agl_sG (by decide)) (agl_sG (by decide)), ?_⟩
    rw [e]
    exact vn_loc (vn_loc v c2) hn
  · rw [if_neg c1]
    unfold jb_X12_setLocal_46 bnd
    rw [if_pos (by rw [z_inb (by omega)]; omega), z_nat (show n < 2 ^ 31 by omega), v.1 n hn, if_neg c2, if_pos (by rw [z_inb (by omega)]; omega)]
    refine ⟨_, rfl, agl_sG (by decide), ?_⟩
    rw [e]
    exact vn_loc v hn
theorem rx_setLE {n z : Int32} (h : S.1 m 35 ≠ 0) : sp_X12_setLocal fu E S m n z = some S := by
  unfold sp_X12_setLocal
  rw [rx_well, Option.bind_some, b2_if, show (S.1 m 35 == 0) = false from beq_eq_false_iff_ne.mpr h, if_neg (by decide)]
theorem rx_setL (L : LR E m) (v : RM E S m A i k y) (h6 : y.2 ≠ 6) {n : Nat} {z z' : Int32} (hn : n < 12) (hp : y.2 = 0 → PrL y.1.1) (hz : y.2 = 0 → z' = z) (hs : svA A.1 z') : Rv E m A i k S (sp_X12_setLocal fu E S m (n32 n) z') (aStore n z y) := by
  by_cases h : y.2 = 0
  · obtain ⟨vn, w⟩ := v.2.2.2.1 h
    rw [hz h] at hs ⊢
    obtain ⟨S', e, a, v'⟩ := rx_setLS (fu := fu) (z := z) (rm_0 v h) vn (hp h) hn
    have K := rm_now (k2 := k) L v h a v' (wf_store (y := y) hs w)
    refine ⟨S', e, ?_, K.2⟩
    unfold aStore
    rw [h]; exact K.1
  · refine ⟨S, rx_setLE (rm_e v h6 h).2, ?_, agl_refl⟩
    unfold aStore
    exact rm_z v h _
theorem rx_stoL (L : LR E m) (hd : DI A.1) (v : RM E S m A i k y) (h6 : y.2 ≠ 6) {n : Nat} (hn : n + 1 < 12) (hp : y.2 = 0 → PrL y.1.1) : Rv E m A i k S (sp_X12_storeLong fu E S m (n32 n)) (aStore (n + 1) (-3) (aStore n 8 y)) := by
  unfold sp_X12_storeLong
  by_cases h : y.2 = 0
  · obtain ⟨vn, w⟩ := v.2.2.2.1 h
    have p0 := hp h
    obtain ⟨S1, e1, a1, v1⟩ := rx_setLS (fu := fu) (z := -2) (rm_0 v h) vn p0 (show n < 12 by omega)
    have p1 : PrL (up1 (brk n y.1.1) n (-2)) := pr_store p0 (by omega) (by decide) (by decide)
    have f1 : S1.1 m 35 = 0 := by rw [agl_f a1 rfl]; exact rm_0 v h
    obtain ⟨S2, e2, a2, v2⟩ := rx_setLS (fu := fu) (z := -2) f1 v1 p1 hn
    have v3 := vn_loc (j := n + 1) (z := -3) (vn_loc (j := n) (z := 8) v2 (by omega)) hn
    -- the slot behind is no second half any more
    have hb : ∀ q : Int32, up1 (brk n y.1.1) n q (n + 1) ≠ -3 := by
      intro q
      rw [up1_n _ _ (by omega)]
      rcases brk_c p0 (show n < 12 by omega) with ⟨c1, c2, c3, e⟩ | ⟨c1, c2, c3, e⟩ | ⟨c1, c2, e⟩
      · rw [e, up1_n _ _ (by omega)]
        intro z
        have := (p0 (n + 1) hn).2 z
        rw [show n + 1 - 1 = n by omega, c1] at this
        exact absurd this.2 (by decide)
      · rw [e, up1_s]; decide
      · rw [e]
        intro z
        have := (p0 (n + 1) hn).2 z
        rw [show n + 1 - 1 = n by omega] at this
        exact c2 this.2
    have hbk : ∀ (q : Int32) j, j ≠ n → brk (n + 1) (up1 (brk n y.1.1) n q) j = (if brk n y.1.1 (n + 1) = 8 ∧ n + 1 < 11 then up1 (brk n y.1.1) (n + 1 + 1) (-2) else brk n y.1.1) j := by
      intro q j hj
      rw [brk_2 (fun z => hb q z.1), up1_n (brk n y.1.1) (i := n) (j := n + 1) q (by omega)]
      split
      · by_cases e : j = n + 1 + 1
        · rw [e, up1_s, up1_s]
        · rw [up1_n _ _ e, up1_n _ _ e, up1_n _ _ hj]
      · exact up1_n _ _ hj
    have v4 := vn_eqL (l := (aStore (n + 1) (-3) (aStore n 8 y)).1.1) v3 (fun q hq => by
      show up1 (up1 (up1 (brk (n + 1) (up1 (brk n y.1.1) n (-2))) (n + 1) (-2)) n 8) (n + 1) (-3) q = up1 (brk (n + 1) (up1 (brk n y.1.1) n 8)) (n + 1) (-3) q
      by_cases q1 : q = n + 1
      · rw [q1, up1_s, up1_s]
      · rw [up1_n _ _ q1, up1_n _ _ q1]
        by_cases q2 : q = n
        · have e2 : brk (n + 1) (up1 (brk n y.1.1) n 8) n = 8 := by
            rw [brk_2 (fun z => hb 8 z.1)]
            split
            · rw [up1_n _ _ (by omega), up1_s]
            · rw [up1_s]
          rw [q2, up1_s, e2]
        · rw [up1_n _ _ q2, up1_n _ _ q1, hbk _ q q2, hbk _ q q2])
    have wf := wf_store (y := aStore n 8 y) (n := n + 1) (v := -3) (d := A.1) sv_high (wf_store (y := y) (n := n) (v := 8) (sv_8 hd) w)
    have K := rm_now (k2 := k) (S' := sG (sG S2 (E.2 m 39) n 8) (E.2 m 39) (n + 1) (-3)) (x := (aStore (n + 1) (-3) (aStore n 8 y)).1) L v h (agl_trans a1 (agl_trans a2 (agl_trans (agl_sG (by decide)) (agl_sG (by decide))))) v4 wf
    refine ⟨_, ?_, ?_, K.2⟩
    · unfold bnd
      rw [rx_well, rm_0 v h, Option.bind_some, b2_if, if_pos (by decide)]
      dsimp only
      rw [e1, Option.bind_some, show n32 n + 1 = n32 (n + 1) from z_add n 1, e2, Option.bind_some, if_pos (by rw [z_inb (by omega)]; omega), z_nat (by omega), if_pos (by rw [z_inb (by omega)]; omega), z_nat (by omega)]
    · have := K.1
      rw [show ((aStore (n + 1) (-3) (aStore n 8 y)).1, (0 : Int32)) = aStore (n + 1) (-3) (aStore n 8 y) from by unfold aStore; rw [h]] at this
      exact this
  · refine ⟨S, ?_, ?_, agl_refl⟩
    · rw [rx_well, Option.bind_some, b2_if, show (S.1 m 35 == 0) = false from beq_eq_false_iff_ne.mpr (rm_e v h6 h).2, if_neg (by decide)]
    · unfold aStore
      exact rm_z v h _
/-- all slots with a value get another one -/
theorem rx_repL {old new : Int32} {x : Fr} (hh : x.2.2.1 ≤ 12) : ∀ (j q F : Nat) (S : St), q + j = 24 → j + 1 ≤ F → (∀ z, z < q → S.2.1 (E.2 m 39) z = (if z < 12 then rep old new x.1 z else S.2.1 (E.2 m 39) z) ∧ ∀ t, z = 12 + t → t < x.2.2.1 → S.2.1 (E.2 m 39) z = rep old new x.2.1 t) → (∀ z, q ≤ z → z < 12 → S.2.1 (E.2 m 39) z = x.1 z) → (∀ t, q ≤ 12 + t → t < x.2.2.1 → S.2.1 (E.2 m 39) (12 + t) = x.2.1 t) → ∃ S', lp_X12_replace_2 fu E m F old new (n32 q) S = some S' ∧ AgL E m [] [39] S S' ∧ (∀ z, z < 12 → S'.2.1 (E.2 m 39) z = rep old new x.1 z) ∧ (∀ t, t < x.2.2.1 → S'.2.1 (E.2 m 39) (12 + t) = rep old new x.2.1 t) ∧ S'.2.1 (E.2 m 39) 24 = S.2.1 (E.2 m 39) 24 ∧ S'.2.1 (E.2 m 39) 25 = S.2.1 (E.2 m 39) 25 := by
  intro j
  induction j with
  | zero =>
    intro q F S hq hF h1 h2 h3
    obtain ⟨F, rfl⟩ : ∃ z, F = z + 1 := ⟨F - 1, by omega⟩
    refine ⟨S, ?_, agl_refl, fun z hz => ?_, fun t ht => (h1 (12 + t) (by omega)).2 t rfl ht, rfl, rfl⟩
    · show bd_X12_replace_2 fu E m _ old new (n32 q) S = _
      unfold bd_X12_replace_2
      rw [show (24 : Int32) = n32 24 from rfl, zi_le (by decide) (by omega), if_pos (by omega)]
    · have := (h1 z (by omega)).1
      rw [if_pos hz] at this
      exact this
  | succ j ih =>
    intro q F S hq hF h1 h2 h3
    obtain ⟨F, rfl⟩ : ∃ z, F = z + 1 := ⟨F - 1, by omega⟩
    show ∃ S', bd_X12_replace_2 fu E m _ old new (n32 q) S = some S' ∧ _
    unfold bd_X12_replace_2 bnd
    rw [show (24 : Int32) = n32 24 from rfl, zi_le (by decide) (by omega), if_neg (by omega), if_pos (by rw [z_inb (by omega)]; omega), z_nat (by omega)]
    by_cases c : S.2.1 (E.2 m 39) q = old
    · rw [if_pos c, if_pos (by rw [z_inb (by omega)]; omega)]
      have es : ∀ z, z ≠ q → (sG S (E.2 m 39) q new).2.1 (E.2 m 39) z = S.2.1 (E.2 m 39) z := fun z hz => up2_n _ _ (fun e => hz e.2)
      have eq : (sG S (E.2 m 39) q new).2.1 (E.2 m 39) q = new := up2_s _ _
      have H := ih (q + 1) F (sG S (E.2 m 39) q new) (by omega) (by omega) (fun z hz => ?_) (fun z hz hz2 => by rw [es z (by omega)]; exact h2 z (by omega) hz2) (fun t ht ht2 => by rw [es _ (by omega)]; exact h3 t (by omega) ht2)
      · obtain ⟨S', e, a, r1, r2, r3, r4⟩ := H
        refine ⟨S', ?_, agl_trans (agl_sG (by decide)) a, r1, r2, by rw [r3, es 24 (by omega)], by rw [r4, es 25 (by omega)]⟩
        show lp_X12_replace_2 fu E m F old new (n32 q + 1) _ = _
        rw [show n32 q + 1 = n32 (q + 1) from z_add q 1]
        exact e
      · by_cases hzq : z = q
        · subst hzq
          rw [eq]
          constructor
          · split
            · rename_i hz12
              have := h2 z (Nat.le_refl _) hz12
              unfold rep
              rw [← this, if_pos c]
            · rfl
          · intro t ht ht2
            have := h3 t (by omega) ht2
            unfold rep
            rw [← this, ← ht, if_pos c]
        · rw [es z hzq]
          exact h1 z (by omega)
    · rw [if_neg c, show n32 q + 1 = n32 (q + 1) from z_add q 1]
      refine ih (q + 1) F S (by omega) (by omega) (fun z hz => ?_) (fun z hz hz2 => h2 z (by omega) hz2) (fun t ht ht2 => h3 t (by omega) ht2)
      by_cases hzq : z = q
      · subst hzq
        constructor
        · split
          · rename_i hz12
            have := h2 z (Nat.le_refl _) hz12
            unfold rep
            rw [← this, if_neg c]
          · rfl
        · intro t ht ht2
          have := h3 t (by omega) ht2
          unfold rep
          rw [← this, ← ht, if_neg c]
      · exact h1 z (by omega)
theorem rx_rep (hfu : 30 ≤ fu) {old new : Int32} {x : Fr} (v : VN E S m x) (hh : x.2.2.1 ≤ 12) : ∃ S', sp_X12_replace fu E S m old new = some S' ∧ AgL E m [] [39] S S' ∧ VN E S' m (rep old new x.1, rep old new x.2.1, x.2.2) := by
  obtain ⟨S', e, a, r1, r2, r3, r4⟩ := rx_repL (E := E) (m := m) (fu := fu) (old := old) (new := new) hh 24 0 fu S (by omega) (by omega) (fun z hz => absurd hz (Nat.not_lt_zero z)) (fun z _ hz => v.1 z hz) (fun t _ ht => v.2.1 t ht)
  exact ⟨S', e, a, r1, r2, r3.trans v.2.2.1, r4.trans v.2.2.2⟩
end RS
