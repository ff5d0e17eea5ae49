/-! the reference checks: frames that fit, flows -/
def VRD (E : Ev) (S : St) (m : Nat) (tb : Nat → Option Fr) : Prop := (∀ i, i < 100 → S.2.1 (E.2 m 30) i = b2 (tb i).isSome) ∧ ∀ i x, i < 100 → tb i = some x → VA S (E.2 m 31) (26 * i) x
theorem aAll_add {p : Nat → Bool} : ∀ (a b i : Nat), aAll p i (a + b) = (aAll p i a && aAll p (i + a) b)
  | 0, b, i => by rw [Nat.zero_add, Nat.add_zero]; rfl
  | a + 1, b, i => by
    rw [show a + 1 + b = (a + b) + 1 by omega]
    show (_ && aAll p (i + 1) (a + b)) = ((_ && aAll p (i + 1) a) && aAll p (i + (a + 1)) b)
    rw [aAll_add a b (i + 1), Bool.and_assoc, show i + 1 + a = i + (a + 1) by omega]
theorem aAll_t {p : Nat → Bool} : ∀ (k i : Nat), (∀ z, i ≤ z → z < i + k → p z = true) → aAll p i k = true
  | 0, _, _ => rfl
  | k + 1, i, h => by
    show (p i && aAll p (i + 1) k) = true
    rw [h i (Nat.le_refl _) (by omega), aAll_t k (i + 1) (fun z h1 h2 => h z (by omega) (by omega))]; rfl
theorem ff_loc {A : Enw} {x y : Fr} (hl : cloc A.2.2 ≤ 12) (hx : WX A x) (hy : WX A y) : aAll (fun i => fitsA A.1 (x.1 i) (y.1 i)) 0 12 = aAll (fun i => fitsA A.1 (x.1 i) (y.1 i)) 0 (cloc A.2.2) := by
  have h := aAll_add (p := fun i => fitsA A.1 (x.1 i) (y.1 i)) (cloc A.2.2) (12 - cloc A.2.2) 0
  rw [show cloc A.2.2 + (12 - cloc A.2.2) = 12 by omega] at h
  rw [h, aAll_t (12 - cloc A.2.2) (0 + cloc A.2.2) (fun z h1 h2 => by
    show fitsA A.1 (x.1 z) (y.1 z) = true
    rw [hx.2.2.2.2 z (by omega) (by omega), hy.2.2.2.2 z (by omega) (by omega)]
    rfl), Bool.and_true]
section RCK
variable {E : Ev} {S : St} {m fu : Nat} {A : Enw} {tb ti : Nat → Option Fr}
theorem r_ffS (hA : EI A) (hfu : 200 ≤ fu) {aj t : Nat} {y x : Fr} (ht : t < 100) (v : VRe E S m A) (vy : VNj E S m aj y) (vx : VA S (E.2 m 31) (26 * t) x) (wy : WFr A.1 y) (wx : WFr A.1 x) : ∀ (k i F : Nat) (c : Bool), (c = true → y.2.2.1 = x.2.2.1) → i + k = y.2.2.1 → k + 1 ≤ F → lp_X12_fitsFrame_75 fu E m (E.2 m aj) (E.2 m 31) F (n32 (26 * t)) (b2 c) (n32 i) S = some (b2 (c && aAll (fun i => fitsA A.1 (y.2.1 i) (x.2.1 i)) i k), S) := by
  have h12 := wy.2.2
  have c24 : (24 : Int32).toNatClampNeg = 24 := rfl
  intro k
  induction k with
  | zero =>
    intro i F c hc hk hF
    obtain ⟨F, rfl⟩ : ∃ z, F = z + 1 := ⟨F - 1, by omega⟩
    show bd_X12_fitsFrame_75 fu E m _ _ _ (n32 (26 * t)) (b2 c) (n32 i) S = some (b2 (c && true), S)
    unfold bd_X12_fitsFrame_75
    rw [c24, vy.2.2.1, zi_le (by omega) (by omega), if_pos (by omega), isB_ite, Bool.and_true]
  | succ k ih =>
    intro i F c hc hk hF
    obtain ⟨F, rfl⟩ : ∃ z, F = z + 1 := ⟨F - 1, by omega⟩
    show bd_X12_fitsFrame_75 fu E m (E.2 m aj) (E.2 m 31) (lp_X12_fitsFrame_75 fu E m (E.2 m aj) (E.2 m 31) F) (n32 (26 * t)) (b2 c) (n32 i) S = some (b2 (c && (fitsA A.1 (y.2.1 i) (x.2.1 i) && aAll (fun i => fitsA A.1 (y.2.1 i) (x.2.1 i)) (i + 1) k)), S)
    unfold bd_X12_fitsFrame_75
    rw [c24, vy.2.2.1, zi_le (by omega) (by omega), if_neg (by omega), isB_ite, b2_if]
    cases c with
    | false => rw [if_neg (by decide)]; rfl
    | true =>
      have hh := hc rfl
      rw [if_pos rfl, show (12 : Int32) + n32 i = n32 (12 + i) from z_add 12 i, show n32 (26 * t) + 12 = n32 (26 * t + 12) from z_add _ 12, z_add, if_pos (by rw [z_inb (by omega)]; omega), if_pos (by rw [z_inb (by omega)]; omega), z_nat (show 12 + i < 2 ^ 31 by omega), z_nat (show 26 * t + 12 + i < 2 ^ 31 by omega), vy.2.1 i (by omega), show 26 * t + 12 + i = 26 * t + (12 + i) by omega, vx.2.1 i (by omega), r_fits hA.1 v.1 (by omega) (wy.2.1 i (by omega)) (wx.2.1 i (by omega)), Option.bind_some, show n32 i + 1 = n32 (i + 1) from z_add i 1, Bool.true_and]
      exact ih (i + 1) F _ (fun _ => hh) (by omega) (by omega)
theorem r_ffL (hA : EI A) (hfu : 200 ≤ fu) {aj t : Nat} {y x : Fr} (ht : t < 100) (v : VRe E S m A) (vy : VNj E S m aj y) (vx : VA S (E.2 m 31) (26 * t) x) (wy : WFr A.1 y) (wx : WFr A.1 x) : ∀ (k i F : Nat) (c : Bool), (c = true → y.2.2.1 = x.2.2.1) → i + k = cloc A.2.2 → k + 1 ≤ F → lp_X12_fitsFrame_36 fu E m (E.2 m aj) (E.2 m 31) F (n32 (26 * t)) (b2 c) (n32 i) S = some (b2 ((c && aAll (fun i => fitsA A.1 (y.1 i) (x.1 i)) i k) && aAll (fun i => fitsA A.1 (y.2.1 i) (x.2.1 i)) 0 y.2.2.1), S) := by
  have hl := hA.2.2.2.2.1
  have h12 := wy.2.2
  have h18 : S.1 m 18 = n32 (cloc A.2.2) := v.2.2.2.2.2.1
  have sk : ∀ c : Bool, (c = true → y.2.2.1 = x.2.2.1) → lp_X12_fitsFrame_75 fu E m (E.2 m aj) (E.2 m 31) fu (n32 (26 * t)) (b2 c) 0 S = some (b2 (c && aAll (fun i => fitsA A.1 (y.2.1 i) (x.2.1 i)) 0 y.2.2.1), S) := fun c hc => r_ffS hA hfu ht v vy vx wy wx y.2.2.1 0 fu c hc (by omega) (by omega)
  intro k
  induction k with
  | zero =>
    intro i F c hc hk hF
    obtain ⟨F, rfl⟩ : ∃ z, F = z + 1 := ⟨F - 1, by omega⟩
    show bd_X12_fitsFrame_36 fu E m _ _ _ (n32 (26 * t)) (b2 c) (n32 i) S = some (b2 ((c && true) && _), S)
    unfold bd_X12_fitsFrame_36
    rw [h18, zi_le (by omega) (by omega), if_pos (by omega), sk c hc, Bool.and_true]
  | succ k ih =>
    intro i F c hc hk hF
    obtain ⟨F, rfl⟩ : ∃ z, F = z + 1 := ⟨F - 1, by omega⟩
    show bd_X12_fitsFrame_36 fu E m (E.2 m aj) (E.2 m 31) (lp_X12_fitsFrame_36 fu E m (E.2 m aj) (E.2 m 31) F) (n32 (26 * t)) (b2 c) (n32 i) S = some (b2 ((c && (fitsA A.1 (y.1 i) (x.1 i) && aAll (fun i => fitsA A.1 (y.1 i) (x.1 i)) (i + 1) k)) && aAll (fun i => fitsA A.1 (y.2.1 i) (x.2.1 i)) 0 y.2.2.1), S)
    unfold bd_X12_fitsFrame_36
    rw [h18, zi_le (by omega) (by omega), if_neg (by omega), b2_if]
    cases c with
    | false => rw [if_neg (by decide), sk false hc]; rfl
    | true =>
      have hh := hc rfl
      rw [if_pos rfl, z_add, if_pos (by rw [z_inb (by omega)]; omega), if_pos (by rw [z_inb (by omega)]; omega), z_nat (show i < 2 ^ 31 by omega), z_nat (show 26 * t + i < 2 ^ 31 by omega), vy.1 i (by omega), vx.1 i (by omega), r_fits hA.1 v.1 (by omega) (wy.1 i (by omega)) (wx.1 i (by omega)), Option.bind_some, show n32 i + 1 = n32 (i + 1) from z_add i 1, Bool.true_and]
      exact ih (i + 1) F _ (fun _ => hh) (by omega) (by omega)
theorem r_ff (hA : EI A) (hfu : 200 ≤ fu) {aj t : Nat} {y x : Fr} (ht : t < 100) (v : VRe E S m A) (vy : VNj E S m aj y) (vx : VA S (E.2 m 31) (26 * t) x) (wy : WX A y) (wx : WX A x) : sp_X12_fitsFrame fu E S m (E.2 m aj) (E.2 m 31) (26 * n32 t) = some (b2 (ffA A.1 y x), S) := by
  have h1 := wy.1.2.2
  have h2 := wx.1.2.2
  have hl := hA.2.2.2.2.1
  have c24 : (24 : Int32).toNatClampNeg = 24 := rfl
  have c25 : (25 : Int32).toNatClampNeg = 25 := rfl
  have go : ∀ c : Bool, (c = true → y.2.2.1 = x.2.2.1) → lp_X12_fitsFrame_36 fu E m (E.2 m aj) (E.2 m 31) fu (n32 (26 * t)) (b2 c) 0 S = some (b2 ((c && aAll (fun i => fitsA A.1 (y.1 i) (x.1 i)) 0 (cloc A.2.2)) && aAll (fun i => fitsA A.1 (y.2.1 i) (x.2.1 i)) 0 y.2.2.1), S) := fun c hc => r_ffL hA hfu ht v vy vx wy.1 wx.1 (cloc A.2.2) 0 fu c hc (by omega) (by omega)
  have hin24 : inb (n32 (26 * t + 24)) 2600 = true := by rw [z_inb (by omega)]; omega
  have hin25 : inb (n32 (26 * t + 25)) 2600 = true := by rw [z_inb (by omega)]; omega
  unfold sp_X12_fitsFrame ffA
  rw [ff_loc hl wy wx, show (26 : Int32) * n32 t = n32 (26 * t) from z_mul 26 t, show n32 (26 * t) + 24 = n32 (26 * t + 24) from z_add _ 24, show n32 (26 * t) + 25 = n32 (26 * t + 25) from z_add _ 25, c24, c25, if_pos hin24, if_pos hin25, z_nat (show 26 * t + 24 < 2 ^ 31 by omega), z_nat (show 26 * t + 25 < 2 ^ 31 by omega), vy.2.2.1, vx.2.2.1, vy.2.2.2, vx.2.2.2, zi_eq (by omega) (by omega)]
  by_cases hh : y.2.2.1 = x.2.2.1
  · rw [if_pos hh, decide_eq_true hh, Bool.true_and]
    have e1 := go true (fun _ => hh)
    have e0 := go false (fun z => by cases z)
    cases y.2.2.2 <;> cases x.2.2.2
    · rw [if_neg (show ¬ b2 false < b2 false by decide)]; exact e1
    · rw [if_neg (show ¬ b2 true < b2 false by decide)]; exact e1
    · rw [if_pos (show b2 false < b2 true by decide)]; exact e0
    · rw [if_neg (show ¬ b2 true < b2 true by decide)]; exact e1
  · rw [if_neg hh, decide_eq_false hh]
    exact go false (fun z => by cases z)
def QK (E : Ev) (m : Nat) (tb ti : Nat → Option Fr) (S : St) (b : Bool) : Prop := VRD E S m tb ∧ VRI E S m ti ∧ S.1 m 38 = 1 ∧ S.1 m 41 = b2 b
theorem vrd_ag (L : LR E m) {S' : St} {fs rs : List Nat} (v : VRD E S m tb) (h : AgL E m fs rs S S') (h0 : rs.all isA10 = true) (h1 : rs.contains 30 = false) (h2 : rs.contains 31 = false) : VRD E S' m tb := by
  have e1 := agl_a L h (j := 30) rfl h0 h1
  have e2 := agl_a L h (j := 31) rfl h0 h2
  refine ⟨fun i hi => by rw [e1]; exact v.1 i hi, fun i x hi hx => ?_⟩
  have w := v.2 i x hi hx
  exact ⟨fun q hq => by rw [e2]; exact w.1 q hq, fun q hq => by rw [e2]; exact w.2.1 q hq, by rw [e2]; exact w.2.2.1, by rw [e2]; exact w.2.2.2⟩
theorem qk_ag (L : LR E m) {S' : St} {fs rs : List Nat} {b : Bool} (q : QK E m tb ti S b) (h : AgL E m fs rs S S') (h0 : rs.all isA10 = true) (h1 : rs.contains 30 = false) (h2 : rs.contains 31 = false) (h3 : rs.contains 28 = false) (h4 : rs.contains 29 = false) (h5 : fs.contains 38 = false) (h6 : fs.contains 41 = false) : QK E m tb ti S' b := ⟨vrd_ag L q.1 h h0 h1 h2, vri_ag L q.2.1 h h0 h3 h4, by rw [agl_f h h5]; exact q.2.2.1, by rw [agl_f h h6]; exact q.2.2.2⟩
theorem rf1_K (L : LR E m) (hA : EI A) (hfu : 200 ≤ fu) (tw : TWX A tb) : RF1 E m fu A (QK E m tb ti) (flK A.1 tb) := by
  intro S b y t aj haj v q h35 vy wy ht
  have hin : inb (n32 t) 100 = true := by rw [z_inb (by omega)]; exact ht
  have bad : ∃ S', ((sp_X12_fail fu E S m 10 (S.1 m 43)).bind fun u => some u) = some S' ∧ AgL E m [35, 36, 41] [28, 29, 42] S S' ∧ S'.1 m 35 = (10 : Int32) ∧ 0 ≤ (10 : Int32) ∧ S'.1 m 36 = (if (10 : Int32) = 0 then S.1 m 36 else S.1 m 43) ∧ QK E m tb ti S' b := by
    rw [rx_fail h35, Option.bind_some]
    have a0 : AgL E m [35, 36] [] S (sF (sF S m 35 10) m 36 (S.1 m 43)) := agl_trans (agl_sF (by decide)) (agl_sF (by decide))
    exact ⟨_, rfl, agl_mono a0 (by decide) (by decide), (up2_n _ _ (fun e => by simp at e)).trans (up2_s _ _), by decide, (up2_s _ _).trans (if_neg (by decide)).symm, qk_ag L q a0 rfl rfl rfl rfl rfl rfl rfl⟩
  generalize hr : flK A.1 tb y t b = r
  unfold sp_X12_flow
  rw [rx_well, Option.bind_some, h35, b2_if]
  dsimp only
  rw [if_pos (show ((0 : Int32) == 0) = true from rfl), q.2.2.1, if_neg (by decide), if_pos hin, z_nat (show t < 2 ^ 31 by omega), q.1.1 t ht, b2_if]
  cases htb : tb t with
  | none =>
    have er : r = (10, b) := by rw [← hr]; unfold flK; rw [htb]
    subst er
    rw [if_neg (show ¬ (none : Option Fr).isSome = true by decide)]
    exact bad
  | some x =>
    rw [show (some x : Option Fr).isSome = true from rfl, if_pos rfl, r_ff hA hfu ht v vy (q.1.2 t x ht htb) wy (tw t x ht htb), Option.bind_some, b2_if]
    dsimp only
    by_cases c : ffA A.1 y x = true
    · have er : r = (0, b) := by rw [← hr]; unfold flK; rw [htb]; exact if_pos c
      subst er
      rw [if_pos c]
      exact ⟨S, rfl, agl_refl, h35, Int32.le_refl _, (if_pos rfl).symm, q⟩
    · have er : r = (10, b) := by rw [← hr]; unfold flK; rw [htb]; exact if_neg c
      subst er
      rw [if_neg c]
      exact bad
theorem rf2_K (L : LR E m) : RF2 E m fu A (QK E m tb ti) nfK := by
  intro S b y t k v q h35 vy wy ht
  rw [q.2.2.1, if_neg (by decide)]
  have a0 : AgL E m [41] [] S (sF S m 41 1) := agl_sF (by decide)
  refine ⟨sF S m 41 1, rfl, agl_mono a0 (by decide) (by decide), by rw [agl_f a0 rfl]; exact h35, Int32.le_refl _, by rw [agl_f a0 rfl]; exact (if_pos rfl).symm, vrd_ag L q.1 a0 rfl rfl rfl, vri_ag L q.2.1 a0 rfl rfl rfl, by rw [agl_f a0 rfl]; exact q.2.2.1, up2_s _ _⟩
theorem rf3_K (L : LR E m) : RF3 E m (QK E m tb ti) := fun S S' b q a => qk_ag L q a rfl rfl rfl rfl rfl rfl rfl
/-- a declared frame is taken -/
theorem r_entL (L : LR E m) {i : Nat} (hi : i < 100) : ∀ (j q F : Nat) (S : St), q + j = 26 → j + 1 ≤ F → S.2.1 (E.2 m 30) i = 1 → (∀ z, z < q → S.2.1 (E.2 m 39) z = S.2.1 (E.2 m 31) (26 * i + z)) → ∃ S', lp_X12_enter_54 fu E m F (n32 i) (n32 q) S = some S' ∧ (∀ z, z < 26 → S'.2.1 (E.2 m 39) z = S.2.1 (E.2 m 31) (26 * i + z)) ∧ AgL E m [] [39] S S' := by
  have n1 : E.2 m 31 ≠ E.2 m 39 := lr_ne L rfl rfl (by decide)
  have n2 : E.2 m 30 ≠ E.2 m 39 := lr_ne L rfl rfl (by decide)
  have hin : inb (n32 i) 100 = true := by rw [z_inb (by omega)]; exact hi
  intro j
  induction j with
  | zero =>
    intro q F S hq hF h30 h
    obtain ⟨F, rfl⟩ : ∃ z, F = z + 1 := ⟨F - 1, by omega⟩
    show ∃ S', bd_X12_enter_54 fu E m _ (n32 i) (n32 q) S = _ ∧ _
    unfold bd_X12_enter_54
    rw [show (26 : Int32) = n32 26 from rfl, zi_le (by decide) (by omega), if_pos (by omega)]
    exact ⟨S, rfl, fun z hz => h z (by omega), agl_refl⟩
  | succ j ih =>
    intro q F S hq hF h30 h
    obtain ⟨F, rfl⟩ : ∃ z, F = z + 1 := ⟨F - 1, by omega⟩
    show ∃ S', bd_X12_enter_54 fu E m (lp_X12_enter_54 fu E m F) (n32 i) (n32 q) S = _ ∧ _
    unfold bd_X12_enter_54 bnd
    dsimp only
    rw [show (26 : Int32) = n32 26 from rfl, zi_le (by decide) (by omega), if_neg (by omega), if_pos hin, z_nat (show i < 2 ^ 31 by omega), h30, if_neg (by decide), show n32 26 * n32 i = n32 (26 * i) from z_mul 26 i, z_add, if_pos (by rw [z_inb (by omega)]; omega), if_pos (by rw [z_inb (by omega)]; omega), z_nat (show 26 * i + q < 2 ^ 31 by omega), z_nat (show q < 2 ^ 31 by omega), show n32 q + 1 = n32 (q + 1) from z_add q 1]
    have f31 : ∀ z, (sG S (E.2 m 39) q (S.2.1 (E.2 m 31) (26 * i + q))).2.1 (E.2 m 31) z = S.2.1 (E.2 m 31) z := fun z => up2_n _ _ (fun e => n1 e.1)
    obtain ⟨S', e, r, a⟩ := ih (q + 1) F (sG S (E.2 m 39) q (S.2.1 (E.2 m 31) (26 * i + q))) (by omega) (by omega) ((up2_n _ _ (fun e => n2 e.1)).trans h30) (fun z hz => by
      rw [f31]
      show up2 S.2.1 (E.2 m 39) q _ (E.2 m 39) z = _
      by_cases c : z = q
      · rw [c, up2_s]
      · rw [up2_n _ _ (fun u => c u.2)]; exact h z (by omega))
    exact ⟨S', e, fun z hz => (r z hz).trans (f31 _), agl_trans (agl_sG (by decide)) a⟩
theorem r_entN {i : Nat} (hfu : 200 ≤ fu) (hi : i < 100) (h30 : S.2.1 (E.2 m 30) i = 0) : lp_X12_enter_54 fu E m fu (n32 i) 0 S = some S := by
  have hin : inb (n32 i) 100 = true := by rw [z_inb (by omega)]; exact hi
  obtain ⟨F, rfl⟩ : ∃ z, fu = z + 1 := ⟨fu - 1, by omega⟩
  show bd_X12_enter_54 (F + 1) E m _ (n32 i) 0 S = some S
  unfold bd_X12_enter_54
  rw [if_neg (show ¬ (26 : Int32) ≤ 0 by decide), if_pos hin, z_nat (show i < 2 ^ 31 by omega), h30, if_pos rfl]
theorem r_enter (L : LR E m) (hA : EI A) (hfu : 200 ≤ fu) (tw : TWX A tb) {i : Nat} {f : Fr} {b : Bool} (hi : i < 100) (v : VRe E S m A) (q : QK E m tb ti S b) (h35 : S.1 m 35 = 0) (hf : b = true → VN E S m f ∧ WX A f) : ∃ S', sp_X12_enter fu E S m (n32 i) = some S' ∧ AgL E m [35, 36] [39] S S' ∧ match aEnt A.1 tb i f b with
    | none => S'.1 m 35 = 10 ∧ S'.1 m 36 = n32 i
    | some g => VN E S' m g ∧ S'.1 m 35 = 0 ∧ S'.1 m 36 = S.1 m 36 := by
  have hin : inb (n32 i) 100 = true := by rw [z_inb (by omega)]; exact hi
  have a0 : AgL E m [35, 36] [] S (sF (sF S m 35 10) m 36 (n32 i)) := agl_trans (agl_sF (by decide)) (agl_sF (by decide))
  have e35 : (sF (sF S m 35 10) m 36 (n32 i)).1 m 35 = 10 := (up2_n _ _ (fun e => by simp at e)).trans (up2_s _ _)
  have e36 : (sF (sF S m 35 10) m 36 (n32 i)).1 m 36 = n32 i := up2_s _ _
  have h30 := q.1.1 i hi
  unfold sp_X12_enter aEnt
  rw [if_pos hin, z_nat (show i < 2 ^ 31 by omega), h30, q.2.2.2, b2_if, b2_if, b2_if]
  cases htb : tb i with
  | none =>
    rw [htb] at h30
    rw [if_neg (show ¬ (none : Option Fr).isSome = true by decide)]
    cases b with
    | true =>
      rw [if_pos rfl, r_entN hfu hi h30]
      exact ⟨S, rfl, agl_refl, (hf rfl).1, h35, rfl⟩
    | false =>
      rw [if_neg (by decide), rx_fail h35, Option.bind_some, r_entN (S := sF (sF S m 35 10) m 36 (n32 i)) hfu hi h30]
      exact ⟨_, rfl, agl_mono a0 (by decide) (by decide), e35, e36⟩
  | some x =>
    rw [htb] at h30
    have vx := q.1.2 i x hi htb
    have wx := tw i x hi htb
    have h12 := wx.1.2.2
    rw [show (some x : Option Fr).isSome = true from rfl, if_pos rfl]
    have cpy : ∀ S0, AgL E m [35, 36] [] S S0 → ∃ S', lp_X12_enter_54 fu E m fu (n32 i) 0 S0 = some S' ∧ AgL E m [35, 36] [39] S S' ∧ VN E S' m x ∧ S'.1 m 35 = S0.1 m 35 ∧ S'.1 m 36 = S0.1 m 36 := by
      intro S0 a
      have e31 := agl_a L a (j := 31) rfl rfl rfl
      have e30 := agl_a L a (j := 30) rfl rfl rfl
      obtain ⟨S', e, r, a1⟩ := r_entL (fu := fu) L hi 26 0 fu S0 rfl (by omega) (by rw [e30]; exact h30) (fun z hz => absurd hz (Nat.not_lt_zero z))
      rw [e31] at r
      exact ⟨S', e, agl_trans (agl_mono a (by decide) (by decide)) (agl_mono a1 (fun _ z => absurd z List.not_mem_nil) (by decide)), ⟨fun z hz => (r z (by omega)).trans (vx.1 z hz), fun z hz => (r (12 + z) (by omega)).trans (vx.2.1 z hz), (r 24 (by decide)).trans vx.2.2.1, (r 25 (by decide)).trans vx.2.2.2⟩, agl_f a1 rfl, agl_f a1 rfl⟩
    cases b with
    | false =>
      rw [if_neg (by decide)]
      dsimp only
      rw [if_pos (Or.inl rfl)]
      obtain ⟨S', e, a, vn, k1, k2⟩ := cpy S agl_refl
      exact ⟨S', e, a, vn, k1.trans h35, k2⟩
    | true =>
      rw [if_pos rfl, r_ff (aj := 39) hA hfu hi v (hf rfl).1 vx (hf rfl).2 wx, Option.bind_some, b2_if]
      dsimp only
      by_cases c : ffA A.1 f x = true
      · rw [if_pos c, if_pos (Or.inr c)]
        obtain ⟨S', e, a, vn, k1, k2⟩ := cpy S agl_refl
        exact ⟨S', e, a, vn, k1.trans h35, k2⟩
      · rw [if_neg c, if_neg (fun z => z.elim (by decide) c), rx_fail h35, Option.bind_some]
        obtain ⟨S', e, a, vn, k1, k2⟩ := cpy _ a0
        exact ⟨S', e, a, k1.trans e35, k2.trans e36⟩
end RCK
