def WX (A : Enw) (f : Fr) : Prop := WFr A.1 f ∧ PrL f.1 ∧ PrS f.2.1 f.2.2.1 ∧ f.2.2.1 ≤ cmost A.2.2 ∧ ∀ j, cloc A.2.2 ≤ j → j < 12 → f.1 j = -2
def Clo (A : Enw) (P : Ms → Prop) : Prop :=
  (∀ c q y, q ≠ 0 → P y → P (aReq c q y)) ∧
  (∀ n y, isT A.1 n = true → P y → P (aPopT A.1 (n32 n) y)) ∧
  (∀ c y, c 8 = false → c (-3) = false → P y → P (aPopC c y).2) ∧
  (∀ v y, (y.2 = 0 → svA A.1 v ∧ v ≠ 8 ∧ v ≠ -3) → P y → P (aPush (cmost A.2.2) v y)) ∧
  (∀ v y, svA A.1 v → v ≠ -3 → P y → P (aPushT (cmost A.2.2) v y)) ∧
  (∀ n v y, n < cloc A.2.2 → (y.2 = 0 → svA A.1 v ∧ v ≠ 8 ∧ v ≠ -3) → P y → P (aStore n v y)) ∧
  (∀ n y, n + 1 < cloc A.2.2 → P y → P (aStore (n + 1) (-3) (aStore n 8 y))) ∧
  (∀ op y, P y → P (aPair (cmost A.2.2) op y)) ∧
  (∀ w v b y, y.2 = 0 → w ≠ 8 → w ≠ -3 → w ≠ -2 → svA A.1 v → v ≠ 8 → v ≠ -3 → P y → P ((rep w v y.1.1, rep w v y.1.2.1, y.1.2.2.1, b), 0)) ∧
  (∀ w y, w ≠ 8 → w ≠ -3 → w ≠ -2 → P y → P ((rep w (-2) y.1.1, y.1.2), y.2))
theorem aReq_c {c : Bool} {q : Int32} {y : Ms} (hq : q ≠ 0) (h : (aReq c q y).2 = 0) : c = true := by
  cases c with
  | true => rfl
  | false =>
    have h0 := z_req hq h
    rw [aReq_f h0] at h
    exact absurd h hq
theorem aPopC_ok {c : Int32 → Bool} {y : Ms} (h : (aPopC c y).2.2 = 0) : c (aPopC c y).1 = true := aReq_c (by decide) h
section CL
variable {A : Enw} {P : Ms → Prop} {f : Fr} {y : Ms}
theorem any_83 : anyR 8 = false ∧ anyR (-3) = false := by decide
theorem rfV_83 : rfV 8 = false ∧ rfV (-3) = false := by decide
theorem who_83 : whole 8 = false ∧ whole (-3) = false := by decide
theorem row_83 : rowV 8 = false ∧ rowV (-3) = false := by decide
theorem c83 {c : Int32 → Bool} (h : c 8 = false ∧ c (-3) = false) {v : Int32} (hv : c v = true) : v ≠ 8 ∧ v ≠ -3 := by
  constructor
  · intro e; rw [e, h.1] at hv; cases hv
  · intro e; rw [e, h.2] at hv; cases hv
theorem fits_83 {d : Dcl} {n : Nat} (hn : n < 2 ^ 31) (h8 : n ≠ 8) : fitsA d 8 (n32 n) = false ∧ fitsA d (-3) (n32 n) = false := by
  unfold fitsA
  have e2 : (n32 n == -2) = false := beq_eq_false_iff_ne.mpr (by rw [ne_eq, z_ne2 hn]; exact id)
  have e8 : ((8 : Int32) == n32 n) = false := beq_eq_false_iff_ne.mpr (by
    rw [show (8 : Int32) = n32 8 from rfl, ne_eq, z_eq (by decide) hn]
    exact fun e => h8 e.symm)
  have e3 : ((-3 : Int32) == n32 n) = false := beq_eq_false_iff_ne.mpr (fun e => by
    have := z_ne3 hn
    rw [← e] at this
    exact this.mp rfl)
  rw [e2, e8, e3]
  constructor
  · show (false || false || (rfT (n32 n) && (false || (rfT 8 && _)))) = false
    rw [show rfT 8 = false from rfl, Bool.false_and, Bool.false_or, Bool.and_false]; rfl
  · show (false || false || (rfT (n32 n) && (false || (rfT (-3) && _)))) = false
    rw [show rfT (-3) = false from rfl, Bool.false_and, Bool.false_or, Bool.and_false]; rfl
theorem n32_83 {n : Nat} (hn : n < 2 ^ 31) (h8 : n ≠ 8) : n32 n ≠ 8 ∧ n32 n ≠ -3 := ⟨by rw [show (8 : Int32) = n32 8 from rfl, ne_eq, z_eq hn (by decide)]; exact h8, by rw [ne_eq, z_ne3 hn]; exact id⟩
theorem exec_ind {i : Nat} (hA : EI A) (hs : cst A.2.2 = true) (hi : i < cn A.2.2) (hx : okX A (cop A.2.2 i) (cx A.2.2 i)) (hf : WFr A.1 f) (hC : Clo A P) (h0 : P (f, 0)) : P (aExec A i f) := by
  obtain ⟨cR, cT, cC, cP, cPT, cS, cS2, cPa, cI, cN⟩ := hC
  have hd := hA.1
  have h20 := hd.2.1
  have hop := hA.2.2.2.2.2.2.2.1 i hi
  have h100 := hA.2.2.2.2.2.1
  have hl := hA.2.2.2.2.1
  have t0 := isT0 hd
  have t1 := isT1 hd
  have t8 := isT8 hd
  have s0 : ∀ y : Ms, y.2 = 0 → svA A.1 0 ∧ (0 : Int32) ≠ 8 ∧ (0 : Int32) ≠ -3 := fun _ _ => ⟨sv_0 hd, by decide, by decide⟩
  have s8 := sv_8 hd
  have cT0 : ∀ y, P y → P (aPopT A.1 0 y) := fun y => cT 0 y t0
  have cT1 : ∀ y, P y → P (aPopT A.1 1 y) := fun y => cT 1 y t1
  have cT8 : ∀ y, P y → P (aPopT A.1 8 y) := fun y => cT 8 y t8
  unfold aExec
  dsimp only
  generalize cop A.2.2 i = op at hop hx
  generalize cx A.2.2 i = xx at hx
  by_cases k1 : op ≤ 9 ∨ op = 21
  · rw [if_pos k1]
    unfold aLocal
    dsimp only
    by_cases h : op = 1
    · rw [if_pos h]; exact cP _ _ (s0 _) h0
    rw [if_neg h]
    by_cases h : op = 2
    · rw [if_pos h]; exact cPT _ _ s8 (by decide) h0
    rw [if_neg h]
    by_cases h : op = 3
    · rw [if_pos h]; exact cP _ _ (fun _ => ⟨sv_null, by decide, by decide⟩) h0
    rw [if_neg h]
    by_cases h : op = 4
    · rw [if_pos h]; exact cP _ _ (s0 _) (cR _ _ _ (by decide) h0)
    rw [if_neg h]
    by_cases h : op = 5
    · rw [if_pos h]; exact cPT _ _ s8 (by decide) (cR _ _ _ (by decide) h0)
    rw [if_neg h]
    by_cases h : op = 6
    · rw [if_pos h]
      obtain ⟨n, rfl, hn⟩ := hx.1 (Or.inr (Or.inl h))
      rw [z_nat (by omega)]
      exact cP _ _ (fun z => ⟨hf.1 n (by omega), c83 any_83 (aReq_c (by decide) z)⟩) (cR _ _ _ (by decide) h0)
    rw [if_neg h]
    by_cases h : op = 7
    · rw [if_pos h]
      obtain ⟨n, rfl, hn⟩ := hx.1 (Or.inr (Or.inr (Or.inl h)))
      rw [z_nat (by omega)]
      exact cS _ _ _ hn (s0 _) (cT0 _ h0)
    rw [if_neg h]
    by_cases h : op = 8
    · rw [if_pos h]
      obtain ⟨n, rfl, hn⟩ := hx.2.1 (Or.inr h)
      rw [z_nat (by omega)]
      exact cS2 _ _ hn (cT8 _ h0)
    rw [if_neg h]
    by_cases h : op = 9
    · rw [if_pos h]
      obtain ⟨n, rfl, hn⟩ := hx.1 (Or.inr (Or.inr (Or.inr (Or.inl h))))
      rw [z_nat (by omega)]
      exact cS _ _ _ hn (fun z => ⟨(wf_popC (y := (f, 0)) (c := anyR) hf).2, c83 any_83 (aPopC_ok z)⟩) (cC _ _ any_83.1 any_83.2 h0)
    rw [if_neg h]
    by_cases h : op = 21
    · rw [if_pos h]; exact cR _ _ _ (by decide) h0
    rw [if_neg h]; exact h0
  rw [if_neg k1]
  by_cases k2 : op ≤ 15
  · rw [if_pos k2]
    unfold aMove
    dsimp only
    by_cases h : op = 11 ∨ op = 14
    · rw [if_pos h]; exact cPa _ _ h0
    rw [if_neg h]
    have w1 := cC whole (f, 0) who_83.1 who_83.2 h0
    have e1 : (aPopC whole ((f, 0) : Ms)).2.2 = 0 → svA A.1 (aPopC whole ((f, 0) : Ms)).1 ∧ (aPopC whole ((f, 0) : Ms)).1 ≠ 8 ∧ (aPopC whole ((f, 0) : Ms)).1 ≠ -3 := fun z => ⟨(wf_popC (y := (f, 0)) (c := whole) hf).2, c83 who_83 (aPopC_ok z)⟩
    have wf1 := (wf_popC (d := A.1) (y := (f, 0)) (c := whole) hf).1
    have w2 := cC whole _ who_83.1 who_83.2 w1
    have e2 : (aPopC whole (aPopC whole ((f, 0) : Ms)).2).2.2 = 0 → svA A.1 (aPopC whole (aPopC whole ((f, 0) : Ms)).2).1 ∧ (aPopC whole (aPopC whole ((f, 0) : Ms)).2).1 ≠ 8 ∧ (aPopC whole (aPopC whole ((f, 0) : Ms)).2).1 ≠ -3 := fun z => ⟨(wf_popC (c := whole) wf1).2, c83 who_83 (aPopC_ok z)⟩
    by_cases h : op = 12
    · rw [if_pos h]
      exact cP _ _ (fun z => e1 (z_push z)) (cP _ _ e1 w1)
    rw [if_neg h]
    by_cases h : op = 13
    · rw [if_pos h]
      exact cP _ _ (fun z => e1 (z_popC (z_push (z_push z)))) (cP _ _ (fun z => e2 (z_push z)) (cP _ _ (fun z => e1 (z_popC z)) w2))
    rw [if_neg h]
    by_cases h : op = 15
    · rw [if_pos h]
      exact cP _ _ (fun z => e2 (z_push z)) (cP _ _ (fun z => e1 (z_popC z)) w2)
    rw [if_neg h]; exact w1
  rw [if_neg k2]
  by_cases k3 : op ≤ 26
  · rw [if_pos k3]
    unfold aNum
    dsimp only
    by_cases h : op = 16
    · rw [if_pos h]; exact cP _ _ (s0 _) (cT0 _ (cT0 _ h0))
    rw [if_neg h]
    by_cases h : op = 17
    · rw [if_pos h]; exact cPT _ _ s8 (by decide) (cT8 _ (cT8 _ h0))
    rw [if_neg h]
    by_cases h : op = 18
    · rw [if_pos h]; exact cPT _ _ s8 (by decide) (cT0 _ h0)
    rw [if_neg h]
    by_cases h : op = 19
    · rw [if_pos h]; exact cP _ _ (s0 _) (cT8 _ h0)
    rw [if_neg h]
    by_cases h : op = 20
    · rw [if_pos h]; exact cP _ _ (s0 _) (cT8 _ (cT8 _ h0))
    rw [if_neg h]
    by_cases h : op = 23
    · rw [if_pos h]; exact cT0 _ h0
    rw [if_neg h]
    by_cases h : op = 24
    · rw [if_pos h]; exact cT0 _ (cT0 _ h0)
    rw [if_neg h]
    by_cases h : op = 25
    · rw [if_pos h]; exact cC _ _ any_83.1 any_83.2 h0
    rw [if_neg h]
    by_cases h : op = 26
    · rw [if_pos h]; exact cC _ _ any_83.1 any_83.2 (cC _ _ any_83.1 any_83.2 h0)
    rw [if_neg h]; exact h0
  rw [if_neg k3]
  by_cases k4 : op ≤ 31
  · rw [if_pos k4]
    unfold aEnd
    dsimp only
    by_cases h : op = 27
    · rw [if_pos h]; exact cR _ _ _ (by decide) (cT0 _ h0)
    rw [if_neg h]
    by_cases h : op = 28
    · rw [if_pos h]; exact cR _ _ _ (by decide) (cT8 _ h0)
    rw [if_neg h]
    by_cases h : op = 29
    · rw [if_pos h]; exact cR _ _ _ (by decide) (cC _ _ rfV_83.1 rfV_83.2 h0)
    rw [if_neg h]
    by_cases h : op = 30
    · rw [if_pos h]; exact cR _ _ _ (by decide) h0
    rw [if_neg h]; exact cC _ _ rfV_83.1 rfV_83.2 h0
  rw [if_neg k4]
  by_cases k5 : op = 34
  · rw [if_pos k5]
    unfold aNew
    dsimp only
    have h10 : (-10 : Int32).toInt = -10 := by decide
    have e1 : (-10 - n32 i : Int32).toInt = -10 - i := by
      rw [Int32.toInt_sub, z_int (by omega), h10]
      show (-10 - (i : Int)).bmod (2 ^ 32) = _
      rw [Int.bmod_eq_of_le (by omega) (by omega)]
    have ne : ∀ q : Int32, -10 < q.toInt → (-10 - n32 i : Int32) ≠ q := by
      intro q hq e
      rw [← e, e1] at hq
      omega
    have n8 := ne 8 (by decide)
    have n3 := ne (-3) (by decide)
    have n2 := ne (-2) (by decide)
    have sw : svA A.1 (-10 - n32 i) := Or.inr (Or.inr (by rw [e1]; omega))
    exact cP _ _ (fun _ => ⟨sw, n8, n3⟩) (cN _ _ n8 n3 n2 (cR _ _ _ (by decide) h0))
  rw [if_neg k5]
  by_cases k6 : 35 ≤ op ∧ op ≤ 37
  · rw [if_pos k6]
    obtain ⟨n, rfl, hn, -⟩ := hx.2.2.2.2.2.1 (by omega)
    have h30 := hA.2.1.2.1
    rw [z_nat (by omega)]
    have mn := hA.2.1.2.2.2 n hn
    have hme := hA.2.2.1 hs
    have mo := hA.2.1.2.2.2 _ hme
    have pars : ∀ k, k ≤ mpcn A.2.1 n → ∀ y, P y → P (aPars A.1 (mpty A.2.1 n) k y) := by
      intro k
      induction k with
      | zero => intro _ y hy; exact hy
      | succ k ih => intro hk y hy; exact ih (by omega) _ (cT _ _ (mn.2.2.2.2.2.2 k (by omega)) hy)
    unfold aCall
    dsimp only
    have hz := pars _ (Nat.le_refl _) _ h0
    generalize aPars A.1 (mpty A.2.1 n) (mpcn A.2.1 n) ((f, 0) : Ms) = z at hz ⊢
    by_cases h : op = 35
    · rw [if_pos h]
      unfold aInit
      dsimp only
      have hw := cC (fun o => if o = -4 then mown A.2.1 n == mown A.2.1 (cme A.2.2) || (decide (3 ≤ mown A.2.1 (cme A.2.2)) && mown A.2.1 n == A.1.2.1 (mown A.2.1 (cme A.2.2))) else decide (o ≤ -10) && isCre A.2.2 (-10 - o) (mown A.2.1 n)) z (by
        rw [if_neg (by decide), show decide ((8 : Int32) ≤ -10) = false from by decide, Bool.false_and]) (by
        rw [if_neg (by decide), show decide ((-3 : Int32) ≤ -10) = false from by decide, Bool.false_and]) hz
      have hok := aPopC_ok (c := fun o => if o = -4 then mown A.2.1 n == mown A.2.1 (cme A.2.2) || (decide (3 ≤ mown A.2.1 (cme A.2.2)) && mown A.2.1 n == A.1.2.1 (mown A.2.1 (cme A.2.2))) else decide (o ≤ -10) && isCre A.2.2 (-10 - o) (mown A.2.1 n)) (y := z)
      unfold aPopC at hw hok
      dsimp only at hw hok
      generalize aReq (if (aPop z).1 = -4 then mown A.2.1 n == mown A.2.1 (cme A.2.2) || (decide (3 ≤ mown A.2.1 (cme A.2.2)) && mown A.2.1 n == A.1.2.1 (mown A.2.1 (cme A.2.2))) else decide ((aPop z).1 ≤ -10) && isCre A.2.2 (-10 - (aPop z).1) (mown A.2.1 n)) 4 (aPop z).2 = w at hw hok ⊢
      generalize (aPop z).1 = o at hok ⊢
      by_cases hw0 : w.2 = 0
      · rw [if_pos hw0]
        have ho := hok hw0
        have hol : o.toInt ≤ -4 := by
          by_cases h4 : o = -4
          · rw [h4]; decide
          · rw [if_neg h4, Bool.and_eq_true, decide_eq_true_eq, z_l32] at ho
            have : (-10 : Int32).toInt = -10 := by decide
            omega
        have ne : ∀ q : Int32, -4 < q.toInt → o ≠ q := by
          intro q hq e
          rw [← e] at hq
          omega
        have own : ∀ b, 2 ≤ b → b < A.1.1 → svA A.1 (n32 (8 * b)) ∧ n32 (8 * b) ≠ 8 ∧ n32 (8 * b) ≠ -3 := fun b b2 b3 => ⟨sv_n (isTb b3), n32_83 (by omega) (by omega)⟩
        have ow : svA A.1 (n32 (8 * if o = -4 then mown A.2.1 (cme A.2.2) else mown A.2.1 n)) ∧ n32 (8 * if o = -4 then mown A.2.1 (cme A.2.2) else mown A.2.1 n) ≠ 8 ∧ n32 (8 * if o = -4 then mown A.2.1 (cme A.2.2) else mown A.2.1 n) ≠ -3 := by
          split
          · exact own _ mo.1 mo.2.1
          · exact own _ mn.1 mn.2.1
        exact cI _ _ _ _ hw0 (ne 8 (by decide)) (ne (-3) (by decide)) (ne (-2) (by decide)) ow.1 ow.2.1 ow.2.2 hw
      · rw [if_neg hw0]; exact hw
    rw [if_neg h]
    have hw : P (if op = 36 then aPopT A.1 (n32 (8 * mown A.2.1 n)) z else z) := by
      split
      · exact cT _ _ (isTb mn.2.1) hz
      · exact hz
    by_cases hr : mres A.2.1 n = -1
    · rw [if_pos hr]; exact hw
    · rw [if_neg hr]
      refine cPT _ _ (mres_ne mn.2.2.2.1 hr) ?_ hw
      rcases mn.2.2.2.1 with h | ⟨q, e, hq⟩
      · exact absurd h hr
      · have := isT_lt hd hq
        rw [e, ne_eq, z_ne3 (by omega)]; exact id
  rw [if_neg k6]
  by_cases k7 : 38 ≤ op ∧ op ≤ 43
  · rw [if_pos k7]
    unfold aArr
    dsimp only
    by_cases h : op = 38
    · rw [if_pos h]
      obtain ⟨n, rfl, hn, hn4⟩ := hx.2.2.2.2.2.2.1 h
      have h160 := isT_lt hd hn
      have hn' := isT_iff.mp hn
      rw [show n32 n + 1 = n32 (n + 1) from z_add n 1]
      exact cP _ _ (fun _ => ⟨sv_n (isT_iff.mpr (by omega)), n32_83 (by omega) (by omega)⟩) (cT0 _ h0)
    rw [if_neg h]
    by_cases h : op = 39
    · rw [if_pos h]; exact cP _ _ (s0 _) (cT1 _ (cT0 _ h0))
    rw [if_neg h]
    by_cases h : op = 40
    · rw [if_pos h]; exact cT1 _ (cT0 _ (cT0 _ h0))
    rw [if_neg h]
    by_cases h : op = 41
    · rw [if_pos h]
      refine cP _ _ (fun z => ?_) (cC _ _ row_83.1 row_83.2 (cT0 _ h0))
      have hrow := aPopC_ok z
      have hsv := (wf_popC (d := A.1) (c := rowV) (wf_popT (ty := 0) (y := (f, 0)) hf)).2
      generalize (aPopC rowV (aPopT A.1 0 ((f, 0) : Ms))).1 = r at hrow hsv ⊢
      by_cases c : r = -1
      · rw [if_pos c]; exact ⟨sv_null, by decide, by decide⟩
      · rw [if_neg c]
        unfold rowV at hrow
        rw [show (r == -1) = false from beq_eq_false_iff_ne.mpr c, Bool.false_or, Bool.and_eq_true, decide_eq_true_eq, decide_eq_true_eq] at hrow
        have e0 : (0 : Int32).toInt = 0 := by decide
        rcases hsv with ⟨n, e, hn⟩ | hr | hr
        · have h160 := isT_lt hd hn
          rw [e] at hrow ⊢
          rw [z_nat (by omega)] at hrow
          have := lev_le n
          have hlev := hrow.2
          have h9 : n - 1 ≠ 8 := by
            intro q
            have : n = 9 := by omega
            rw [this] at hlev
            exact absurd hlev (by decide)
          rw [show n32 n - 1 = n32 (n - 1) from z_sub (b := 1) (by omega)]
          exact ⟨sv_n (isT_sub (d := A.1) hn (by omega)), n32_83 (by omega) h9⟩
        · have := hrow.1
          rw [z_l32] at this
          omega
        · have := hrow.1
          rw [z_l32] at this
          omega
    rw [if_neg h]
    by_cases h : op = 42
    · rw [if_pos h]; exact cC _ _ row_83.1 row_83.2 (cT0 _ (cC _ _ rfV_83.1 rfV_83.2 h0))
    rw [if_neg h]
    exact cP _ _ (s0 _) (cC _ _ (by decide) (by decide) h0)
  rw [if_neg k7]
  unfold aObj
  dsimp only
  by_cases h : op = 32
  · rw [if_pos h]
    obtain ⟨n, rfl, hn⟩ := hx.2.2.2.1 (Or.inl h)
    have hf30 := hA.2.1.1
    have fo := hA.2.1.2.2.1 n hn
    rw [z_nat (by omega)]
    exact cPT _ _ (sv_n fo.2) (by have := isT_lt hd fo.2; rw [ne_eq, z_ne3 (by omega)]; exact id) (cT _ _ (isTb (cls_lt fo.1).2) h0)
  rw [if_neg h]
  by_cases h : op = 33
  · rw [if_pos h]
    obtain ⟨n, rfl, hn⟩ := hx.2.2.2.1 (Or.inr h)
    have hf30 := hA.2.1.1
    have fo := hA.2.1.2.2.1 n hn
    have hb := cls_lt fo.1
    rw [z_nat (by omega)]
    have f83 := fits_83 (d := A.1) (n := 8 * fown A.2.1 n) (by omega) (by omega)
    refine cC (fun o => (o == -4 && fown A.2.1 n == mown A.2.1 (cme A.2.2)) || fitsA A.1 o (n32 (8 * fown A.2.1 n))) _ ?_ ?_ (cT _ _ fo.2 h0)
    · rw [f83.1]; rfl
    · rw [f83.2]; rfl
  rw [if_neg h]
  by_cases h : op = 44
  · rw [if_pos h]
    obtain ⟨n, rfl, hn, hr⟩ := hx.2.2.2.2.2.2.2 (Or.inl h)
    have h160 := isT_lt hd hn
    refine cP _ _ (fun _ => ⟨sv_n hn, n32_83 (by omega) ?_⟩) (cC _ _ rfV_83.1 rfV_83.2 h0)
    intro e
    rw [e] at hr
    exact absurd hr (by decide)
  rw [if_neg h]
  exact cP _ _ (s0 _) (cC _ _ rfV_83.1 rfV_83.2 h0)
end CL
