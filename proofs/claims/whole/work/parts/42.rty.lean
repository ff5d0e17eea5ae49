/-! the reference's types: the same answers -/
def VRt (E : Ev) (S : St) (m : Nat) (d : Dcl) : Prop := S.1 m 1 = n32 d.1 ∧ (∀ b, 3 ≤ b → b < d.1 → S.2.1 (E.2 m 2) b = n32 (d.2.1 b)) ∧ ∀ b, b < d.1 → S.2.1 (E.2 m 3) b = b2 (d.2.2 b)
section RTY
variable {E : Ev} {S : St} {m fu : Nat} {d : Dcl}
theorem r_cls (hd : DI d) (v : VRt E S m d) (x : Int32) : sp_X12_isClass fu E S m x = some (b2 (decide (0 ≤ x) && cls d x.toNatClampNeg), S) := by
  have h20 := hd.2.1
  rcases z_sgn x with h | ⟨n, hn, rfl⟩
  · have h0 : decide (0 ≤ x) = false := by
      rw [decide_eq_false_iff_not, z_l32]
      rw [z_i32] at h
      omega
    have h2 : x < 2 := by
      rw [z_i32] at h ⊢
      have e0 : (0 : Int32).toInt = 0 := by decide
      have e2 : (2 : Int32).toInt = 2 := by decide
      omega
    unfold sp_X12_isClass
    rw [if_pos h2, h0]; rfl
  · have h0 : decide (0 ≤ n32 n) = true := by
      rw [decide_eq_true_eq, show (0 : Int32) = n32 0 from rfl, z_le (by decide) hn]
      exact Nat.zero_le _
    rw [h0, z_nat hn, Bool.true_and]
    unfold sp_X12_isClass cls
    rw [show (2 : Int32) = n32 2 from rfl, zi_lt hn (by decide), v.1, zi_le (by omega) hn]
    by_cases h1 : n < 2
    · rw [if_pos h1, show decide (2 ≤ n) = false from decide_eq_false (by omega)]; rfl
    · rw [if_neg h1, show decide (2 ≤ n) = true from decide_eq_true (by omega)]
      by_cases h2 : d.1 ≤ n
      · rw [if_pos h2, show decide (n < d.1) = false from decide_eq_false (by omega)]; rfl
      · have h3 : n < d.1 := by omega
        rw [if_neg h2, show decide (n < d.1) = true from decide_eq_true h3, if_pos (by rw [z_inb hn]; omega), z_nat hn, v.2.2 n h3, bi_0]
        cases hh : d.2.2 n <;> simp [b2]
theorem r_typ (hd : DI d) (v : VRt E S m d) (x : Int32) : sp_X12_isType fu E S m x = some (b2 (decide (0 ≤ x) && isT d x.toNatClampNeg), S) := by
  have h20 := hd.2.1
  rcases z_sgn x with h | ⟨n, hn, rfl⟩
  · have h0 : decide (0 ≤ x) = false := by
      rw [decide_eq_false_iff_not, z_l32]
      rw [z_i32] at h
      omega
    unfold sp_X12_isType
    rw [if_pos h, h0]; rfl
  · have h0 : decide (0 ≤ n32 n) = true := by
      rw [decide_eq_true_eq, show (0 : Int32) = n32 0 from rfl, z_le (by decide) hn]
      exact Nat.zero_le _
    rw [h0, z_nat hn, Bool.true_and]
    unfold sp_X12_isType isT
    rw [z_mod hn, z_div hn, v.1, zi_nlt hn, zi_le (by omega) (by omega), show (4 : Int32) = n32 4 from rfl, zi_lt (by decide) (by omega)]
    by_cases h1 : d.1 ≤ n / 8
    · rw [if_pos h1, show decide (n / 8 < d.1) = false from decide_eq_false (by omega)]; rfl
    · rw [if_neg h1, show decide (n / 8 < d.1) = true from decide_eq_true (by omega)]
      by_cases h2 : 4 < n % 8
      · rw [if_pos h2, show decide (n % 8 ≤ 4) = false from decide_eq_false (by omega)]; rfl
      · rw [if_neg h2, show decide (n % 8 ≤ 4) = true from decide_eq_true (by omega)]; rfl
theorem n32_ge {n : Nat} (hn : n < 2 ^ 31) : decide (0 ≤ n32 n) = true := by
  rw [decide_eq_true_eq, show (0 : Int32) = n32 0 from rfl, z_le (by decide) hn]
  exact Nat.zero_le _
theorem r_rfN (hd : DI d) (v : VRt E S m d) {n : Nat} (hn : n < 2 ^ 31) : sp_X12_isReferenceType fu E S m (n32 n) = some (b2 (isT d n && rfN n), S) := by
  unfold sp_X12_isReferenceType
  rw [r_typ hd v, n32_ge hn, z_nat hn, Bool.true_and, Option.bind_some, b2_if, show (0 : Int32) = n32 0 from rfl, show (8 : Int32) = n32 8 from rfl, zi_eq hn (by decide), zi_eq hn (by decide)]
  cases isT d n with
  | false => rfl
  | true =>
    rw [if_pos rfl, Bool.true_and]
    unfold rfN
    by_cases h1 : n = 0
    · rw [if_pos h1, h1]; rfl
    · rw [if_neg h1]
      by_cases h2 : n = 8
      · rw [if_pos h2, h2]; rfl
      · rw [if_neg h2, show (n != 0) = true from by simp [h1], show (n != 8) = true from by simp [h2]]; rfl
theorem r_rfT (hd : DI d) (v : VRt E S m d) {x : Int32} (hx : svA d x) : sp_X12_isReferenceType fu E S m x = some (b2 (rfT x), S) := by
  rcases z_sgn x with h | ⟨n, hn, rfl⟩
  · unfold sp_X12_isReferenceType
    have h0 : decide (0 ≤ x) = false := by
      rw [decide_eq_false_iff_not, z_l32]
      rw [z_i32] at h
      omega
    rw [r_typ hd v, h0, Bool.false_and, Option.bind_some, b2_if, if_neg (by decide), rfT_neg h]; rfl
  · rw [r_rfN hd v hn, rfT_n hn]
    rcases hx with ⟨k, e, hk⟩ | hx | hx
    · have := isT_lt hd hk
      rw [z_eq hn (by omega)] at e
      rw [e, hk, Bool.true_and]
    · rw [z_int hn] at hx; omega
    · rw [z_int hn] at hx; omega
theorem r_rfV (hd : DI d) (v : VRt E S m d) {x : Int32} (hx : svA d x) : sp_X12_isReference fu E S m x = some (b2 (rfV x), S) := by
  unfold sp_X12_isReference rfV
  by_cases h : x = -1
  · rw [if_pos h, h]; rfl
  · rw [if_neg h, r_rfT hd v hx, Option.bind_some, bi_0, show (x == -1) = false from beq_eq_false_iff_ne.mpr h, Bool.false_or]
    cases rfT x <;> rfl
theorem r_arr (hd : DI d) (v : VRt E S m d) {n : Nat} (hn : isT d n = true) : sp_X12_isArray fu E S m (n32 n) = some (b2 (decide (0 < n % 8)), S) := by
  have := isT_lt hd hn
  unfold sp_X12_isArray
  rw [r_typ hd v, n32_ge (by omega), z_nat (by omega), hn, Option.bind_some, b2_if, Bool.true_and, if_pos rfl, z_mod (by omega), show (0 : Int32) = n32 0 from rfl, zi_le (by omega) (by decide)]
  by_cases h : 0 < n % 8
  · rw [if_neg (by omega), decide_eq_true h]; rfl
  · rw [if_pos (by omega), decide_eq_false h]; rfl
theorem r_row (hd : DI d) (v : VRt E S m d) {n : Nat} (hn : isT d n = true) : sp_X12_isRow fu E S m (n32 n) = some (b2 (decide (0 < lev n)), S) := by
  have h160 := isT_lt hd hn
  unfold sp_X12_isRow
  rw [r_arr hd v hn, Option.bind_some, b2_if]
  by_cases h : 0 < n % 8
  · rw [if_pos (decide_eq_true h), show n32 n - 1 = n32 (n - 1) from z_sub (b := 1) (by omega), r_rfN hd v (by omega), Option.bind_some, b2_if]
    have h1 : isT d (n - 1) = true := by
      rw [isT_iff] at hn ⊢
      omega
    rw [h1, Bool.true_and]
    have h2 : rfN (n - 1) = decide (0 < lev n) := by
      unfold rfN lev
      rw [Bool.eq_iff_iff, decide_eq_true_eq]
      simp only [Bool.and_eq_true, bne_iff_ne, ne_eq]
      split <;> omega
    rw [h2]
    cases decide (0 < lev n) <;> rfl
  · rw [if_neg (by simpa using h), show decide (0 < lev n) = false from decide_eq_false (by have := lev_le n; omega)]; rfl
theorem r_aboL (hd : DI d) (v : VRt E S m d) {a : Nat} (ha : a < 2 ^ 31) : ∀ (b : Nat), 2 ≤ b → b < d.1 → ∀ f, b ≤ f → lp_X12_isAbove_2 fu E m f (n32 a) (n32 b) S = some (b2 (anc d a b), S) := by
  have h20 := hd.2.1
  intro b
  induction b using Nat.strongRecOn with
  | _ b ih =>
    intro h2 hb f hf
    obtain ⟨f, rfl⟩ : ∃ z, f = z + 1 := ⟨f - 1, by omega⟩
    show bd_X12_isAbove_2 fu E m _ (n32 a) (n32 b) S = _
    unfold bd_X12_isAbove_2 jb_X12_isAbove_22 bnd
    rw [z_nat (show b < 2 ^ 31 by omega), anc_rec hd hb]
    by_cases e : b = a
    · have e' : n32 b = n32 a := by rw [e]
      rw [if_pos e', if_pos e', e]; simp [b2]
    · have e' : ¬ n32 b = n32 a := by rw [z_eq (show b < 2 ^ 31 by omega) ha]; exact e
      rw [if_neg e', if_neg e', show (2 : Int32) = n32 2 from rfl, zi_eq (show b < 2 ^ 31 by omega) (by decide), show (b == a) = false from beq_eq_false_iff_ne.mpr e, Bool.false_or]
      by_cases h3 : b = 2
      · rw [if_pos h3, show decide (3 ≤ b) = false from decide_eq_false (by omega)]; rfl
      · have hs := hd.2.2.1 b (by omega) hb
        rw [if_neg h3, if_pos (by rw [z_inb (by omega)]; omega), v.2.1 b (by omega) hb, show decide (3 ≤ b) = true from decide_eq_true (by omega), Bool.true_and]
        exact ih _ hs.2.1 hs.1 (by omega) f (by omega)
theorem r_abo (hd : DI d) (v : VRt E S m d) (hfu : 30 ≤ fu) {a b : Nat} (ha : a < 2 ^ 31) (h2 : 2 ≤ b) (hb : b < d.1) : sp_X12_isAbove fu E S m (n32 a) (n32 b) = some (b2 (anc d a b), S) := by
  have h20 := hd.2.1
  exact r_aboL hd v ha b h2 hb fu (by omega)
theorem isT_sub {n k : Nat} (hn : isT d n = true) (hk : k ≤ n % 8) : isT d (n - k) = true := by
  rw [isT_iff] at hn ⊢
  omega
theorem lev_sub {n k : Nat} (hk : k ≤ lev n) : lev (n - k) = lev n - k := by
  have := lev_le n
  unfold lev at *
  split at hk <;> split <;> omega
theorem anc_itf (hd : DI d) {a b : Nat} (hb : b < d.1) (h2 : 2 ≤ b) (hi : d.2.2 b = true) (ha : a ≠ b) (ha2 : a ≠ 2) : anc d a b = false := by
  have h3 : 3 ≤ b := by
    rcases Nat.lt_or_ge b 3 with h | h
    · rw [hd.2.2.2 b h] at hi; cases hi
    · exact h
  have hs := hd.2.2.1 b h3 hb
  rw [anc_rec hd hb, hs.2.2.2 hi, anc_rec hd (by omega), show (b == a) = false from beq_eq_false_iff_ne.mpr (Ne.symm ha), show (2 == a) = false from beq_eq_false_iff_ne.mpr (Ne.symm ha2)]
  simp
theorem r_asgJ (hd : DI d) (v : VRt E S m d) (hfu : 30 ≤ fu) {n r k : Nat} (hn : isT d n = true) (hr : isT d r = true) (rn : rfN n = true) (rr : rfN r = true) (hne : n ≠ r) (hk : k = min (lev n) (lev r)) : jb_X12_areAssignable_37 fu E m (n32 (n - k)) (n32 (r - k)) S = some (b2 (subN d n r), S) := by
  have h20 := hd.2.1
  have ln := lev_le n
  have lr := lev_le r
  have hk1 : k ≤ lev n := by rw [hk]; exact Nat.min_le_left _ _
  have hk2 : k ≤ lev r := by rw [hk]; exact Nat.min_le_right _ _
  have hn1 := isT_lt hd hn
  have hr1 := isT_lt hd hr
  have tn := isT_sub (d := d) hn (show k ≤ n % 8 by omega)
  have tr := isT_sub (d := d) hr (show k ≤ r % 8 by omega)
  unfold jb_X12_areAssignable_37 subN
  dsimp only
  rw [← hk]
  rw [show (0 : Int32) = n32 0 from rfl, show (16 : Int32) = n32 16 from rfl, zi_eq (show n - k < 2 ^ 31 by omega) (show r - k < 2 ^ 31 by omega), zi_eq (show r - k < 2 ^ 31 by omega) (by decide), z_mod (show n - k < 2 ^ 31 by omega), z_mod (show r - k < 2 ^ 31 by omega), zi_lt (by decide) (show (r - k) % 8 < 2 ^ 31 by omega), z_div (show n - k < 2 ^ 31 by omega), z_div (show r - k < 2 ^ 31 by omega), show n32 0 = (0 : Int32) from rfl, if_neg (by omega)]
  by_cases c2 : r - k = 16
  · rw [if_pos c2, decide_eq_true (show (r - k) % 8 = 0 by omega), decide_eq_true c2]; rfl
  rw [if_neg c2, decide_eq_false c2, Bool.false_or]
  by_cases c1 : (r - k) % 8 = 0
  · have hg := rf_ge (d := d) rr hk2 c1
    have tr' := isT_iff.mp tr
    have rg : rfN (r - k) = true := by
      unfold rfN
      simp only [Bool.and_eq_true, bne_iff_ne, ne_eq]
      omega
    rw [if_neg (by omega), decide_eq_true c1, Bool.true_and, r_rfN hd v (by omega), Option.bind_some, b2_if, tr, rg, Bool.true_and, if_pos rfl, if_pos (by rw [z_inb (by omega)]; omega), z_nat (show (r - k) / 8 < 2 ^ 31 by omega), v.2.2 _ tr'.1, b2_if]
    have ei : itf d ((r - k) / 8) = d.2.2 ((r - k) / 8) := by
      unfold itf
      rw [decide_eq_true hg, decide_eq_true tr'.1]; rfl
    rw [ei]
    cases c3 : d.2.2 ((r - k) / 8) with
    | true => rw [if_pos rfl, Bool.true_or]; rfl
    | false =>
      rw [if_neg (by decide), Bool.false_or, show (0 : Int32) = n32 0 from rfl, zi_eq (show (n - k) % 8 < 2 ^ 31 by omega) (by decide), show n32 0 = (0 : Int32) from rfl]
      by_cases c4 : (n - k) % 8 = 0
      · have h2 := rf_ge (d := d) rn hk1 c4
        have tn' := isT_iff.mp tn
        rw [if_pos c4, decide_eq_true c4, Bool.true_and, r_cls hd v, n32_ge (by omega), z_nat (show (n - k) / 8 < 2 ^ 31 by omega), Bool.true_and, Option.bind_some, b2_if]
        have ec : cls d ((n - k) / 8) = !d.2.2 ((n - k) / 8) := by
          unfold cls
          rw [decide_eq_true h2, decide_eq_true tn'.1]; rfl
        rw [ec]
        cases c5 : d.2.2 ((n - k) / 8) with
        | true =>
          rw [anc_itf hd tn'.1 h2 c5 (fun e => by rw [e, c5] at c3; cases c3) (by omega)]; rfl
        | false =>
          rw [if_pos (by rfl), r_abo hd v hfu (by omega) h2 tn'.1, Option.bind_some, b2_if]
          cases anc d ((r - k) / 8) ((n - k) / 8) <;> rfl
      · rw [if_neg c4, decide_eq_false c4, Bool.false_and]; rfl
  · rw [if_pos (by omega), decide_eq_false c1, Bool.false_and]; rfl
theorem z_dec {n : Nat} (h : 0 < n) : n32 n + -1 = n32 (n - 1) := by
  have : n32 n - 1 = n32 (n - 1) := z_sub (b := 1) (by omega)
  rw [← this, Int32.sub_eq_add_neg]
theorem r_asgL (hd : DI d) (v : VRt E S m d) (hfu : 30 ≤ fu) {n r k : Nat} (hn : isT d n = true) (hr : isT d r = true) (rn : rfN n = true) (rr : rfN r = true) (hne : n ≠ r) (hk : k = min (lev n) (lev r)) : ∀ (j i f : Nat), i + j = k → j + 1 ≤ f → lp_X12_areAssignable_5 fu E m f (n32 (n - i)) (n32 (r - i)) S = some (b2 (subN d n r), S) := by
  have h20 := hd.2.1
  have ln := lev_le n
  have lr := lev_le r
  have hn1 := isT_lt hd hn
  have hr1 := isT_lt hd hr
  intro j
  induction j with
  | zero =>
    intro i f hi hf
    obtain ⟨f, rfl⟩ : ∃ z, f = z + 1 := ⟨f - 1, by omega⟩
    have e : i = k := by omega
    subst e
    show bd_X12_areAssignable_5 fu E m _ (n32 (n - i)) (n32 (r - i)) S = _
    unfold bd_X12_areAssignable_5
    have J := r_asgJ hd v hfu hn hr rn rr hne hk
    rw [zi_eq (show n - i < 2 ^ 31 by omega) (show r - i < 2 ^ 31 by omega), if_neg (by omega), r_row hd v (isT_sub (d := d) hn (by omega)), Option.bind_some, b2_if, lev_sub (show i ≤ lev n by omega)]
    by_cases h1 : 0 < lev n - i
    · rw [if_pos (decide_eq_true h1), r_row hd v (isT_sub (d := d) hr (by omega)), Option.bind_some, b2_if, lev_sub (show i ≤ lev r by omega), if_neg (by rw [decide_eq_true_eq]; omega)]
      exact J
    · rw [if_neg (by simpa using h1)]
      exact J
  | succ j ih =>
    intro i f hi hf
    obtain ⟨f, rfl⟩ : ∃ z, f = z + 1 := ⟨f - 1, by omega⟩
    show bd_X12_areAssignable_5 fu E m _ (n32 (n - i)) (n32 (r - i)) S = _
    unfold bd_X12_areAssignable_5
    rw [zi_eq (show n - i < 2 ^ 31 by omega) (show r - i < 2 ^ 31 by omega), if_neg (by omega), r_row hd v (isT_sub (d := d) hn (by omega)), Option.bind_some, b2_if, lev_sub (show i ≤ lev n by omega), if_pos (decide_eq_true (by omega)), r_row hd v (isT_sub (d := d) hr (by omega)), Option.bind_some, b2_if, lev_sub (show i ≤ lev r by omega), if_pos (decide_eq_true (by omega)), z_dec (by omega), z_dec (by omega), show n - i - 1 = n - (i + 1) by omega, show r - i - 1 = r - (i + 1) by omega]
    exact ih (i + 1) f (by omega) (by omega)
theorem r_fits (hd : DI d) (v : VRt E S m d) (hfu : 30 ≤ fu) {x y : Int32} (hx : svA d x) (hy : svA d y) : sp_X12_fits fu E S m x y = some (b2 (fitsA d x y), S) := by
  have h20 := hd.2.1
  unfold sp_X12_fits fitsA
  by_cases h1 : x = y
  · rw [if_pos h1, h1]; simp [b2]
  rw [if_neg h1, show (x == y) = false from beq_eq_false_iff_ne.mpr h1, Bool.false_or]
  by_cases h2 : y = -2
  · rw [if_pos h2, h2]; rfl
  rw [if_neg h2, show (y == -2) = false from beq_eq_false_iff_ne.mpr h2, Bool.false_or, r_rfV hd v hx, Option.bind_some, b2_if]
  cases hx2 : rfV x with
  | false =>
    have e : (x == -1) = false := by
      unfold rfV at hx2
      cases hq : (x == -1) with
      | true => rw [hq] at hx2; cases hx2
      | false => rfl
    have e2 : rfT x = false := by
      unfold rfV at hx2
      rw [e, Bool.false_or] at hx2
      exact hx2
    rw [e, e2]
    simp [b2]
  | true =>
    rw [if_pos rfl, r_rfT hd v hy, Option.bind_some, b2_if]
    cases hy2 : rfT y with
    | false => rfl
    | true =>
      rw [if_pos rfl, Bool.true_and]
      by_cases h3 : x = -1
      · rw [if_pos h3, h3]; rfl
      rw [if_neg h3, show (x == -1) = false from beq_eq_false_iff_ne.mpr h3, Bool.false_or]
      obtain ⟨n, rfl, hn, rn, hn1⟩ := sv_rf hd hx hx2 h3
      have h4 : y ≠ -1 := fun e => by rw [e] at hy2; cases hy2
      obtain ⟨r, rfl, hr, rr, hr1⟩ := sv_rf hd hy (by unfold rfV; rw [hy2, Bool.or_true]) h4
      rw [z_eq (by omega) (by omega)] at h1
      have L := r_asgL hd v hfu hn hr rn rr h1 rfl (min (lev n) (lev r)) 0 fu (by omega) (by have := lev_le n; have := Nat.min_le_left (lev n) (lev r); omega)
      rw [show sp_X12_areAssignable fu E S m (n32 n) (n32 r) = some (b2 (subN d n r), S) from L, Option.bind_some, b2_if, rfT_n (by omega), rn, Bool.true_and, z_nat (by omega), z_nat (by omega)]
      cases subN d n r <;> rfl
theorem r_ccL (hd : DI d) (v : VRt E S m d) (hfu : 30 ≤ fu) {x4 k : Nat} (h4 : x4 < 2 ^ 31) (hb2 : 2 ≤ x4 / 8) (hb : x4 / 8 < d.1) : ∀ (a : Nat), 2 ≤ a → a < d.1 → ∀ f g, a ≤ f → a ≤ g + 2 → lp_X12_joined_104 fu E m f (n32 x4) (n32 k) (n32 a) S = some (n32 (8 * ccF d (g + 1) a (x4 / 8) + k), S) := by
  have h20 := hd.2.1
  intro a
  induction a using Nat.strongRecOn with
  | _ a ih =>
    intro h2 ha f g hf hg
    obtain ⟨f, rfl⟩ : ∃ z, f = z + 1 := ⟨f - 1, by omega⟩
    show bd_X12_joined_104 fu E m _ (n32 x4) (n32 k) (n32 a) S = _
    unfold bd_X12_joined_104 bnd
    rw [z_div h4, r_abo hd v hfu (by omega) hb2 hb, Option.bind_some, bi_0]
    show _ = some (n32 (8 * (if anc d a (x4 / 8) = true then a else if a ≤ 2 then 2 else ccF d g (d.2.1 a) (x4 / 8)) + k), S)
    by_cases e : anc d a (x4 / 8) = true
    · rw [if_neg (by rw [e]; decide), if_pos e]
      show some (n32 8 * n32 a + n32 k, S) = _
      rw [z_mul, z_add]
    · have e' : anc d a (x4 / 8) = false := by simpa using e
      have h3 : 3 ≤ a := by
        rcases Nat.lt_or_ge a 3 with h | h
        · exact absurd (show anc d a (x4 / 8) = true by rw [show a = 2 by omega]; exact anc_two hd _ hb2 hb) e
        · exact h
      have hs := hd.2.2.1 a h3 ha
      rw [if_pos e', if_neg e, if_neg (show ¬ a ≤ 2 by omega), if_pos (by rw [z_inb (by omega)]; omega), z_nat (by omega), v.2.1 a h3 ha]
      obtain ⟨g, rfl⟩ : ∃ z, g = z + 1 := ⟨g - 1, by omega⟩
      exact ih _ hs.2.1 hs.1 (by omega) f g (by omega) (by omega)
theorem r_joiJ (hd : DI d) (v : VRt E S m d) (hfu : 30 ≤ fu) {n r k : Nat} (hn : isT d n = true) (hr : isT d r = true) (rn : rfN n = true) (rr : rfN r = true) (hne : n ≠ r) (hk : k = min (lev n) (lev r)) : jb_X12_joined_43 fu E m (n32 (n - k)) (n32 (r - k)) (n32 k) S = some (n32 (jnN d n r), S) := by
  have h20 := hd.2.1
  have ln := lev_le n
  have lr := lev_le r
  have hk1 : k ≤ lev n := by rw [hk]; exact Nat.min_le_left _ _
  have hk2 : k ≤ lev r := by rw [hk]; exact Nat.min_le_right _ _
  have hn1 := isT_lt hd hn
  have hr1 := isT_lt hd hr
  have tn := isT_iff.mp (isT_sub (d := d) hn (show k ≤ n % 8 by omega))
  have tr := isT_iff.mp (isT_sub (d := d) hr (show k ≤ r % 8 by omega))
  unfold jb_X12_joined_43 jnN bnd
  dsimp only
  rw [← hk]
  rw [show (0 : Int32) = n32 0 from rfl, zi_eq (show n - k < 2 ^ 31 by omega) (show r - k < 2 ^ 31 by omega), z_mod (show n - k < 2 ^ 31 by omega), z_mod (show r - k < 2 ^ 31 by omega), zi_lt (by decide) (show (r - k) % 8 < 2 ^ 31 by omega), zi_lt (by decide) (show (n - k) % 8 < 2 ^ 31 by omega), z_div (show n - k < 2 ^ 31 by omega), z_div (show r - k < 2 ^ 31 by omega), show n32 0 = (0 : Int32) from rfl, if_neg (by omega), show (16 : Int32) + n32 k = n32 (16 + k) from z_add 16 k]
  by_cases c1 : (n - k) % 8 = 0
  · rw [if_neg (by omega)]
    by_cases c2 : (r - k) % 8 = 0
    · have h2 := rf_ge (d := d) rn hk1 c1
      have h3 := rf_ge (d := d) rr hk2 c2
      rw [if_neg (by omega), if_pos ⟨c1, c2⟩, r_cls hd v, n32_ge (by omega), z_nat (show (n - k) / 8 < 2 ^ 31 by omega), Bool.true_and, Option.bind_some, bi_0, r_cls hd v, n32_ge (by omega), z_nat (show (r - k) / 8 < 2 ^ 31 by omega), Bool.true_and, Option.bind_some, bi_0]
      unfold cc
      cases h4 : cls d ((n - k) / 8) with
      | false => rfl
      | true =>
        cases h5 : cls d ((r - k) / 8) with
        | false => rfl
        | true =>
          rw [if_neg (by decide), if_neg (by decide), if_pos (show (true && true) = true from rfl)]
          exact r_ccL hd v hfu (by omega) h3 tr.1 _ h2 tn.1 fu 19 (by omega) (by omega)
    · rw [if_pos (by omega), if_neg (fun h => c2 h.2)]
  · rw [if_pos (by omega), if_neg (fun h => c1 h.1)]
theorem r_joiL (hd : DI d) (v : VRt E S m d) (hfu : 30 ≤ fu) {n r k : Nat} (hn : isT d n = true) (hr : isT d r = true) (rn : rfN n = true) (rr : rfN r = true) (hne : n ≠ r) (hk : k = min (lev n) (lev r)) : ∀ (j i f : Nat), i + j = k → j + 1 ≤ f → lp_X12_joined_8 fu E m f (n32 (n - i)) (n32 (r - i)) (n32 i) S = some (n32 (jnN d n r), S) := by
  have h20 := hd.2.1
  have ln := lev_le n
  have lr := lev_le r
  have hn1 := isT_lt hd hn
  have hr1 := isT_lt hd hr
  intro j
  induction j with
  | zero =>
    intro i f hi hf
    obtain ⟨f, rfl⟩ : ∃ z, f = z + 1 := ⟨f - 1, by omega⟩
    have e : i = k := by omega
    subst e
    show bd_X12_joined_8 fu E m _ (n32 (n - i)) (n32 (r - i)) (n32 i) S = _
    unfold bd_X12_joined_8
    have J := r_joiJ hd v hfu hn hr rn rr hne hk
    rw [zi_eq (show n - i < 2 ^ 31 by omega) (show r - i < 2 ^ 31 by omega), if_neg (by omega), r_row hd v (isT_sub (d := d) hn (by omega)), Option.bind_some, b2_if, lev_sub (show i ≤ lev n by omega)]
    by_cases h1 : 0 < lev n - i
    · rw [if_pos (decide_eq_true h1), r_row hd v (isT_sub (d := d) hr (by omega)), Option.bind_some, b2_if, lev_sub (show i ≤ lev r by omega), if_neg (by rw [decide_eq_true_eq]; omega)]
      exact J
    · rw [if_neg (by simpa using h1)]
      exact J
  | succ j ih =>
    intro i f hi hf
    obtain ⟨f, rfl⟩ : ∃ z, f = z + 1 := ⟨f - 1, by omega⟩
    show bd_X12_joined_8 fu E m _ (n32 (n - i)) (n32 (r - i)) (n32 i) S = _
    unfold bd_X12_joined_8
    rw [zi_eq (show n - i < 2 ^ 31 by omega) (show r - i < 2 ^ 31 by omega), if_neg (by omega), r_row hd v (isT_sub (d := d) hn (by omega)), Option.bind_some, b2_if, lev_sub (show i ≤ lev n by omega), if_pos (decide_eq_true (by omega)), r_row hd v (isT_sub (d := d) hr (by omega)), Option.bind_some, b2_if, lev_sub (show i ≤ lev r by omega), if_pos (decide_eq_true (by omega)), z_dec (by omega), z_dec (by omega), show n - i - 1 = n - (i + 1) by omega, show r - i - 1 = r - (i + 1) by omega, show n32 i + 1 = n32 (i + 1) from z_add i 1]
    exact ih (i + 1) f (by omega) (by omega)
theorem r_join (hd : DI d) (v : VRt E S m d) (hfu : 30 ≤ fu) {x y : Int32} (hx : svA d x) (hy : svA d y) : sp_X12_meet fu E S m x y = some (joinA d x y, S) := by
  have h20 := hd.2.1
  unfold sp_X12_meet joinA
  by_cases h1 : x = y
  · rw [if_pos h1, if_pos h1]
  rw [if_neg h1, if_neg h1, r_rfV hd v hx, Option.bind_some, b2_if]
  cases hx2 : rfV x with
  | false => rw [if_neg (by decide), if_pos (Or.inl rfl)]
  | true =>
    rw [if_pos rfl, r_rfV hd v hy, Option.bind_some, b2_if]
    cases hy2 : rfV y with
    | false => rw [if_neg (by decide), if_pos (Or.inr rfl)]
    | true =>
      rw [if_pos rfl, if_neg (show ¬ (true = false ∨ true = false) from by simp)]
      by_cases h3 : x = -1
      · rw [if_pos h3, if_pos h3]
      rw [if_neg h3, if_neg h3]
      by_cases h4 : y = -1
      · rw [if_pos h4, if_pos h4]
      rw [if_neg h4, if_neg h4]
      obtain ⟨n, rfl, hn, rn, hn1⟩ := sv_rf hd hx hx2 h3
      obtain ⟨r, rfl, hr, rr, hr1⟩ := sv_rf hd hy hy2 h4
      rw [z_eq (by omega) (by omega)] at h1
      have L := r_joiL hd v hfu hn hr rn rr h1 rfl (min (lev n) (lev r)) 0 fu (by omega) (by have := lev_le n; have := Nat.min_le_left (lev n) (lev r); omega)
      rw [show sp_X12_joined fu E S m (n32 n) (n32 r) = some (n32 (jnN d n r), S) from L, Option.bind_some, z_nat (by omega), z_nat (by omega)]
end RTY
