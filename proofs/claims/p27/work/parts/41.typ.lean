theorem ancF_eq {d : Dcl} (hd : DI d) (a : Nat) : ∀ (f g b : Nat), b ≤ f + 2 → b ≤ g + 2 → b < d.1 → ancF d (f + 1) a b = ancF d (g + 1) a b := by
  intro f
  induction f with
  | zero =>
    intro g b h1 h2 h3
    have : ¬ 3 ≤ b := by omega
    simp [ancF, this]
  | succ f ih =>
    intro g b h1 h2 h3
    by_cases h : 3 ≤ b
    · have hs := hd.2.2.1 b h h3
      obtain ⟨g, rfl⟩ : ∃ z, g = z + 1 := ⟨g - 1, by omega⟩
      have e := ih g (d.2.1 b) (by omega) (by omega) (by omega)
      show (b == a || (decide (3 ≤ b) && ancF d (f + 1) a (d.2.1 b))) = (b == a || (decide (3 ≤ b) && ancF d (g + 1) a (d.2.1 b)))
      rw [e]
    · simp [ancF, h]
theorem anc_rec {d : Dcl} (hd : DI d) {a b : Nat} (hb : b < d.1) : anc d a b = (b == a || (decide (3 ≤ b) && anc d a (d.2.1 b))) := by
  by_cases h : 3 ≤ b
  · have hs := hd.2.2.1 b h hb
    have h20 := hd.2.1
    have e := ancF_eq hd a 18 19 (d.2.1 b) (by omega) (by omega) (by omega)
    show (b == a || (decide (3 ≤ b) && ancF d 19 a (d.2.1 b))) = (b == a || (decide (3 ≤ b) && ancF d 20 a (d.2.1 b)))
    rw [e]
  · show (b == a || (decide (3 ≤ b) && _)) = (b == a || (decide (3 ≤ b) && _))
    simp [h]
theorem anc_two {d : Dcl} (hd : DI d) : ∀ b, 2 ≤ b → b < d.1 → anc d 2 b = true := by
  intro b
  induction b using Nat.strongRecOn with
  | _ b ih =>
    intro h2 hb
    rw [anc_rec hd hb]
    by_cases h : 3 ≤ b
    · have hs := hd.2.2.1 b h hb
      rw [ih _ hs.2.1 hs.1 (by omega)]
      simp [h]
    · have : b = 2 := by omega
      simp [this]
def VT (E : Ev) (S : St) (T : Nat) (d : Dcl) : Prop := S.1 T 2 = n32 d.1 ∧ (∀ b, b < 3 → S.2.1 (E.2 T 0) b = -1) ∧ (∀ b, 3 ≤ b → b < d.1 → S.2.1 (E.2 T 0) b = n32 (d.2.1 b)) ∧ ∀ b, b < d.1 → S.2.1 (E.2 T 1) b = b2 (d.2.2 b)
section CTY
variable {E : Ev} {S : St} {T fu : Nat} {d : Dcl}
theorem t_cls (hd : DI d) (v : VT E S T d) (x : Int32) : sp_X10_isClass fu E S T x = some (b2 (decide (0 ≤ x) && cls d x.toNatClampNeg), S) := by
  have h20 := hd.2.1
  rcases z_sgn x with h | ⟨n, hn, rfl⟩
  · have h0 : decide (0 ≤ x) = false := by
      rw [decide_eq_false_iff_not, z_l32]
      rw [z_i32] at h
      omega
    have h2 : x < 2 := by
      rw [z_i32] at h ⊢
      have e0 : (0 : Int32).toInt = 0 := by decide
      have e2 : (2 : Int32).toInt = 2 := by decide
      omega
    unfold sp_X10_isClass
    rw [if_pos h2, h0]; rfl
  · have h0 : decide (0 ≤ n32 n) = true := by
      rw [decide_eq_true_eq, show (0 : Int32) = n32 0 from rfl, z_le (by decide) hn]
      exact Nat.zero_le _
    rw [h0, z_nat hn, Bool.true_and]
    unfold sp_X10_isClass cls
    rw [show (2 : Int32) = n32 2 from rfl, zi_lt hn (by decide), v.1, zi_le (by omega) hn]
    by_cases h1 : n < 2
    · rw [if_pos h1, show decide (2 ≤ n) = false from decide_eq_false (by omega)]; rfl
    · rw [if_neg h1, show decide (2 ≤ n) = true from decide_eq_true (by omega)]
      by_cases h2 : d.1 ≤ n
      · rw [if_pos h2, show decide (n < d.1) = false from decide_eq_false (by omega)]; rfl
      · have h3 : n < d.1 := by omega
        rw [if_neg h2, show decide (n < d.1) = true from decide_eq_true h3, if_pos (by rw [z_inb hn]; omega), z_nat hn, v.2.2.2 n h3, bi_0]
        cases hh : d.2.2 n <;> simp [b2]
theorem t_itf (hd : DI d) (v : VT E S T d) {n : Nat} (hn : n < 2 ^ 31) : sp_X10_isInterface fu E S T (n32 n) = some (b2 (itf d n), S) := by
  have h20 := hd.2.1
  unfold sp_X10_isInterface itf
  rw [show (2 : Int32) = n32 2 from rfl, zi_lt hn (by decide), v.1, zi_le (by omega) hn]
  by_cases h1 : n < 2
  · rw [if_pos h1, show decide (2 ≤ n) = false from decide_eq_false (by omega)]; rfl
  · rw [if_neg h1, show decide (2 ≤ n) = true from decide_eq_true (by omega)]
    by_cases h2 : d.1 ≤ n
    · rw [if_pos h2, show decide (n < d.1) = false from decide_eq_false (by omega)]; rfl
    · have h3 : n < d.1 := by omega
      rw [if_neg h2, show decide (n < d.1) = true from decide_eq_true h3, if_pos (by rw [z_inb hn]; omega), z_nat hn, v.2.2.2 n h3, bi_0]
      cases hh : d.2.2 n <;> simp [b2]
theorem t_typ (hd : DI d) (v : VT E S T d) (x : Int32) : sp_X10_isType fu E S T x = some (b2 (decide (0 ≤ x) && isT d x.toNatClampNeg), S) := by
  have h20 := hd.2.1
  rcases z_sgn x with h | ⟨n, hn, rfl⟩
  · have h0 : decide (0 ≤ x) = false := by
      rw [decide_eq_false_iff_not, z_l32]
      rw [z_i32] at h
      omega
    unfold sp_X10_isType
    rw [if_pos h, h0]; rfl
  · have h0 : decide (0 ≤ n32 n) = true := by
      rw [decide_eq_true_eq, show (0 : Int32) = n32 0 from rfl, z_le (by decide) hn]
      exact Nat.zero_le _
    rw [h0, z_nat hn, Bool.true_and]
    unfold sp_X10_isType isT
    rw [z_mod hn, z_div hn, v.1, zi_nlt hn, zi_le (by omega) (by omega), show (4 : Int32) = n32 4 from rfl, zi_lt (by decide) (by omega)]
    by_cases h1 : d.1 ≤ n / 8
    · rw [if_pos h1, show decide (n / 8 < d.1) = false from decide_eq_false (by omega)]; rfl
    · rw [if_neg h1, show decide (n / 8 < d.1) = true from decide_eq_true (by omega)]
      by_cases h2 : 4 < n % 8
      · rw [if_pos h2, show decide (n % 8 ≤ 4) = false from decide_eq_false (by omega)]; rfl
      · rw [if_neg h2, show decide (n % 8 ≤ 4) = true from decide_eq_true (by omega)]; rfl
theorem t_rfT (x : Int32) : sp_X11_isReferenceType fu E S x = some (b2 (rfT x), S) := by
  unfold sp_X11_isReferenceType
  rcases z_sgn x with h | ⟨n, hn, rfl⟩
  · rw [if_pos h, rfT_neg h]; rfl
  · rw [zi_nlt hn, rfT_n hn, show (0 : Int32) = n32 0 from rfl, show (8 : Int32) = n32 8 from rfl, zi_eq hn (by decide), zi_eq hn (by decide)]
    unfold rfN
    by_cases h1 : n = 0
    · rw [if_pos h1, h1]; rfl
    · rw [if_neg h1]
      by_cases h2 : n = 8
      · rw [if_pos h2, h2]; rfl
      · rw [if_neg h2, show (n != 0) = true from by simp [h1], show (n != 8) = true from by simp [h2]]; rfl
theorem t_rfV (x : Int32) : sp_X11_isReference fu E S x = some (b2 (rfV x), S) := by
  unfold sp_X11_isReference rfV
  by_cases h : x = -1
  · rw [if_pos h, h]; rfl
  · rw [if_neg h, t_rfT, Option.bind_some, bi_0, show (x == -1) = false from beq_eq_false_iff_ne.mpr h, Bool.false_or]
    cases rfT x <;> rfl
theorem t_lev {n : Nat} (hn : n < 2 ^ 31) : sp_X10_referenceLevels fu E S (n32 n) = some (n32 (lev n), S) := by
  unfold sp_X10_referenceLevels jb_X10_referenceLevels_18 bnd lev
  rw [z_mod hn, z_div hn]
  show (if n32 2 ≤ n32 (n / 8) then (if (0 : Int32) = 0 then some (n32 (n % 8), S) else if n32 (n % 8) ≤ 0 then some (n32 (n % 8), S) else some (n32 (n % 8) - 1, S)) else if (1 : Int32) = 0 then some (n32 (n % 8), S) else if n32 (n % 8) ≤ 0 then some (n32 (n % 8), S) else some (n32 (n % 8) - 1, S)) = _
  rw [zi_le (by decide) (by omega)]
  by_cases h1 : 2 ≤ n / 8
  · rw [if_pos h1, if_pos rfl, if_neg (by omega)]
  · rw [if_neg h1, if_neg (by decide), show (0 : Int32) = n32 0 from rfl, zi_le (by omega) (by decide)]
    by_cases h2 : n % 8 ≤ 0
    · rw [if_pos h2, if_neg (by omega)]
    · rw [if_neg h2, if_pos (by omega), show (1 : Int32) = n32 1 from rfl, z_sub (by omega)]
theorem t_inh1 {f k : Nat} {a : Int32} (hk : k < 2 ^ 31) : lp_X10_inherits_5 fu E T (f + 1) a (-1) (n32 k) S = some (0, S) := by
  show bd_X10_inherits_5 fu E T _ a (-1) (n32 k) S = _
  unfold bd_X10_inherits_5
  by_cases h : (20 : Int32) ≤ n32 k
  · rw [if_pos h]
  · rw [if_neg h, if_pos rfl]
theorem t_inhL (hd : DI d) (v : VT E S T d) {a : Nat} (ha : a < 2 ^ 31) : ∀ (b : Nat), 2 ≤ b → b < d.1 → ∀ f k, k + b ≤ 21 → b ≤ f → lp_X10_inherits_5 fu E T f (n32 a) (n32 b) (n32 k) S = some (b2 (anc d a b), S) := by
  have h20 := hd.2.1
  intro b
  induction b using Nat.strongRecOn with
  | _ b ih =>
    intro h2 hb f k hk hf
    obtain ⟨f, rfl⟩ : ∃ z, f = z + 1 := ⟨f - 1, by omega⟩
    show bd_X10_inherits_5 fu E T _ (n32 a) (n32 b) (n32 k) S = _
    unfold bd_X10_inherits_5 bnd
    rw [show (20 : Int32) = n32 20 from rfl, zi_le (by decide) (by omega), if_neg (by omega), zi_ne1 (by omega), zi_eq (by omega) ha, z_nat (show b < 2 ^ 31 by omega), anc_rec hd hb]
    by_cases e : b = a
    · rw [if_pos e, e]; simp [b2]
    · rw [if_neg e, if_pos (by rw [z_inb (by omega)]; omega), show (b == a) = false from beq_eq_false_iff_ne.mpr e, Bool.false_or, show n32 k + 1 = n32 (k + 1) from z_add k 1]
      by_cases h3 : 3 ≤ b
      · have hs := hd.2.2.1 b h3 hb
        rw [v.2.2.1 b h3 hb]
        show lp_X10_inherits_5 fu E T f (n32 a) (n32 (d.2.1 b)) (n32 (k + 1)) S = _
        rw [ih _ hs.2.1 hs.1 (by omega) f (k + 1) (by omega) (by omega)]
        simp [h3]
      · rw [v.2.1 b (by omega)]
        show lp_X10_inherits_5 fu E T f (n32 a) (-1) (n32 (k + 1)) S = _
        obtain ⟨f, rfl⟩ : ∃ z, f = z + 1 := ⟨f - 1, by omega⟩
        rw [t_inh1 (by omega)]
        simp [h3, b2]
theorem t_inh (hd : DI d) (v : VT E S T d) (hfu : 30 ≤ fu) {a b : Nat} (ha : a < 2 ^ 31) (h2 : 2 ≤ b) (hb : b < d.1) : sp_X10_inherits fu E S T (n32 b) (n32 a) = some (b2 (anc d a b), S) := by
  have h20 := hd.2.1
  exact t_inhL hd v ha b h2 hb fu 0 (by omega) (by omega)
theorem lev_le (n : Nat) : lev n ≤ n % 8 := by
  unfold lev
  split <;> omega
theorem t_ccL (hd : DI d) (v : VT E S T d) (hfu : 30 ≤ fu) {b : Nat} (hb2 : 2 ≤ b) (hb : b < d.1) : ∀ (a : Nat), 2 ≤ a → a < d.1 → ∀ f g k, k + a ≤ 21 → a ≤ f → a ≤ g + 2 → lp_X10_commonClass_23 fu E T f (n32 b) (n32 a) (n32 k) S = some (n32 (ccF d (g + 1) a b), S) := by
  have h20 := hd.2.1
  intro a
  induction a using Nat.strongRecOn with
  | _ a ih =>
    intro h2 ha f g k hk hf hg
    obtain ⟨f, rfl⟩ : ∃ z, f = z + 1 := ⟨f - 1, by omega⟩
    show bd_X10_commonClass_23 fu E T _ (n32 b) (n32 a) (n32 k) S = _
    unfold bd_X10_commonClass_23 bnd
    rw [show (20 : Int32) = n32 20 from rfl, zi_le (by decide) (by omega), if_neg (by omega), zi_ne1 (by omega), t_inh hd v hfu (by omega) hb2 hb, Option.bind_some, bi_0]
    show _ = some (n32 (if anc d a b = true then a else if a ≤ 2 then 2 else ccF d g (d.2.1 a) b), S)
    by_cases e : anc d a b = true
    · rw [if_neg (by rw [e]; decide), if_pos e]
    · have e' : anc d a b = false := by simpa using e
      have h3 : 3 ≤ a := by
        rcases Nat.lt_or_ge a 3 with h | h
        · exact absurd (show anc d a b = true by rw [show a = 2 by omega]; exact anc_two hd b hb2 hb) e
        · exact h
      have hs := hd.2.2.1 a h3 ha
      rw [if_pos e', if_neg e, if_neg (show ¬ a ≤ 2 by omega), if_pos (by rw [z_inb (by omega)]; omega), z_nat (by omega), v.2.2.1 a h3 ha, show n32 k + 1 = n32 (k + 1) from z_add k 1]
      obtain ⟨g, rfl⟩ : ∃ z, g = z + 1 := ⟨g - 1, by omega⟩
      exact ih _ hs.2.1 hs.1 (by omega) f g (k + 1) (by omega) (by omega) (by omega)
theorem t_cc (hd : DI d) (v : VT E S T d) (hfu : 30 ≤ fu) {a b : Nat} (ha : a < 2 ^ 31) (hb : b < 2 ^ 31) : sp_X10_commonClass fu E S T (n32 a) (n32 b) = some (n32 (cc d a b), S) := by
  have h20 := hd.2.1
  have h0 : ∀ n, n < 2 ^ 31 → decide (0 ≤ n32 n) = true := fun n hn => by
    rw [decide_eq_true_eq, show (0 : Int32) = n32 0 from rfl, z_le (by decide) hn]
    exact Nat.zero_le _
  unfold sp_X10_commonClass cc
  rw [t_cls hd v, h0 a ha, z_nat ha, Bool.true_and, Option.bind_some, bi_0, t_cls hd v, h0 b hb, z_nat hb, Bool.true_and, Option.bind_some, bi_0]
  cases h1 : cls d a with
  | false => rfl
  | true =>
    cases h2 : cls d b with
    | false => rfl
    | true =>
      rw [if_neg (by decide), if_neg (by decide), if_pos (show (true && true) = true from rfl)]
      simp only [cls, Bool.and_eq_true, decide_eq_true_eq] at h1 h2
      exact t_ccL hd v hfu h2.1.1 h2.1.2 a h1.1.1 h1.1.2 fu 19 0 (by omega) (by omega) (by omega)
theorem b2_if {b : Bool} {α : Type} {x y : α} : (if b2 b = 0 then x else y) = (if b = true then y else x) := by cases b <;> rfl
theorem t_min {n m : Nat} (hn : n < 2 ^ 31) (hm : m < 2 ^ 31) : (if n32 m < n32 n then n32 m else n32 n) = n32 (min n m) := by
  rw [zi_lt hm hn]
  by_cases h : m < n
  · rw [if_pos h, Nat.min_eq_right (by omega)]
  · rw [if_neg h, Nat.min_eq_left (by omega)]
theorem rf_ge {d : Dcl} {n k : Nat} (h : rfN n = true) (hk : k ≤ lev n) (h8 : (n - k) % 8 = 0) : 2 ≤ (n - k) / 8 := by
  have := lev_le n
  simp only [rfN, Bool.and_eq_true, bne_iff_ne, ne_eq] at h
  by_cases h1 : n / 8 < 2
  · unfold lev at hk
    split at hk <;> omega
  · omega
theorem t_fits (hd : DI d) (v : VT E S T d) (hfu : 30 ≤ fu) {x y : Int32} (hx : svA d x) (hy : svA d y) : sp_X10_fits fu E S T x y = some (b2 (fitsA d x y), S) := by
  have h20 := hd.2.1
  unfold sp_X10_fits fitsA
  by_cases h1 : x = y
  · rw [if_pos h1, h1]; simp [b2]
  rw [if_neg h1, show (x == y) = false from beq_eq_false_iff_ne.mpr h1, Bool.false_or]
  by_cases h2 : y = -2
  · rw [if_pos h2, h2]; rfl
  rw [if_neg h2, show (y == -2) = false from beq_eq_false_iff_ne.mpr h2, Bool.false_or, t_rfT, Option.bind_some, b2_if]
  cases hy2 : rfT y with
  | false => rfl
  | true =>
    rw [if_pos rfl, Bool.true_and]
    by_cases h3 : x = -1
    · rw [if_pos h3, h3]; rfl
    rw [if_neg h3, show (x == -1) = false from beq_eq_false_iff_ne.mpr h3, Bool.false_or, t_rfT, Option.bind_some, b2_if]
    cases hx2 : rfT x with
    | false => rfl
    | true =>
      rw [if_pos rfl, Bool.true_and]
      obtain ⟨n, rfl, hn⟩ : ∃ n, x = n32 n ∧ isT d n = true := by
        rcases hx with h | h | h
        · exact h
        · rw [rfT_neg (by rw [z_i32]; have : (0 : Int32).toInt = 0 := by decide
                          omega)] at hx2; cases hx2
        · rw [rfT_neg (by rw [z_i32]; have : (0 : Int32).toInt = 0 := by decide
                          omega)] at hx2; cases hx2
      obtain ⟨m, rfl, hm⟩ : ∃ n, y = n32 n ∧ isT d n = true := by
        rcases hy with h | h | h
        · exact h
        · rw [rfT_neg (by rw [z_i32]; have : (0 : Int32).toInt = 0 := by decide
                          omega)] at hy2; cases hy2
        · rw [rfT_neg (by rw [z_i32]; have : (0 : Int32).toInt = 0 := by decide
                          omega)] at hy2; cases hy2
      have hn1 := isT_lt hd hn
      have hm1 := isT_lt hd hm
      have ln := lev_le n
      have lm := lev_le m
      rw [rfT_n (by omega)] at hx2 hy2
      rw [t_lev (by omega), Option.bind_some, t_lev (by omega), Option.bind_some, z_nat (by omega), z_nat (by omega)]
      unfold bnd subN
      dsimp only
      rw [t_min (by omega) (by omega)]
      have hk1 : min (lev n) (lev m) ≤ lev n := Nat.min_le_left _ _
      have hk2 : min (lev n) (lev m) ≤ lev m := Nat.min_le_right _ _
      generalize min (lev n) (lev m) = k at hk1 hk2
      rw [z_sub (show k ≤ n by omega), z_sub (show k ≤ m by omega), z_mod (show m - k < 2 ^ 31 by omega), z_mod (show n - k < 2 ^ 31 by omega), show (0 : Int32) = n32 0 from rfl, zi_eq (show (m - k) % 8 < 2 ^ 31 by omega) (by decide), show (16 : Int32) = n32 16 from rfl, zi_eq (show m - k < 2 ^ 31 by omega) (by decide), z_div (show m - k < 2 ^ 31 by omega), z_div (show n - k < 2 ^ 31 by omega), show n32 0 = (0 : Int32) from rfl]
      by_cases c1 : (m - k) % 8 = 0
      · rw [if_pos c1, decide_eq_true c1, Bool.true_and]
        by_cases c2 : m - k = 16
        · rw [if_pos c2, decide_eq_true c2, Bool.true_or]; rfl
        · rw [if_neg c2, decide_eq_false c2, Bool.false_or, t_itf hd v (by omega), Option.bind_some, b2_if]
          cases c3 : itf d ((m - k) / 8) with
          | true => rw [if_pos rfl, Bool.true_or]; rfl
          | false =>
            rw [if_neg (by decide), Bool.false_or, show (0 : Int32) = n32 0 from rfl, zi_eq (show (n - k) % 8 < 2 ^ 31 by omega) (by decide), show n32 0 = (0 : Int32) from rfl]
            by_cases c4 : (n - k) % 8 = 0
            · have h2 := rf_ge (d := d) hx2 hk1 c4
              rw [isT_iff] at hn
              rw [if_pos c4, decide_eq_true c4, Bool.true_and, t_inh hd v hfu (by omega) h2 (by omega), Option.bind_some, b2_if]
              cases anc d ((m - k) / 8) ((n - k) / 8) <;> rfl
            · rw [if_neg c4, decide_eq_false c4, Bool.false_and]; rfl
      · rw [if_neg c1, decide_eq_false c1, Bool.false_and]; rfl
theorem sv_rf (hd : DI d) {x : Int32} (hx : svA d x) (h : rfV x = true) (h1 : x ≠ -1) : ∃ n, x = n32 n ∧ isT d n = true ∧ rfN n = true ∧ n < 160 := by
  unfold rfV at h
  rw [show (x == -1) = false from beq_eq_false_iff_ne.mpr h1, Bool.false_or] at h
  rcases hx with ⟨n, rfl, hn⟩ | hx | hx
  · have := isT_lt hd hn
    rw [rfT_n (by omega)] at h
    exact ⟨n, rfl, hn, h, this⟩
  · rw [rfT_neg (by rw [z_i32]; have : (0 : Int32).toInt = 0 := by decide
                    omega)] at h; cases h
  · rw [rfT_neg (by rw [z_i32]; have : (0 : Int32).toInt = 0 := by decide
                    omega)] at h; cases h
theorem t_join (hd : DI d) (v : VT E S T d) (hfu : 30 ≤ fu) {x y : Int32} (hx : svA d x) (hy : svA d y) : sp_X10_commonSlot fu E S T x y = some (joinA d x y, S) := by
  have h20 := hd.2.1
  unfold sp_X10_commonSlot joinA
  by_cases h1 : x = y
  · rw [if_pos h1, if_pos h1]
  rw [if_neg h1, if_neg h1, t_rfV, Option.bind_some, b2_if]
  cases hx2 : rfV x with
  | false => rw [if_neg (by decide), if_pos (Or.inl rfl)]
  | true =>
    rw [if_pos rfl, t_rfV, Option.bind_some, b2_if]
    cases hy2 : rfV y with
    | false => rw [if_neg (by decide), if_pos (Or.inr rfl)]
    | true =>
      rw [if_pos rfl, if_neg (show ¬ (true = false ∨ true = false) from by simp)]
      by_cases h3 : x = -1
      · rw [if_pos h3, if_pos h3]
      rw [if_neg h3, if_neg h3]
      by_cases h4 : y = -1
      · rw [if_pos h4, if_pos h4]
      rw [if_neg h4, if_neg h4]
      obtain ⟨n, rfl, hn, rn, hn1⟩ := sv_rf hd hx hx2 h3
      obtain ⟨m, rfl, hm, rm, hm1⟩ := sv_rf hd hy hy2 h4
      have ln := lev_le n
      have lm := lev_le m
      rw [t_lev (by omega), Option.bind_some, t_lev (by omega), Option.bind_some, z_nat (by omega), z_nat (by omega)]
      unfold bnd jnN
      dsimp only
      rw [t_min (by omega) (by omega)]
      have hk1 : min (lev n) (lev m) ≤ lev n := Nat.min_le_left _ _
      have hk2 : min (lev n) (lev m) ≤ lev m := Nat.min_le_right _ _
      generalize min (lev n) (lev m) = k at hk1 hk2
      rw [z_sub (show k ≤ n by omega), z_sub (show k ≤ m by omega), z_mod (show m - k < 2 ^ 31 by omega), z_mod (show n - k < 2 ^ 31 by omega), show (0 : Int32) = n32 0 from rfl, zi_eq (show (m - k) % 8 < 2 ^ 31 by omega) (by decide), zi_eq (show (n - k) % 8 < 2 ^ 31 by omega) (by decide), z_div (show m - k < 2 ^ 31 by omega), z_div (show n - k < 2 ^ 31 by omega)]
      by_cases c1 : (n - k) % 8 = 0
      · rw [if_pos c1]
        by_cases c2 : (m - k) % 8 = 0
        · rw [if_pos c2, if_pos ⟨c1, c2⟩, t_cc hd v hfu (by omega) (by omega), Option.bind_some]
          show some (n32 8 * n32 _ + n32 k, S) = _
          rw [z_mul, z_add]
        · rw [if_neg c2, if_neg (fun h => c2 h.2)]
          show some (n32 16 + n32 k, S) = _
          rw [z_add]
      · rw [if_neg c1, if_neg (fun h => c1 h.1)]
        show some (n32 16 + n32 k, S) = _
        rw [z_add]
end CTY
