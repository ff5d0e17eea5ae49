def opOk (A : Enw) (op : Nat) (x : Int32) : Bool :=
  let n := x.toNatClampNeg
  let p := decide (0 ≤ x)
  if op = 5 ∨ op = 8 then p && decide (n + 1 < cloc A.2.2)
  else if (4 ≤ op ∧ op ≤ 9) ∨ op = 21 then p && decide (n < cloc A.2.2)
  else if 22 ≤ op ∧ op ≤ 26 then p && decide (n < cn A.2.2)
  else if op = 32 ∨ op = 33 then p && decide (n < fcnt A.2.1)
  else if op = 34 then p && cls A.1 n
  else if 35 ≤ op ∧ op ≤ 37 then p && (decide (n < mcnt A.2.1) && decide (mkin A.2.1 n = (if op = 35 then 2 else if op = 36 then 0 else 1)))
  else if op = 38 then p && (isT A.1 n && decide (n % 8 < 4))
  else if op = 44 ∨ op = 45 then p && (isT A.1 n && rfN n)
  else true
theorem ge0_n {x : Int32} (h : decide (0 ≤ x) = true) : ∃ n, n < 2 ^ 31 ∧ x = n32 n := by
  rcases z_sgn x with q | q
  · rw [decide_eq_true_eq, z_l32] at h
    rw [z_i32] at q
    omega
  · exact q
theorem okX_of {A : Enw} {op : Nat} {x : Int32} (hop : op ≤ 45) (h : opOk A op x = true) : okX A op x := by
  unfold opOk at h
  dsimp only at h
  have pn : ∀ {b : Bool}, (decide (0 ≤ x) && b) = true → ∃ n, x = n32 n ∧ x.toNatClampNeg = n ∧ b = true := by
    intro b hb
    rw [Bool.and_eq_true] at hb
    obtain ⟨n, hn, e⟩ := ge0_n hb.1
    exact ⟨n, e, by rw [e, z_nat hn], hb.2⟩
  refine ⟨fun k => ?_, fun k => ?_, fun k => ?_, fun k => ?_, fun k => ?_, fun k => ?_, fun k => ?_, fun k => ?_⟩
  · rw [if_neg (by omega), if_pos (by omega)] at h
    obtain ⟨n, e, e2, hb⟩ := pn h
    rw [e2, decide_eq_true_eq] at hb
    exact ⟨n, e, hb⟩
  · rw [if_pos (by omega)] at h
    obtain ⟨n, e, e2, hb⟩ := pn h
    rw [e2, decide_eq_true_eq] at hb
    exact ⟨n, e, hb⟩
  · rw [if_neg (by omega), if_neg (by omega), if_pos (by omega)] at h
    obtain ⟨n, e, e2, hb⟩ := pn h
    rw [e2, decide_eq_true_eq] at hb
    exact ⟨n, e, hb⟩
  · rw [if_neg (by omega), if_neg (by omega), if_neg (by omega), if_pos (by omega)] at h
    obtain ⟨n, e, e2, hb⟩ := pn h
    rw [e2, decide_eq_true_eq] at hb
    exact ⟨n, e, hb⟩
  · rw [if_neg (by omega), if_neg (by omega), if_neg (by omega), if_neg (by omega), if_pos (by omega)] at h
    obtain ⟨n, e, e2, hb⟩ := pn h
    rw [e2] at hb
    exact ⟨n, e, hb⟩
  · rw [if_neg (by omega), if_neg (by omega), if_neg (by omega), if_neg (by omega), if_neg (by omega), if_pos (by omega)] at h
    obtain ⟨n, e, e2, hb⟩ := pn h
    rw [e2, Bool.and_eq_true, decide_eq_true_eq, decide_eq_true_eq] at hb
    exact ⟨n, e, hb⟩
  · rw [if_neg (by omega), if_neg (by omega), if_neg (by omega), if_neg (by omega), if_neg (by omega), if_neg (by omega), if_pos (by omega)] at h
    obtain ⟨n, e, e2, hb⟩ := pn h
    rw [e2, Bool.and_eq_true, decide_eq_true_eq] at hb
    exact ⟨n, e, hb⟩
  · rw [if_neg (by omega), if_neg (by omega), if_neg (by omega), if_neg (by omega), if_neg (by omega), if_neg (by omega), if_neg (by omega), if_pos (by omega)] at h
    obtain ⟨n, e, e2, hb⟩ := pn h
    rw [e2, Bool.and_eq_true] at hb
    exact ⟨n, e, hb⟩
theorem rng {S : St} {x : Int32} {k : Nat} (hk : k < 2 ^ 31) : (if x < 0 then some ((0 : Int32), S) else if n32 k ≤ x then some (0, S) else some (1, S)) = some (b2 (decide (0 ≤ x) && decide (x.toNatClampNeg < k)), S) := by
  rcases z_sgn x with h | ⟨n, hn, rfl⟩
  · rw [if_pos h, show decide (0 ≤ x) = false from by
      rw [decide_eq_false_iff_not, z_l32]
      rw [z_i32] at h
      omega]
    rfl
  · rw [zi_nlt hn, zi_le hk hn, n32_ge hn, z_nat hn, Bool.true_and]
    by_cases h : k ≤ n
    · rw [if_pos h, decide_eq_false (by omega)]; rfl
    · rw [if_neg h, decide_eq_true (by omega)]; rfl
theorem rng1 {S : St} {x : Int32} {k : Nat} (hk : k < 2 ^ 31) : (if x < 0 then some ((0 : Int32), S) else if n32 k - 1 ≤ x then some (0, S) else some (1, S)) = some (b2 (decide (0 ≤ x) && decide (x.toNatClampNeg + 1 < k)), S) := by
  by_cases h0 : k = 0
  · subst h0
    rcases z_sgn x with h | ⟨n, hn, rfl⟩
    · rw [if_pos h, show decide (0 ≤ x) = false from by
        rw [decide_eq_false_iff_not, z_l32]
        rw [z_i32] at h
        omega]
      rfl
    · rw [zi_nlt hn, if_pos (by
        rw [show n32 0 - 1 = (-1 : Int32) from by decide, z_l32, z_int hn]
        have : (-1 : Int32).toInt = -1 := by decide
        omega), z_nat hn, decide_eq_false (show ¬ n + 1 < 0 by omega), Bool.and_false]
      rfl
  · rw [show n32 k - 1 = n32 (k - 1) from z_sub (b := 1) (by omega), rng (by omega)]
    rw [show decide (x.toNatClampNeg + 1 < k) = decide (x.toNatClampNeg < k - 1) from by
      rw [Bool.eq_iff_iff, decide_eq_true_eq, decide_eq_true_eq]; omega]
theorem isB_ite {α : Type} {b : Bool} {x z : α} : (if isB (b2 b) = true then x else z) = x := if_pos b2_isB
theorem ile_ite {α : Type} {a b : Int32} {x z : α} : (if a ≤ b then x else z) = (if decide (a ≤ b) = true then x else z) := by
  by_cases h : a ≤ b
  · rw [if_pos h, if_pos (decide_eq_true h)]
  · rw [if_neg h, if_neg (by rw [decide_eq_true_eq]; exact h)]
theorem ilt_ite {α : Type} {a b : Int32} {x z : α} : (if a < b then x else z) = (if decide (b ≤ a) = true then z else x) := by
  by_cases h : a < b
  · rw [if_pos h, if_neg (by rw [decide_eq_true_eq, z_l32]; rw [z_i32] at h; omega)]
  · rw [if_neg h, if_pos (by rw [decide_eq_true_eq, z_l32]; rw [z_i32] at h; omega)]
def idx (c : Cd) (x : Int32) : Bool := decide (0 ≤ x) && decide (x.toNatClampNeg < cn c)
section XC
variable {E : Ev} {S : St} {T B C X fu : Nat} {A : Enw}
theorem t_idx {c : Cd} (hc : VCd E S C c) (hn : cn c ≤ 100) (x : Int32) : sp_X1_isIndex fu E S C x = some (b2 (idx c x), S) := by
  unfold sp_X1_isIndex
  rw [hc.2.2.2.2.1]
  exact rng (by omega)
theorem t_kind (hA : EI A) (v : VMb E S B A.2.1) (x : Int32) {k : Nat} (hk : k ≤ 2) : sp_X8_isMethodOfKind fu E S B x (n32 k) = some (b2 (decide (0 ≤ x) && (decide (x.toNatClampNeg < mcnt A.2.1) && decide (mkin A.2.1 x.toNatClampNeg = k))), S) := by
  have h30 := hA.2.1.2.1
  unfold sp_X8_isMethodOfKind sp_X8_isMethod
  rw [v.2.1, rng (by omega), Option.bind_some, b2_if]
  rcases z_sgn x with h | ⟨n, hn, rfl⟩
  · rw [show decide (0 ≤ x) = false from by
      rw [decide_eq_false_iff_not, z_l32]
      rw [z_i32] at h
      omega]
    rfl
  · rw [n32_ge hn, z_nat hn, Bool.true_and, Bool.true_and]
    by_cases h : n < mcnt A.2.1
    · rw [if_pos (decide_eq_true h), if_pos (by rw [z_inb hn]; omega)]
      dsimp only
      rw [(v.2.2.2 n h).2.1, zi_eq (by have := (hA.2.1.2.2.2 n h).2.2.1; omega) (by omega), decide_eq_true h, Bool.true_and]
      by_cases e : mkin A.2.1 n = k
      · rw [if_pos e, decide_eq_true e]; rfl
      · rw [if_neg e, decide_eq_false e]; rfl
    · rw [if_neg (by rw [decide_eq_true_eq]; exact h), decide_eq_false h]; rfl
theorem t_op38 (hd : DI A.1) (v : VT E S T A.1) {x : Int32} : ((sp_X10_isType fu E S T x).bind fun u => if u.1 = 0 then some ((0 : Int32), u.2) else if 4 ≤ (x - x / 8 * 8) then some (0, u.2) else some (1, u.2)) = some (b2 (decide (0 ≤ x) && (isT A.1 x.toNatClampNeg && decide (x.toNatClampNeg % 8 < 4))), S) := by
  rw [t_typ hd v, Option.bind_some, b2_if]
  rcases z_sgn x with h | ⟨n, hn, rfl⟩
  · rw [show decide (0 ≤ x) = false from by
      rw [decide_eq_false_iff_not, z_l32]
      rw [z_i32] at h
      omega]
    rfl
  · rw [n32_ge hn, z_nat hn, Bool.true_and, Bool.true_and]
    cases isT A.1 n with
    | false => rfl
    | true =>
      rw [if_pos rfl, z_mod hn, show (4 : Int32) = n32 4 from rfl, zi_le (by decide) (by omega), Bool.true_and]
      by_cases h : 4 ≤ n % 8
      · rw [if_pos h, decide_eq_false (by omega)]; rfl
      · rw [if_neg h, decide_eq_true (by omega)]; rfl
theorem t_op44 (hd : DI A.1) (v : VT E S T A.1) {x : Int32} : ((sp_X10_isType fu E S T x).bind fun u => if u.1 = 0 then some ((0 : Int32), u.2) else (sp_X11_isReferenceType fu E u.2 x).bind fun w => if w.1 = 0 then some (0, w.2) else some (1, w.2)) = some (b2 (decide (0 ≤ x) && (isT A.1 x.toNatClampNeg && rfN x.toNatClampNeg)), S) := by
  rw [t_typ hd v, Option.bind_some, b2_if]
  dsimp only
  rw [t_rfT, Option.bind_some, b2_if]
  rcases z_sgn x with h | ⟨n, hn, rfl⟩
  · rw [show decide (0 ≤ x) = false from by
      rw [decide_eq_false_iff_not, z_l32]
      rw [z_i32] at h
      omega]
    rfl
  · rw [n32_ge hn, z_nat hn, Bool.true_and, Bool.true_and, rfT_n hn]
    cases isT A.1 n <;> cases rfN n <;> rfl
theorem t_opOk (hA : EI A) (v : VEnv E S (E.2 X 0) (E.2 X 1) (E.2 X 2) A) {op : Nat} (hop : op ≤ 45) (x : Int32) : sp_X2_isOperandAllowed fu E S X (n32 op) x = some (b2 (opOk A op x), S) := by
  have hl := hA.2.2.2.2.1
  have hd := hA.1
  have h100 := hA.2.2.2.2.2.1
  have h30 := hA.2.1.1
  have cl : S.1 (E.2 X 2) 3 = n32 (cloc A.2.2) := v.2.2.2.2.2.1
  have fc : S.1 (E.2 X 1) 2 = n32 (fcnt A.2.1) := v.2.1.1
  unfold sp_X2_isOperandAllowed opOk
  dsimp only
  rw [cl]
  by_cases h : op = 4
  · subst h
    rw [if_pos (show n32 4 = 4 from rfl), if_neg (show ¬ (4 = 5 ∨ 4 = 8) by decide), if_pos (show ((4 ≤ 4 ∧ 4 ≤ 9) ∨ 4 = 21) by decide)]
    exact rng (by omega)
  rw [if_neg (op_ne (k := 4) hop (by decide) h)]
  by_cases h : op = 5
  · subst h
    rw [if_pos (show n32 5 = 5 from rfl), if_pos (show (5 = 5 ∨ 5 = 8) by decide)]
    exact rng1 (by omega)
  rw [if_neg (op_ne (k := 5) hop (by decide) h)]
  by_cases h : op = 6
  · subst h
    rw [if_pos (show n32 6 = 6 from rfl), if_neg (show ¬ (6 = 5 ∨ 6 = 8) by decide), if_pos (show ((4 ≤ 6 ∧ 6 ≤ 9) ∨ 6 = 21) by decide)]
    exact rng (by omega)
  rw [if_neg (op_ne (k := 6) hop (by decide) h)]
  by_cases h : op = 7
  · subst h
    rw [if_pos (show n32 7 = 7 from rfl), if_neg (show ¬ (7 = 5 ∨ 7 = 8) by decide), if_pos (show ((4 ≤ 7 ∧ 7 ≤ 9) ∨ 7 = 21) by decide)]
    exact rng (by omega)
  rw [if_neg (op_ne (k := 7) hop (by decide) h)]
  by_cases h : op = 8
  · subst h
    rw [if_pos (show n32 8 = 8 from rfl), if_pos (show (8 = 5 ∨ 8 = 8) by decide)]
    exact rng1 (by omega)
  rw [if_neg (op_ne (k := 8) hop (by decide) h)]
  by_cases h : op = 9
  · subst h
    rw [if_pos (show n32 9 = 9 from rfl), if_neg (show ¬ (9 = 5 ∨ 9 = 8) by decide), if_pos (show ((4 ≤ 9 ∧ 9 ≤ 9) ∨ 9 = 21) by decide)]
    exact rng (by omega)
  rw [if_neg (op_ne (k := 9) hop (by decide) h)]
  by_cases h : op = 21
  · subst h
    rw [if_pos (show n32 21 = 21 from rfl), if_neg (show ¬ (21 = 5 ∨ 21 = 8) by decide), if_pos (show ((4 ≤ 21 ∧ 21 ≤ 9) ∨ 21 = 21) by decide)]
    exact rng (by omega)
  rw [if_neg (op_ne (k := 21) hop (by decide) h)]
  by_cases h : op = 22
  · subst h
    rw [if_pos (show n32 22 = 22 from rfl), if_neg (show ¬ (22 = 5 ∨ 22 = 8) by decide), if_neg (show ¬ ((4 ≤ 22 ∧ 22 ≤ 9) ∨ 22 = 21) by decide), if_pos (show (22 ≤ 22 ∧ 22 ≤ 26) by decide)]
    rw [t_idx v.2.2 h100, Option.bind_some, isB_ite]; rfl
  rw [if_neg (op_ne (k := 22) hop (by decide) h)]
  by_cases h : op = 23
  · subst h
    rw [if_pos (show n32 23 = 23 from rfl), if_neg (show ¬ (23 = 5 ∨ 23 = 8) by decide), if_neg (show ¬ ((4 ≤ 23 ∧ 23 ≤ 9) ∨ 23 = 21) by decide), if_pos (show (22 ≤ 23 ∧ 23 ≤ 26) by decide)]
    rw [t_idx v.2.2 h100, Option.bind_some, isB_ite]; rfl
  rw [if_neg (op_ne (k := 23) hop (by decide) h)]
  by_cases h : op = 24
  · subst h
    rw [if_pos (show n32 24 = 24 from rfl), if_neg (show ¬ (24 = 5 ∨ 24 = 8) by decide), if_neg (show ¬ ((4 ≤ 24 ∧ 24 ≤ 9) ∨ 24 = 21) by decide), if_pos (show (22 ≤ 24 ∧ 24 ≤ 26) by decide)]
    rw [t_idx v.2.2 h100, Option.bind_some, isB_ite]; rfl
  rw [if_neg (op_ne (k := 24) hop (by decide) h)]
  by_cases h : op = 25
  · subst h
    rw [if_pos (show n32 25 = 25 from rfl), if_neg (show ¬ (25 = 5 ∨ 25 = 8) by decide), if_neg (show ¬ ((4 ≤ 25 ∧ 25 ≤ 9) ∨ 25 = 21) by decide), if_pos (show (22 ≤ 25 ∧ 25 ≤ 26) by decide)]
    rw [t_idx v.2.2 h100, Option.bind_some, isB_ite]; rfl
  rw [if_neg (op_ne (k := 25) hop (by decide) h)]
  by_cases h : op = 26
  · subst h
    rw [if_pos (show n32 26 = 26 from rfl), if_neg (show ¬ (26 = 5 ∨ 26 = 8) by decide), if_neg (show ¬ ((4 ≤ 26 ∧ 26 ≤ 9) ∨ 26 = 21) by decide), if_pos (show (22 ≤ 26 ∧ 26 ≤ 26) by decide)]
    rw [t_idx v.2.2 h100, Option.bind_some, isB_ite]; rfl
  rw [if_neg (op_ne (k := 26) hop (by decide) h)]
  by_cases h : op = 32
  · subst h
    rw [if_pos (show n32 32 = 32 from rfl), if_neg (show ¬ (32 = 5 ∨ 32 = 8) by decide), if_neg (show ¬ ((4 ≤ 32 ∧ 32 ≤ 9) ∨ 32 = 21) by decide), if_neg (show ¬ (22 ≤ 32 ∧ 32 ≤ 26) by decide), if_pos (show (32 = 32 ∨ 32 = 33) by decide)]
    unfold sp_X8_isField
    rw [fc, rng (by omega), Option.bind_some, isB_ite]
  rw [if_neg (op_ne (k := 32) hop (by decide) h)]
  by_cases h : op = 33
  · subst h
    rw [if_pos (show n32 33 = 33 from rfl), if_neg (show ¬ (33 = 5 ∨ 33 = 8) by decide), if_neg (show ¬ ((4 ≤ 33 ∧ 33 ≤ 9) ∨ 33 = 21) by decide), if_neg (show ¬ (22 ≤ 33 ∧ 33 ≤ 26) by decide), if_pos (show (33 = 32 ∨ 33 = 33) by decide)]
    unfold sp_X8_isField
    rw [fc, rng (by omega), Option.bind_some, isB_ite]
  rw [if_neg (op_ne (k := 33) hop (by decide) h)]
  by_cases h : op = 34
  · subst h
    rw [if_pos (show n32 34 = 34 from rfl), if_neg (show ¬ (34 = 5 ∨ 34 = 8) by decide), if_neg (show ¬ ((4 ≤ 34 ∧ 34 ≤ 9) ∨ 34 = 21) by decide), if_neg (show ¬ (22 ≤ 34 ∧ 34 ≤ 26) by decide), if_neg (show ¬ (34 = 32 ∨ 34 = 33) by decide), if_pos (show 34 = 34 by decide)]
    rw [t_cls hd v.1, Option.bind_some, isB_ite]
  rw [if_neg (op_ne (k := 34) hop (by decide) h)]
  by_cases h : op = 35
  · subst h
    rw [if_pos (show n32 35 = 35 from rfl), if_neg (show ¬ (35 = 5 ∨ 35 = 8) by decide), if_neg (show ¬ ((4 ≤ 35 ∧ 35 ≤ 9) ∨ 35 = 21) by decide), if_neg (show ¬ (22 ≤ 35 ∧ 35 ≤ 26) by decide), if_neg (show ¬ (35 = 32 ∨ 35 = 33) by decide), if_neg (show ¬ 35 = 34 by decide), if_pos (show (35 ≤ 35 ∧ 35 ≤ 37) by decide)]
    rw [show (2 : Int32) = n32 2 from rfl, t_kind hA v.2.1 x (by decide), Option.bind_some, isB_ite]; rfl
  rw [if_neg (op_ne (k := 35) hop (by decide) h)]
  by_cases h : op = 36
  · subst h
    rw [if_pos (show n32 36 = 36 from rfl), if_neg (show ¬ (36 = 5 ∨ 36 = 8) by decide), if_neg (show ¬ ((4 ≤ 36 ∧ 36 ≤ 9) ∨ 36 = 21) by decide), if_neg (show ¬ (22 ≤ 36 ∧ 36 ≤ 26) by decide), if_neg (show ¬ (36 = 32 ∨ 36 = 33) by decide), if_neg (show ¬ 36 = 34 by decide), if_pos (show (35 ≤ 36 ∧ 36 ≤ 37) by decide)]
    rw [show (0 : Int32) = n32 0 from rfl, t_kind hA v.2.1 x (by decide), Option.bind_some, isB_ite]; rfl
  rw [if_neg (op_ne (k := 36) hop (by decide) h)]
  by_cases h : op = 37
  · subst h
    rw [if_pos (show n32 37 = 37 from rfl), if_neg (show ¬ (37 = 5 ∨ 37 = 8) by decide), if_neg (show ¬ ((4 ≤ 37 ∧ 37 ≤ 9) ∨ 37 = 21) by decide), if_neg (show ¬ (22 ≤ 37 ∧ 37 ≤ 26) by decide), if_neg (show ¬ (37 = 32 ∨ 37 = 33) by decide), if_neg (show ¬ 37 = 34 by decide), if_pos (show (35 ≤ 37 ∧ 37 ≤ 37) by decide)]
    rw [show (1 : Int32) = n32 1 from rfl, t_kind hA v.2.1 x (by decide), Option.bind_some, isB_ite]; rfl
  rw [if_neg (op_ne (k := 37) hop (by decide) h)]
  by_cases h : op = 38
  · subst h
    rw [if_pos (show n32 38 = 38 from rfl), if_neg (show ¬ (38 = 5 ∨ 38 = 8) by decide), if_neg (show ¬ ((4 ≤ 38 ∧ 38 ≤ 9) ∨ 38 = 21) by decide), if_neg (show ¬ (22 ≤ 38 ∧ 38 ≤ 26) by decide), if_neg (show ¬ (38 = 32 ∨ 38 = 33) by decide), if_neg (show ¬ 38 = 34 by decide), if_neg (show ¬ (35 ≤ 38 ∧ 38 ≤ 37) by decide), if_pos (show 38 = 38 by decide)]
    exact t_op38 hd v.1
  rw [if_neg (op_ne (k := 38) hop (by decide) h)]
  by_cases h : op = 44
  · subst h
    rw [if_pos (show n32 44 = 44 from rfl), if_neg (show ¬ (44 = 5 ∨ 44 = 8) by decide), if_neg (show ¬ ((4 ≤ 44 ∧ 44 ≤ 9) ∨ 44 = 21) by decide), if_neg (show ¬ (22 ≤ 44 ∧ 44 ≤ 26) by decide), if_neg (show ¬ (44 = 32 ∨ 44 = 33) by decide), if_neg (show ¬ 44 = 34 by decide), if_neg (show ¬ (35 ≤ 44 ∧ 44 ≤ 37) by decide), if_neg (show ¬ 44 = 38 by decide), if_pos (show (44 = 44 ∨ 44 = 45) by decide)]
    exact t_op44 hd v.1
  rw [if_neg (op_ne (k := 44) hop (by decide) h)]
  by_cases h : op = 45
  · subst h
    rw [if_pos (show n32 45 = 45 from rfl), if_neg (show ¬ (45 = 5 ∨ 45 = 8) by decide), if_neg (show ¬ ((4 ≤ 45 ∧ 45 ≤ 9) ∨ 45 = 21) by decide), if_neg (show ¬ (22 ≤ 45 ∧ 45 ≤ 26) by decide), if_neg (show ¬ (45 = 32 ∨ 45 = 33) by decide), if_neg (show ¬ 45 = 34 by decide), if_neg (show ¬ (35 ≤ 45 ∧ 45 ≤ 37) by decide), if_neg (show ¬ 45 = 38 by decide), if_pos (show (45 = 44 ∨ 45 = 45) by decide)]
    exact t_op44 hd v.1
  rw [if_neg (op_ne (k := 45) hop (by decide) h)]
  rw [if_neg (by omega), if_neg (by omega), if_neg (by omega), if_neg (by omega), if_neg (by omega), if_neg (by omega), if_neg (by omega), if_neg (by omega)]
  rfl
end XC
