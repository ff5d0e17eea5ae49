/-! the reference looks at operands -/
section XR
variable {E : Ev} {S : St} {m fu : Nat} {A : Enw}
theorem r_jmp {op : Nat} (hop : op ≤ 45) : sp_X12_isJump fu E S (n32 op) = some (b2 (decide (22 ≤ op ∧ op ≤ 26)), S) := by
  unfold sp_X12_isJump
  rw [show (22 : Int32) = n32 22 from rfl, zi_lt (by omega) (by decide), show (26 : Int32) = n32 26 from rfl, zi_lt (by decide) (by omega)]
  by_cases h : op < 22
  · rw [if_pos h, decide_eq_false (by omega)]; rfl
  · rw [if_neg h]
    by_cases h2 : 26 < op
    · rw [if_pos h2, decide_eq_false (by omega)]; rfl
    · rw [if_neg h2, decide_eq_true (by omega)]; rfl
theorem r_op38 (hd : DI A.1) (v : VRt E S m A.1) {x : Int32} : ((sp_X12_isType fu E S m x).bind fun u => if u.1 = 0 then some ((0 : Int32), u.2) else if 4 ≤ (x - x / 8 * 8) then some (0, u.2) else some (1, u.2)) = some (b2 (decide (0 ≤ x) && (isT A.1 x.toNatClampNeg && decide (x.toNatClampNeg % 8 < 4))), S) := by
  rw [r_typ hd v, Option.bind_some, b2_if]
  rcases z_sgn x with h | ⟨n, hn, rfl⟩
  · rw [show decide (0 ≤ x) = false from by
      rw [decide_eq_false_iff_not, z_l32]
      rw [z_i32] at h
      omega]
    rfl
  · rw [n32_ge hn, z_nat hn, Bool.true_and, Bool.true_and]
    cases isT A.1 n with
    | false => rfl
    | true =>
      rw [if_pos rfl, z_mod hn, show (4 : Int32) = n32 4 from rfl, zi_le (by decide) (by omega), Bool.true_and]
      by_cases h : 4 ≤ n % 8
      · rw [if_pos h, decide_eq_false (by omega)]; rfl
      · rw [if_neg h, decide_eq_true (by omega)]; rfl
theorem r_op44 (hd : DI A.1) (v : VRt E S m A.1) {x : Int32} : jb_X12_isOperand_233 fu E m x S = some (b2 (decide (0 ≤ x) && (isT A.1 x.toNatClampNeg && rfN x.toNatClampNeg)), S) := by
  unfold jb_X12_isOperand_233
  rcases z_sgn x with h | ⟨n, hn, rfl⟩
  · have h0 : decide (0 ≤ x) = false := by
      rw [decide_eq_false_iff_not, z_l32]
      rw [z_i32] at h
      omega
    unfold sp_X12_isReferenceType
    rw [r_neg hd v h, h0]
    rfl
  · rw [r_rfN hd v hn, Option.bind_some, b2_if, n32_ge hn, z_nat hn, Bool.true_and]
    cases (isT A.1 n && rfN n) <;> rfl
theorem r_opOk (hA : EI A) (v : VRe E S m A) {op : Nat} (hop : op ≤ 45) (x : Int32) : sp_X12_isOperand fu E S m (n32 op) x = some (b2 (opOk A op x), S) := by
  have hl := hA.2.2.2.2.1
  have hd := hA.1
  have h100 := hA.2.2.2.2.2.1
  have h30 := hA.2.1.1
  have h30m := hA.2.1.2.1
  have cl : S.1 m 18 = n32 (cloc A.2.2) := v.2.2.2.2.2.1
  have fc : S.1 m 4 = n32 (fcnt A.2.1) := v.2.1.1
  have cnn : S.1 m 19 = n32 (cn A.2.2) := v.2.2.2.2.2.2.1
  have mc : S.1 m 7 = n32 (mcnt A.2.1) := v.2.1.2.1
  have rng18 : jb_X12_isOperand_48 fu E m x S = some (b2 (decide (0 ≤ x) && decide (x.toNatClampNeg < cloc A.2.2)), S) := by
    unfold jb_X12_isOperand_48
    rw [cl]; exact rng (by omega)
  have rng11 : jb_X12_isOperand_11 fu E m x S = some (b2 (decide (0 ≤ x) && decide (x.toNatClampNeg + 1 < cloc A.2.2)), S) := by
    unfold jb_X12_isOperand_11
    rw [cl]; exact rng1 (by omega)
  have rng103 : jb_X12_isOperand_103 fu E m x S = some (b2 (decide (0 ≤ x) && decide (x.toNatClampNeg < fcnt A.2.1)), S) := by
    unfold jb_X12_isOperand_103
    rw [fc]; exact rng (by omega)
  unfold sp_X12_isOperand
  by_cases h : op = 5
  · subst h
    rw [if_pos (show n32 5 = 5 from rfl), rng11]; rfl
  rw [if_neg (op_ne (k := 5) hop (by decide) h)]
  by_cases h' : op = 8
  · subst h'
    rw [if_pos (show n32 8 = 8 from rfl), rng11]; rfl
  rw [if_neg (op_ne (k := 8) hop (by decide) h'), show (4 : Int32) = n32 4 from rfl, zi_lt (by omega) (by decide), show (9 : Int32) = n32 9 from rfl, zi_le (by omega) (by decide)]
  unfold opOk
  dsimp only
  rw [if_neg (show ¬ (op = 5 ∨ op = 8) by omega)]
  by_cases k1 : 4 ≤ op ∧ op ≤ 9
  · rw [if_neg (show ¬ op < 4 by omega), if_pos k1.2, rng18, if_pos (Or.inl k1)]
  have e42 : (if op < 4 then jb_X12_isOperand_42 fu E m (n32 op) x S else if op ≤ 9 then jb_X12_isOperand_48 fu E m x S else jb_X12_isOperand_42 fu E m (n32 op) x S) = jb_X12_isOperand_42 fu E m (n32 op) x S := by
    by_cases q : op < 4
    · rw [if_pos q]
    · rw [if_neg q, if_neg (show ¬ op ≤ 9 by omega)]
  rw [e42]
  unfold jb_X12_isOperand_42
  by_cases h21 : op = 21
  · subst h21
    rw [if_pos (show n32 21 = 21 from rfl), rng18]; rfl
  rw [if_neg (op_ne (k := 21) hop (by decide) h21), if_neg (show ¬ ((4 ≤ op ∧ op ≤ 9) ∨ op = 21) from fun z => z.elim k1 h21), r_jmp hop, Option.bind_some, b2_if]
  by_cases k2 : 22 ≤ op ∧ op ≤ 26
  · rw [if_pos (decide_eq_true k2), if_pos k2]
    dsimp only
    rw [cnn]; exact rng (by omega)
  rw [if_neg (by rw [decide_eq_true_eq]; exact k2), if_neg k2]
  dsimp only
  by_cases h32 : op = 32
  · subst h32
    rw [if_pos (show n32 32 = 32 from rfl), rng103]; rfl
  rw [if_neg (op_ne (k := 32) hop (by decide) h32)]
  by_cases h33 : op = 33
  · subst h33
    rw [if_pos (show n32 33 = 33 from rfl), rng103]; rfl
  rw [if_neg (op_ne (k := 33) hop (by decide) h33), if_neg (show ¬ (op = 32 ∨ op = 33) from fun z => z.elim h32 h33)]
  by_cases h34 : op = 34
  · subst h34
    rw [if_pos (show n32 34 = 34 from rfl), r_cls hd v.1, Option.bind_some, isB_ite]; rfl
  rw [if_neg (op_ne (k := 34) hop (by decide) h34), if_neg h34, show (35 : Int32) = n32 35 from rfl, zi_lt (by omega) (by decide), show (37 : Int32) = n32 37 from rfl, zi_lt (by decide) (by omega)]
  by_cases k3 : 35 ≤ op ∧ op ≤ 37
  · rw [if_neg (show ¬ op < 35 by omega), if_neg (show ¬ 37 < op by omega), if_pos k3, mc]
    rcases z_sgn x with hx | ⟨n, hn, rfl⟩
    · rw [if_pos hx, show decide (0 ≤ x) = false from by
        rw [decide_eq_false_iff_not, z_l32]
        rw [z_i32] at hx
        omega]
      rfl
    · rw [zi_nlt hn, zi_le (by omega) hn, n32_ge hn, z_nat hn, Bool.true_and]
      by_cases hm : mcnt A.2.1 ≤ n
      · rw [if_pos hm, decide_eq_false (by omega)]; rfl
      · have hm' : n < mcnt A.2.1 := by omega
        have mk := (hA.2.1.2.2.2 n hm').2.2.1
        have key : ∀ q : Nat, q ≤ 2 → (if n32 (mkin A.2.1 n) = n32 q then some ((1 : Int32), S) else some (0, S)) = some (b2 (decide (mkin A.2.1 n = q)), S) := by
          intro q hq
          rw [zi_eq (by omega) (by omega)]
          by_cases e : mkin A.2.1 n = q
          · rw [if_pos e, decide_eq_true e]; rfl
          · rw [if_neg e, decide_eq_false e]; rfl
        rw [if_neg hm, if_pos (by rw [z_inb hn]; omega), (v.2.1.2.2.2 n hm').2.1, decide_eq_true hm', Bool.true_and]
        by_cases h35 : op = 35
        · subst h35
          rw [if_pos rfl]; exact key 2 (by decide)
        · rw [if_neg (by rw [z_eq (by omega) (by decide)]; exact h35), if_neg h35]
          by_cases h36 : op = 36
          · subst h36
            rw [if_pos (show n32 36 = 36 from rfl)]; exact key 0 (by decide)
          · rw [if_neg (op_ne (k := 36) hop (by decide) h36), if_neg h36]; exact key 1 (by decide)
  have e193 : (if op < 35 then jb_X12_isOperand_193 fu E m (n32 op) x S else if 37 < op then jb_X12_isOperand_193 fu E m (n32 op) x S else none) = jb_X12_isOperand_193 fu E m (n32 op) x S := by
    by_cases q : op < 35
    · rw [if_pos q]
    · rw [if_neg q, if_pos (by omega)]
  have go : ∀ o : Option (Int32 × St), (if op < 35 then jb_X12_isOperand_193 fu E m (n32 op) x S else if 37 < op then jb_X12_isOperand_193 fu E m (n32 op) x S else o) = jb_X12_isOperand_193 fu E m (n32 op) x S := by
    intro o
    by_cases q : op < 35
    · rw [if_pos q]
    · rw [if_neg q, if_pos (by omega)]
  rw [go, if_neg k3]
  unfold jb_X12_isOperand_193
  by_cases h38 : op = 38
  · subst h38
    rw [if_pos (show n32 38 = 38 from rfl), if_pos rfl]
    exact r_op38 hd v.1
  rw [if_neg (op_ne (k := 38) hop (by decide) h38), if_neg h38]
  by_cases h44 : op = 44
  · subst h44
    rw [if_pos (show n32 44 = 44 from rfl), r_op44 hd v.1]; rfl
  rw [if_neg (op_ne (k := 44) hop (by decide) h44)]
  by_cases h45 : op = 45
  · subst h45
    rw [if_pos (show n32 45 = 45 from rfl), r_op44 hd v.1]; rfl
  rw [if_neg (op_ne (k := 45) hop (by decide) h45), if_neg (show ¬ (op = 44 ∨ op = 45) from fun z => z.elim h44 h45)]
  rfl
end XR
