/-! the law's own methods -/
theorem hc {o : Option ((String ⊕ Int32) × St)} {r : Int32} {S' : St} (e : o = some (.inr r, S')) (f : Int32 → St → Option (Int32 × St)) : (o.bind fun u => hcat u [] f) = f r S' := by rw [e]; rfl
theorem and_ge (x : Int32) : ∃ q, q < 2 ^ 31 ∧ x &&& 2147483647 = n32 q := by
  rcases z_sgn (x &&& 2147483647) with h | h
  · exfalso
    rw [z_i32] at h
    have m : (x &&& 2147483647).toBitVec.msb = false := by
      rw [Int32.toBitVec_and, BitVec.msb_and, show (2147483647 : Int32).toBitVec.msb = false from by decide, Bool.and_false]
    have k : 0 ≤ (x &&& 2147483647).toBitVec.toInt := by
      rw [BitVec.toInt_eq_msb_cond, m]
      simp
    exact absurd h (Int.not_lt.mpr k)
  · exact h
theorem and_1 (x : Int32) : x &&& 1 = 0 ∨ x &&& 1 = 1 := by
  have h : (x &&& 1).toBitVec.toNat = x.toBitVec.toNat % 2 := by
    rw [Int32.toBitVec_and, BitVec.toNat_and]
    exact Nat.and_two_pow_sub_one_eq_mod _ 1
  rcases Nat.mod_two_eq_zero_or_one x.toBitVec.toNat with e | e
  · exact Or.inl (Int32.toBitVec_inj.mp (BitVec.eq_of_toNat_eq (by rw [h, e]; rfl)))
  · exact Or.inr (Int32.toBitVec_inj.mp (BitVec.eq_of_toNat_eq (by rw [h, e]; rfl)))
theorem z_dvn {q n : Nat} (hq : q < 2 ^ 31) (hn : n < 2 ^ 31) : n32 q / n32 n = n32 (q / n) := by
  have h1 : q / n ≤ q := Nat.div_le_self q n
  rw [← Int32.toInt_inj, Int32.toInt_div_of_ne_right _ _ (by rw [ne_eq, z_ne1 hn]; exact id), z_int hq, z_int hn, z_int (by omega), Int.tdiv_eq_ediv_of_nonneg (Int.natCast_nonneg q)]
  rfl
section LOW
variable {E : Ev} {S : St} {a fu : Nat} {z : Zs}
theorem l_bel (x : Int32) {n : Nat} (h0 : 0 < n) (hn : n < 2 ^ 31) : ∃ t, t < n ∧ sp_L_below fu E S x (n32 n) = some (n32 t, S) := by
  obtain ⟨q, hq, e⟩ := and_ge x
  have d1 := Nat.div_add_mod' q n
  have d2 := Nat.mod_lt q h0
  refine ⟨q % n, d2, ?_⟩
  unfold sp_L_below
  rw [e, if_neg (show ¬ n32 n = 0 by rw [show (0 : Int32) = n32 0 from rfl, z_eq hn (by decide)]; omega), z_dvn hq hn, z_mul, z_sub (Nat.div_mul_le_self q n)]
  have : q - q / n * n = q % n := by
    generalize q / n * n = w at d1 ⊢
    omega
  rw [this]
theorem l_cel {xs : Nat → Int32} {n : Nat} (hn : n ≤ 260) {q : Nat} (hq : q < 2 ^ 31) : ∃ v, sp_L_cell xs n (n32 q) = some v := by
  unfold sp_L_cell
  by_cases c : n ≤ q
  · rw [if_pos (show n32 n ≤ n32 q by rw [z_le (by omega) hq]; exact c)]
    exact ⟨_, rfl⟩
  · rw [if_neg (show ¬ n32 n ≤ n32 q by rw [z_le (by omega) hq]; exact c), if_pos (by rw [z_inb hq]; omega)]
    exact ⟨_, rfl⟩
/-- an operation of the law's that answers a number -/
def MI1 (E : Ev) (a : Nat) (o : Option (Int32 × St)) (r : Int32) (z : Zs) : Prop := ∃ S', o = some (r, S') ∧ VX E S' a z
theorem l_em (L : LX E a) (hfu : 200 ≤ fu) (iz : IZ z) (vx : VX E S a z) (hs : cst z.1.2.2 = true) (hn : cn z.1.2.2 < 100) {n : Nat} (h0 : 0 < n) (h12 : n ≤ 12) (c : Int32) : ∃ op x, op ≤ 45 ∧ LwO n op x ∧ MI1 E a (sp_L_emit fu E S a c (n32 n)) (n32 (cn z.1.2.2)) (zEm z op x) := by
  obtain ⟨t1, h1, e1⟩ := l_bel (fu := fu) (E := E) (S := S) (c >>> (8 &&& 31)) (n := 3) (by decide) (by decide)
  obtain ⟨t2, h2, e2⟩ := l_bel (fu := fu) (E := E) (S := S) (c >>> (8 &&& 31)) h0 (show n < 2 ^ 31 by omega)
  obtain ⟨t3, h3, e3⟩ := l_bel (fu := fu) (E := E) (S := S) c (n := 16) (by decide) (by decide)
  have key : ∀ (op : Nat) (x : Int32), op ≤ 45 → LwO n op x → ∃ op' x', op' ≤ 45 ∧ LwO n op' x' ∧ MI1 E a ((sp_X11_emit fu E S a (n32 op) x).bind fun u => hcat u [] fun r S => some (r, S)) (n32 (cn z.1.2.2)) (zEm z op' x') := fun op x g1 g2 => by
    obtain ⟨S', e, v⟩ := m_em (x := x) L hfu iz vx hs g1 hn
    exact ⟨op, x, g1, g2, S', hc e _, v⟩
  unfold sp_L_emit
  rw [show sp_L_below fu E S (c >>> (8 &&& 31)) 3 = some (n32 t1, S) from e1, Option.bind_some]
  dsimp only
  rw [e2, Option.bind_some]
  dsimp only
  rw [show sp_L_below fu E S c 16 = some (n32 t3, S) from e3, Option.bind_some]
  dsimp only
  have w : t3 = 0 ∨ t3 = 1 ∨ t3 = 2 ∨ t3 = 3 ∨ t3 = 4 ∨ t3 = 5 ∨ t3 = 6 ∨ t3 = 7 ∨ t3 = 8 ∨ t3 = 9 ∨ t3 = 10 ∨ t3 = 11 ∨ t3 = 12 ∨ t3 = 13 ∨ t3 = 14 ∨ t3 = 15 := by omega
  rcases w with rfl | rfl | rfl | rfl | rfl | rfl | rfl | rfl | rfl | rfl | rfl | rfl | rfl | rfl | rfl | rfl
  · rw [if_pos (show n32 0 = 0 by decide)]
    exact key 1 0 (by decide) (Or.inl (by decide))
  · rw [if_neg (show ¬ n32 1 = 0 by decide), if_pos (show n32 1 = 1 by decide)]
    exact key 3 0 (by decide) (Or.inl (by decide))
  · rw [if_neg (show ¬ n32 2 = 0 by decide), if_neg (show ¬ n32 2 = 1 by decide), if_pos (show n32 2 = 2 by decide)]
    exact key 2 0 (by decide) (Or.inl (by decide))
  · rw [if_neg (show ¬ n32 3 = 0 by decide), if_neg (show ¬ n32 3 = 1 by decide), if_neg (show ¬ n32 3 = 2 by decide), if_pos (show n32 3 = 3 by decide)]
    exact key 4 (n32 t1) (by decide) (Or.inr (Or.inl ⟨by decide, t1, h1, rfl⟩))
  · rw [if_neg (show ¬ n32 4 = 0 by decide), if_neg (show ¬ n32 4 = 1 by decide), if_neg (show ¬ n32 4 = 2 by decide), if_neg (show ¬ n32 4 = 3 by decide), if_pos (show n32 4 = 4 by decide)]
    exact key 7 (n32 t1) (by decide) (Or.inr (Or.inl ⟨by decide, t1, h1, rfl⟩))
  · rw [if_neg (show ¬ n32 5 = 0 by decide), if_neg (show ¬ n32 5 = 1 by decide), if_neg (show ¬ n32 5 = 2 by decide), if_neg (show ¬ n32 5 = 3 by decide), if_neg (show ¬ n32 5 = 4 by decide), if_pos (show n32 5 = 5 by decide)]
    exact key 6 (n32 t1) (by decide) (Or.inr (Or.inl ⟨by decide, t1, h1, rfl⟩))
  · rw [if_neg (show ¬ n32 6 = 0 by decide), if_neg (show ¬ n32 6 = 1 by decide), if_neg (show ¬ n32 6 = 2 by decide), if_neg (show ¬ n32 6 = 3 by decide), if_neg (show ¬ n32 6 = 4 by decide), if_neg (show ¬ n32 6 = 5 by decide), if_pos (show n32 6 = 6 by decide)]
    exact key 9 (n32 t1) (by decide) (Or.inr (Or.inl ⟨by decide, t1, h1, rfl⟩))
  · rw [if_neg (show ¬ n32 7 = 0 by decide), if_neg (show ¬ n32 7 = 1 by decide), if_neg (show ¬ n32 7 = 2 by decide), if_neg (show ¬ n32 7 = 3 by decide), if_neg (show ¬ n32 7 = 4 by decide), if_neg (show ¬ n32 7 = 5 by decide), if_neg (show ¬ n32 7 = 6 by decide), if_pos (show n32 7 = 7 by decide)]
    exact key 10 0 (by decide) (Or.inl (by decide))
  · rw [if_neg (show ¬ n32 8 = 0 by decide), if_neg (show ¬ n32 8 = 1 by decide), if_neg (show ¬ n32 8 = 2 by decide), if_neg (show ¬ n32 8 = 3 by decide), if_neg (show ¬ n32 8 = 4 by decide), if_neg (show ¬ n32 8 = 5 by decide), if_neg (show ¬ n32 8 = 6 by decide), if_neg (show ¬ n32 8 = 7 by decide), if_pos (show n32 8 = 8 by decide)]
    exact key 23 (n32 t2) (by decide) (Or.inr (Or.inr (Or.inl ⟨by decide, t2, h2, rfl⟩)))
  · rw [if_neg (show ¬ n32 9 = 0 by decide), if_neg (show ¬ n32 9 = 1 by decide), if_neg (show ¬ n32 9 = 2 by decide), if_neg (show ¬ n32 9 = 3 by decide), if_neg (show ¬ n32 9 = 4 by decide), if_neg (show ¬ n32 9 = 5 by decide), if_neg (show ¬ n32 9 = 6 by decide), if_neg (show ¬ n32 9 = 7 by decide), if_neg (show ¬ n32 9 = 8 by decide), if_pos (show n32 9 = 9 by decide)]
    exact key 22 (n32 t2) (by decide) (Or.inr (Or.inr (Or.inl ⟨by decide, t2, h2, rfl⟩)))
  · rw [if_neg (show ¬ n32 10 = 0 by decide), if_neg (show ¬ n32 10 = 1 by decide), if_neg (show ¬ n32 10 = 2 by decide), if_neg (show ¬ n32 10 = 3 by decide), if_neg (show ¬ n32 10 = 4 by decide), if_neg (show ¬ n32 10 = 5 by decide), if_neg (show ¬ n32 10 = 6 by decide), if_neg (show ¬ n32 10 = 7 by decide), if_neg (show ¬ n32 10 = 8 by decide), if_neg (show ¬ n32 10 = 9 by decide), if_pos (show n32 10 = 10 by decide)]
    rcases and_1 (c >>> (8 &&& 31)) with w | w
    · rw [w]; exact key 34 3 (by decide) (Or.inr (Or.inr (Or.inr (Or.inl ⟨rfl, Or.inl rfl⟩))))
    · rw [w]; exact key 34 4 (by decide) (Or.inr (Or.inr (Or.inr (Or.inl ⟨rfl, Or.inr rfl⟩))))
  · rw [if_neg (show ¬ n32 11 = 0 by decide), if_neg (show ¬ n32 11 = 1 by decide), if_neg (show ¬ n32 11 = 2 by decide), if_neg (show ¬ n32 11 = 3 by decide), if_neg (show ¬ n32 11 = 4 by decide), if_neg (show ¬ n32 11 = 5 by decide), if_neg (show ¬ n32 11 = 6 by decide), if_neg (show ¬ n32 11 = 7 by decide), if_neg (show ¬ n32 11 = 8 by decide), if_neg (show ¬ n32 11 = 9 by decide), if_neg (show ¬ n32 11 = 10 by decide), if_pos (show n32 11 = 11 by decide)]
    rcases and_1 (c >>> (8 &&& 31)) with w | w
    · rw [w]; exact key 35 1 (by decide) (Or.inr (Or.inr (Or.inr (Or.inr (Or.inl ⟨rfl, Or.inl rfl⟩)))))
    · rw [w]; exact key 35 2 (by decide) (Or.inr (Or.inr (Or.inr (Or.inr (Or.inl ⟨rfl, Or.inr rfl⟩)))))
  · rw [if_neg (show ¬ n32 12 = 0 by decide), if_neg (show ¬ n32 12 = 1 by decide), if_neg (show ¬ n32 12 = 2 by decide), if_neg (show ¬ n32 12 = 3 by decide), if_neg (show ¬ n32 12 = 4 by decide), if_neg (show ¬ n32 12 = 5 by decide), if_neg (show ¬ n32 12 = 6 by decide), if_neg (show ¬ n32 12 = 7 by decide), if_neg (show ¬ n32 12 = 8 by decide), if_neg (show ¬ n32 12 = 9 by decide), if_neg (show ¬ n32 12 = 10 by decide), if_neg (show ¬ n32 12 = 11 by decide), if_pos (show n32 12 = 12 by decide)]
    exact key 12 0 (by decide) (Or.inl (by decide))
  · rw [if_neg (show ¬ n32 13 = 0 by decide), if_neg (show ¬ n32 13 = 1 by decide), if_neg (show ¬ n32 13 = 2 by decide), if_neg (show ¬ n32 13 = 3 by decide), if_neg (show ¬ n32 13 = 4 by decide), if_neg (show ¬ n32 13 = 5 by decide), if_neg (show ¬ n32 13 = 6 by decide), if_neg (show ¬ n32 13 = 7 by decide), if_neg (show ¬ n32 13 = 8 by decide), if_neg (show ¬ n32 13 = 9 by decide), if_neg (show ¬ n32 13 = 10 by decide), if_neg (show ¬ n32 13 = 11 by decide), if_neg (show ¬ n32 13 = 12 by decide), if_pos (show n32 13 = 13 by decide)]
    exact key 25 (n32 t2) (by decide) (Or.inr (Or.inr (Or.inl ⟨by decide, t2, h2, rfl⟩)))
  · rw [if_neg (show ¬ n32 14 = 0 by decide), if_neg (show ¬ n32 14 = 1 by decide), if_neg (show ¬ n32 14 = 2 by decide), if_neg (show ¬ n32 14 = 3 by decide), if_neg (show ¬ n32 14 = 4 by decide), if_neg (show ¬ n32 14 = 5 by decide), if_neg (show ¬ n32 14 = 6 by decide), if_neg (show ¬ n32 14 = 7 by decide), if_neg (show ¬ n32 14 = 8 by decide), if_neg (show ¬ n32 14 = 9 by decide), if_neg (show ¬ n32 14 = 10 by decide), if_neg (show ¬ n32 14 = 11 by decide), if_neg (show ¬ n32 14 = 12 by decide), if_neg (show ¬ n32 14 = 13 by decide), if_pos (show n32 14 = 14 by decide)]
    rw [show sp_L_below fu E S (c >>> (8 &&& 31)) 3 = some (n32 t1, S) from e1, Option.bind_some]
    dsimp only
    have w : t1 = 0 ∨ t1 = 1 ∨ t1 = 2 := by omega
    rcases w with rfl | rfl | rfl
    · exact key 44 16 (by decide) (Or.inr (Or.inr (Or.inr (Or.inr (Or.inr ⟨rfl, Or.inl rfl⟩)))))
    · exact key 44 24 (by decide) (Or.inr (Or.inr (Or.inr (Or.inr (Or.inr ⟨rfl, Or.inr (Or.inl rfl)⟩)))))
    · exact key 44 32 (by decide) (Or.inr (Or.inr (Or.inr (Or.inr (Or.inr ⟨rfl, Or.inr (Or.inr rfl)⟩)))))
  · rw [if_neg (show ¬ n32 15 = 0 by decide), if_neg (show ¬ n32 15 = 1 by decide), if_neg (show ¬ n32 15 = 2 by decide), if_neg (show ¬ n32 15 = 3 by decide), if_neg (show ¬ n32 15 = 4 by decide), if_neg (show ¬ n32 15 = 5 by decide), if_neg (show ¬ n32 15 = 6 by decide), if_neg (show ¬ n32 15 = 7 by decide), if_neg (show ¬ n32 15 = 8 by decide), if_neg (show ¬ n32 15 = 9 by decide), if_neg (show ¬ n32 15 = 10 by decide), if_neg (show ¬ n32 15 = 11 by decide), if_neg (show ¬ n32 15 = 12 by decide), if_neg (show ¬ n32 15 = 13 by decide), if_neg (show ¬ n32 15 = 14 by decide)]
    exact key 30 0 (by decide) (Or.inl (by decide))
/-- the frame's longs are whole -/
theorem wh_S (iz : IZ z) (vx : VX E S a z) {n : Nat} (hn : n < cn z.1.2.2) {y : Fr} (hy : zI z n = some y) (ps : PrS y.2.1 y.2.2.1) (h4 : y.2.2.1 ≤ 4) : ∀ (k i F : Nat), i + k = y.2.2.1 → k + 1 ≤ F → lp_L_isWhole_61 fu E a F (n32 n) (n32 i) S = some (1, S) := by
  have eh := m_hgt (fu := fu) iz vx hn hy
  intro k
  induction k with
  | zero =>
    intro i F hk hF
    obtain ⟨F, rfl⟩ : ∃ z, F = z + 1 := ⟨F - 1, by omega⟩
    show bd_L_isWhole_61 fu E a _ (n32 n) (n32 i) S = _
    unfold bd_L_isWhole_61
    rw [hc eh, zi_le (by omega) (by omega), if_pos (by omega), hc eh, show (4 : Int32) = n32 4 from rfl, zi_lt (by decide) (by omega), if_neg (by omega)]
  | succ k ih =>
    intro i F hk hF
    obtain ⟨F, rfl⟩ : ∃ z, F = z + 1 := ⟨F - 1, by omega⟩
    have hi : i < y.2.2.1 := by omega
    have next := ih (i + 1) F (by omega) (by omega)
    have p := ps i hi
    show bd_L_isWhole_61 fu E a (lp_L_isWhole_61 fu E a F) (n32 n) (n32 i) S = _
    unfold bd_L_isWhole_61
    rw [hc eh, zi_le (by omega) (by omega), if_neg (by omega), hc (m_ssl iz vx hn hy hi), show n32 i + 1 = n32 (i + 1) from z_add i 1]
    by_cases c : y.2.1 i = 8
    · obtain ⟨g1, g2⟩ := p.1 c
      rw [if_pos c, hc eh, zi_le (by omega) (by omega), if_neg (by omega), hc (m_ssl iz vx hn hy g1), if_pos g2, if_pos rfl]
      exact next
    · rw [if_neg c, hc eh, zi_le (by omega) (by omega)]
      by_cases c2 : y.2.2.1 ≤ i + 1
      · rw [if_pos c2, if_pos rfl]; exact next
      · have g1 : i + 1 < y.2.2.1 := by omega
        rw [if_neg c2, hc (m_ssl iz vx hn hy g1), if_neg (fun w => c ((ps (i + 1) g1).2 w).2), if_pos rfl]
        exact next
theorem wh_L (iz : IZ z) (vx : VX E S a z) (hl : cloc z.1.2.2 = 3) {n : Nat} (hn : n < cn z.1.2.2) {y : Fr} (hy : zI z n = some y) (vy : VOk y) : ∀ (k i F : Nat), i + k = 3 → k + 1 ≤ F → lp_L_isWhole_2 fu E a F (n32 n) (n32 i) S = lp_L_isWhole_61 fu E a 14 (n32 n) 0 S := by
  have n8 : ∀ i, i < 12 → ¬ y.1 i = 8 := fun i hi e => by
    have := vy.1 i hi
    rw [e] at this
    rcases this with h | h | h | h | h | h | h <;> exact absurd h (by decide)
  have n3 : ∀ i, i < 12 → ¬ y.1 i = -3 := fun i hi e => by
    have := vy.1 i hi
    rw [e] at this
    rcases this with h | h | h | h | h | h | h <;> exact absurd h (by decide)
  intro k
  induction k with
  | zero =>
    intro i F hk hF
    obtain ⟨F, rfl⟩ : ∃ z, F = z + 1 := ⟨F - 1, by omega⟩
    show bd_L_isWhole_2 fu E a _ (n32 n) (n32 i) S = _
    unfold bd_L_isWhole_2
    rw [if_pos (show (3 : Int32) ≤ n32 i by rw [show (3 : Int32) = n32 3 from rfl, z_le (by decide) (by omega)]; omega)]
  | succ k ih =>
    intro i F hk hF
    obtain ⟨F, rfl⟩ : ∃ z, F = z + 1 := ⟨F - 1, by omega⟩
    have next := ih (i + 1) F (by omega) (by omega)
    show bd_L_isWhole_2 fu E a (lp_L_isWhole_2 fu E a F) (n32 n) (n32 i) S = _
    unfold bd_L_isWhole_2
    rw [if_neg (show ¬ (3 : Int32) ≤ n32 i by rw [show (3 : Int32) = n32 3 from rfl, z_le (by decide) (by omega)]; omega), hc (m_lsl iz vx hn hy (k := i) (by omega)), if_neg (n8 i (by omega)), show n32 i + 1 = n32 (i + 1) from z_add i 1]
    by_cases c : i = 2
    · rw [if_pos (show (2 : Int32) ≤ n32 i by rw [show (2 : Int32) = n32 2 from rfl, z_le (by decide) (by omega)]; omega), if_pos rfl]
      exact next
    · rw [if_neg (show ¬ (2 : Int32) ≤ n32 i by rw [show (2 : Int32) = n32 2 from rfl, z_le (by decide) (by omega)]; omega), hc (m_lsl iz vx hn hy (k := i + 1) (by omega)), if_neg (n3 (i + 1) (by omega)), if_pos rfl]
      exact next
theorem l_wh (iz : IZ z) (vx : VX E S a z) (hl : cloc z.1.2.2 = 3) (hm : cmost z.1.2.2 = 4) {n : Nat} (hn : n < cn z.1.2.2) {y : Fr} (hy : zI z n = some y) (vy : VOk y) : sp_L_isWhole fu E S a (n32 n) = some (1, S) := by
  have h100 := iz.1.2.2.2.2.2.1
  have wx : WX z.1 y := iz.2.2.2.1 n y (by omega) hy
  have h4 : y.2.2.1 ≤ 4 := by
    have := wx.2.2.2.1
    rw [hm] at this
    exact this
  unfold sp_L_isWhole
  refine (wh_L iz vx hl hn hy vy 3 0 5 (by omega) (by omega)).trans ?_
  exact wh_S iz vx hn hy wx.2.2.1 h4 y.2.2.1 0 14 (by omega) (by omega)
end LOW
