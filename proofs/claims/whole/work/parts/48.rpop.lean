/-! the reference's pops and pushes -/
section RQ
variable {E : Ev} {m fu i k : Nat} {A : Enw} {S : St} {y : Ms}
theorem aPop_e (h : y.2 ≠ 0) : aPop y = (-2, y) := by
  unfold aPop
  rw [if_pos h]
theorem aPop_0 (h : y.2 = 0) (h0 : y.1.2.2.1 = 0) : aPop y = (-2, (y.1, 3)) := by
  unfold aPop
  rw [if_neg (fun z => z h), if_pos h0]
theorem aPop_1 (h : y.2 = 0) (h0 : 0 < y.1.2.2.1) : aPop y = (y.1.2.1 (y.1.2.2.1 - 1), ((y.1.1, y.1.2.1, y.1.2.2.1 - 1, y.1.2.2.2), 0)) := by
  unfold aPop
  rw [if_neg (fun z => z h), if_neg (by omega)]
theorem rx_top0 {x : Fr} (v : VN E S m x) (h12 : x.2.2.1 ≤ 12) (hj : 0 < x.2.2.1) : sp_X12_top fu E S m 0 = some (x.2.1 (x.2.2.1 - 1), S) := rx_top (j := 0) v h12 hj
theorem rx_top1 {x : Fr} (v : VN E S m x) (h12 : x.2.2.1 ≤ 12) (hj : 1 < x.2.2.1) : sp_X12_top fu E S m 1 = some (x.2.1 (x.2.2.1 - 2), S) := rx_top (j := 1) v h12 hj
/-- is there a slot, or two? -/
theorem rx_hasE (v : RM E S m A i k y) (h6 : y.2 ≠ 6) (h : y.2 ≠ 0) {n : Int32} : sp_X12_has fu E S m n = some (0, S) := by
  unfold sp_X12_has
  rw [rx_well, show (S.1 m 35 == 0) = false from beq_eq_false_iff_ne.mpr (rm_e v h6 h).2, Option.bind_some, b2_if, if_neg (by decide)]
  dsimp only
  rw [rx_well, show (S.1 m 35 == 0) = false from beq_eq_false_iff_ne.mpr (rm_e v h6 h).2, Option.bind_some]
  rfl
theorem rx_hasT (v : RM E S m A i k y) (h : y.2 = 0) {n : Nat} (hn : n ≤ y.1.2.2.1) : sp_X12_has fu E S m (n32 n) = some (1, S) := by
  have h12 := (v.2.2.2.1 h).2.2.2
  unfold sp_X12_has
  rw [rx_well, rm_0 v h, Option.bind_some, b2_if, if_pos (by decide)]
  dsimp only
  rw [c24, (v.2.2.2.1 h).1.2.2.1, zi_le (by omega) (by omega), if_pos hn, rx_well, rm_0 v h, Option.bind_some]
  rfl
theorem rx_hasF (L : LR E m) (v : RM E S m A i k y) (h : y.2 = 0) {n : Nat} (hn : y.1.2.2.1 < n) (h2 : n ≤ 2) (z : Fr) : ∃ S1, sp_X12_has fu E S m (n32 n) = some (0, S1) ∧ RM E S1 m A i k (z, 3) ∧ AgL E m [35, 36] [39] S S1 ∧ S1.1 m 35 ≠ 0 := by
  have h12 := (v.2.2.2.1 h).2.2.2
  have K := rm_fail L v h (kd := 3) (by decide) z
  have e35 : (sF (sF S m 35 3) m 36 (S.1 m 43)).1 m 35 = 3 := (K.1.2.2.1 (show (3 : Int32) ≠ 6 by decide)).1
  refine ⟨_, ?_, K.1, K.2, by rw [e35]; decide⟩
  unfold sp_X12_has
  rw [rx_well, rm_0 v h, Option.bind_some, b2_if, if_pos (by decide)]
  dsimp only
  rw [c24, (v.2.2.2.1 h).1.2.2.1, zi_le (by omega) (by omega), if_neg (by omega), rx_fail (rm_0 v h), Option.bind_some]
  rw [rx_well, e35, Option.bind_some]
  rfl
theorem rx_has1 (L : LR E m) (v : RM E S m A i k y) (h6 : y.2 ≠ 6) : (∃ S1, sp_X12_has fu E S m 1 = some (0, S1) ∧ RM E S1 m A i k (aPop y).2 ∧ AgL E m [35, 36] [39] S S1 ∧ S1.1 m 35 ≠ 0 ∧ (aPop y).2.2 ≠ 0 ∧ (aPop y).2.2 ≠ 6 ∧ (aPop y).1 = -2) ∨ (y.2 = 0 ∧ 0 < y.1.2.2.1 ∧ sp_X12_has fu E S m 1 = some (1, S)) := by
  by_cases h : y.2 = 0
  · by_cases h0 : y.1.2.2.1 = 0
    · obtain ⟨S1, e, v1, a1, n1⟩ := rx_hasF (fu := fu) (n := 1) L v h (by omega) (by decide) y.1
      refine Or.inl ⟨S1, e, ?_, a1, n1, ?_⟩
      · rw [aPop_0 h h0]; exact v1
      · rw [aPop_0 h h0]; exact ⟨(by decide : (3 : Int32) ≠ 0), (by decide : (3 : Int32) ≠ 6), rfl⟩
    · exact Or.inr ⟨h, by omega, rx_hasT (n := 1) v h (by omega)⟩
  · refine Or.inl ⟨S, rx_hasE v h6 h, ?_, agl_refl, (rm_e v h6 h).2, ?_⟩
    · rw [aPop_e h]; exact v
    · rw [aPop_e h]; exact ⟨h, h6, rfl⟩
/-- one slot is looked at and taken -/
theorem rx_rd1 (hfu : 30 ≤ fu) (L : LR E m) (v : RM E S m A i k y) (h : y.2 = 0) (hh : 0 < y.1.2.2.1) (c : Bool) : ∃ S1 S' r', sp_X12_require fu E S m (b2 c) = some S1 ∧ sp_X12_drop fu E S1 m 1 = some (r', S') ∧ RM E S' m A i k (aReq c 4 (aPop y).2) ∧ AgL E m [35, 36] [39] S S' ∧ ((aReq c 4 (aPop y).2).2 = 0 → r' = (aPop y).1) ∧ svA A.1 r' := by
  have w := (v.2.2.2.1 h).2
  rw [aPop_1 h hh]
  unfold sp_X12_require
  cases c with
  | true =>
    obtain ⟨S', e, v', a'⟩ := rx_drop hfu L v h (n := 1) (by omega) (by decide)
    refine ⟨S, S', _, by rw [if_neg (by decide)], e, ?_, a', fun _ => rfl, w.2.1 _ (by omega)⟩
    rw [aReq_t]; exact v'
  | false =>
    have K := rm_fail L v h (kd := 4) (by decide) (y.1.1, y.1.2.1, y.1.2.2.1 - 1, y.1.2.2.2)
    have e35 : (sF (sF S m 35 4) m 36 (S.1 m 43)).1 m 35 = 4 := (K.1.2.2.1 (show (4 : Int32) ≠ 6 by decide)).1
    refine ⟨sF (sF S m 35 4) m 36 (S.1 m 43), _, -2, ?_, rx_dropE (by rw [e35]; decide), ?_, K.2, ?_, sv_top⟩
    · rw [if_pos (show b2 false = 0 from rfl), rx_fail (rm_0 v h)]; rfl
    · rw [aReq_f rfl]; exact K.1
    · rw [aReq_f rfl]; intro z; exact absurd z (show ¬ (4 : Int32) = 0 by decide)
theorem aPopC_eq {c : Int32 → Bool} : aPopC c y = ((aPop y).1, aReq (c (aPop y).1) 4 (aPop y).2) := rfl
/-- the shape of all pops of one slot -/
theorem rx_pop {β : Type} (hfu : 30 ≤ fu) (L : LR E m) (v : RM E S m A i k y) (h6 : y.2 ≠ 6) (c : Int32 → Bool) (kk : Int32 × St → Option β) (g : Int32 × St → Option β) (hg0 : ∀ S1, g (0, S1) = (sp_X12_drop fu E S1 m 1).bind kk) (hg1 : y.2 = 0 → 0 < y.1.2.2.1 → g (1, S) = (sp_X12_require fu E S m (b2 (c (y.1.2.1 (y.1.2.2.1 - 1))))).bind fun u => (sp_X12_drop fu E u m 1).bind kk) : ∃ S' r', (sp_X12_has fu E S m 1).bind g = kk (r', S') ∧ RM E S' m A i k (aPopC c y).2 ∧ AgL E m [35, 36] [39] S S' ∧ ((aPopC c y).2.2 = 0 → r' = (aPopC c y).1) ∧ svA A.1 r' := by
  rw [aPopC_eq]
  dsimp only
  rcases rx_has1 (fu := fu) L v h6 with ⟨S1, e, v1, a1, n1, n0, n6, et⟩ | ⟨h, hh, e⟩
  · refine ⟨S1, -2, ?_, ?_, a1, ?_, sv_top⟩
    · rw [e, Option.bind_some, hg0, rx_dropE n1, Option.bind_some]
    · rw [aReq_e n0]; exact v1
    · rw [et]; intro _; rfl
  · obtain ⟨S1, S', r', e1, e2, v', a', hr, hs⟩ := rx_rd1 hfu L v h hh (c (aPop y).1)
    refine ⟨S', r', ?_, v', a', hr, hs⟩
    rw [aPop_1 h hh] at e1
    rw [e, Option.bind_some, hg1 h hh, e1, Option.bind_some, e2, Option.bind_some]
theorem fitsA0 {d : Dcl} {v : Int32} : fitsA d v 0 = (v == 0) := by
  unfold fitsA
  rw [show rfT 0 = false from rfl, show ((0 : Int32) == -2) = false from rfl, Bool.false_and, Bool.or_false, Bool.or_false]
theorem aPopT_1 {d : Dcl} {ty : Int32} (h : ty ≠ 8) : aPopT d ty y = (aPopC (fun v => fitsA d v ty) y).2 := by
  unfold aPopT
  rw [if_neg h]; rfl
theorem aPopC_c {c c' : Int32 → Bool} (h : c (aPop y).1 = c' (aPop y).1) : aPopC c y = aPopC c' y := by
  unfold aPopC
  rw [h]
theorem beq_ite {α : Type} {a b : Int32} {x z : α} : (if a = b then x else z) = (if (a == b) = true then x else z) := by
  by_cases h : a = b
  · rw [if_pos h, if_pos (by rw [beq_iff_eq]; exact h)]
  · rw [if_neg h, if_neg (by rw [beq_iff_eq]; exact h)]
theorem rx_popInt (hfu : 30 ≤ fu) (L : LR E m) (v : RM E S m A i k y) (h6 : y.2 ≠ 6) : Rv E m A i k S (sp_X12_popInt fu E S m) (aPopT A.1 0 y) := by
  rw [aPopT_1 (by decide)]
  unfold sp_X12_popInt
  obtain ⟨S', r', e, v', a', -⟩ := rx_pop hfu L v h6 (fun v => fitsA A.1 v 0) (fun u => some u.2) (fun u1 => if u1.1 = 0 then ((sp_X12_drop fu E u1.2 m 1).bind fun u2 => some u2.2) else ((sp_X12_top fu E u1.2 m 0).bind fun u3 => if u3.1 = 0 then ((sp_X12_require fu E u3.2 m 1).bind fun u6 => (sp_X12_drop fu E u6 m 1).bind fun u7 => some u7.2) else ((sp_X12_require fu E u3.2 m 0).bind fun u4 => (sp_X12_drop fu E u4 m 1).bind fun u5 => some u5.2))) (fun _ => rfl) (fun h hh => by
    obtain ⟨vn, w⟩ := v.2.2.2.1 h
    dsimp only
    rw [if_neg (by decide), rx_top0 vn w.2.2 hh, Option.bind_some, fitsA0]
    dsimp only
    rw [beq_ite]
    cases (y.1.2.1 (y.1.2.2.1 - 1) == 0) <;> rfl)
  exact ⟨S', e, v', a'⟩
theorem rx_popRef (hfu : 30 ≤ fu) (L : LR E m) (hd : DI A.1) (v : RM E S m A i k y) (h6 : y.2 ≠ 6) : Rw E m A i k S (sp_X12_popReference fu E S m) (aPopC rfV y).1 (aPopC rfV y).2 := by
  unfold sp_X12_popReference
  obtain ⟨S', r', e, v', a', h'⟩ := rx_pop hfu L v h6 rfV (fun u => some (u.1, u.2)) (fun u1 => if u1.1 = 0 then ((sp_X12_drop fu E u1.2 m 1).bind fun u2 => some (u2.1, u2.2)) else ((sp_X12_top fu E u1.2 m 0).bind fun u3 => (sp_X12_isReference fu E u3.2 m u3.1).bind fun u4 => (sp_X12_require fu E u4.2 m u4.1).bind fun u5 => (sp_X12_drop fu E u5 m 1).bind fun u6 => some (u6.1, u6.2))) (fun _ => rfl) (fun h hh => by
    obtain ⟨vn, w⟩ := v.2.2.2.1 h
    dsimp only
    rw [if_neg (by decide), rx_top0 vn w.2.2 hh, Option.bind_some]
    dsimp only
    rw [r_rfV hd v.1.1 (w.2.1 _ (by omega)), Option.bind_some])
  exact ⟨S', r', e, v', a', h'⟩
theorem r_any (hd : DI A.1) (v : VRt E S m A.1) {x : Int32} (hx : svA A.1 x) : sp_X12_isAnyReference fu E S m x = some (b2 (anyR x), S) := by
  have e : anyR x = (rfV x || x == -4 || decide (x ≤ -10)) := by
    unfold anyR rfV
    cases rfT x <;> cases (x == -1) <;> rfl
  rw [e]
  unfold sp_X12_isAnyReference
  rw [r_rfV hd v hx, Option.bind_some, b2_if]
  cases rfV x with
  | true => rfl
  | false =>
    rw [if_neg (by decide), Bool.false_or]
    by_cases h2 : x = -4
    · rw [if_pos h2, h2]; rfl
    rw [if_neg h2, show (x == -4) = false from beq_eq_false_iff_ne.mpr h2, Bool.false_or]
    by_cases h3 : (-10 : Int32) < x
    · rw [if_pos h3, decide_eq_false (by rw [z_l32]; rw [z_i32] at h3; omega)]; rfl
    · rw [if_neg h3, decide_eq_true (by rw [z_l32]; rw [z_i32] at h3; omega)]; rfl
theorem rx_popAny (hfu : 30 ≤ fu) (L : LR E m) (hd : DI A.1) (v : RM E S m A i k y) (h6 : y.2 ≠ 6) : Rw E m A i k S (sp_X12_popAnyReference fu E S m) (aPopC anyR y).1 (aPopC anyR y).2 := by
  unfold sp_X12_popAnyReference
  obtain ⟨S', r', e, v', a', h'⟩ := rx_pop hfu L v h6 anyR (fun u => some (u.1, u.2)) (fun u1 => if u1.1 = 0 then ((sp_X12_drop fu E u1.2 m 1).bind fun u2 => some (u2.1, u2.2)) else ((sp_X12_top fu E u1.2 m 0).bind fun u3 => (sp_X12_isAnyReference fu E u3.2 m u3.1).bind fun u4 => (sp_X12_require fu E u4.2 m u4.1).bind fun u5 => (sp_X12_drop fu E u5 m 1).bind fun u6 => some (u6.1, u6.2))) (fun _ => rfl) (fun h hh => by
    obtain ⟨vn, w⟩ := v.2.2.2.1 h
    dsimp only
    rw [if_neg (by decide), rx_top0 vn w.2.2 hh, Option.bind_some]
    dsimp only
    rw [r_any hd v.1.1 (w.2.1 _ (by omega)), Option.bind_some])
  exact ⟨S', r', e, v', a', h'⟩
theorem rx_popSl (hfu : 30 ≤ fu) (L : LR E m) (v : RM E S m A i k y) (h6 : y.2 ≠ 6) : Rw E m A i k S (sp_X12_popSlot fu E S m) (aPopC whole y).1 (aPopC whole y).2 := by
  unfold sp_X12_popSlot
  obtain ⟨S', r', e, v', a', h'⟩ := rx_pop hfu L v h6 whole (fun u => some (u.1, u.2)) (fun u1 => if u1.1 = 0 then ((sp_X12_drop fu E u1.2 m 1).bind fun u2 => some (u2.1, u2.2)) else ((sp_X12_top fu E u1.2 m 0).bind fun u3 => if u3.1 = (-3) then ((sp_X12_require fu E u3.2 m 0).bind fun u4 => (sp_X12_drop fu E u4 m 1).bind fun u5 => some (u5.1, u5.2)) else ((sp_X12_top fu E u3.2 m 0).bind fun u6 => if u6.1 = 8 then ((sp_X12_require fu E u6.2 m 0).bind fun u7 => (sp_X12_drop fu E u7 m 1).bind fun u8 => some (u8.1, u8.2)) else ((sp_X12_require fu E u6.2 m 1).bind fun u9 => (sp_X12_drop fu E u9 m 1).bind fun u10 => some (u10.1, u10.2))))) (fun _ => rfl) (fun h hh => by
    obtain ⟨vn, w⟩ := v.2.2.2.1 h
    dsimp only
    have et := rx_top0 (fu := fu) vn w.2.2 hh
    rw [if_neg (by decide), et, Option.bind_some]
    dsimp only
    rw [et, Option.bind_some]
    dsimp only
    unfold whole
    rw [beq_ite, beq_ite]
    generalize y.1.2.1 (y.1.2.2.1 - 1) = q
    show _ = (sp_X12_require fu E S m (b2 (!(q == 8) && !(q == -3)))).bind _
    cases (q == -3) <;> cases (q == 8) <;> rfl)
  exact ⟨S', r', e, v', a', h'⟩
theorem subN1 {d : Dcl} {n : Nat} : subN d n 1 = false := by
  have h1 : lev 1 = 0 := rfl
  unfold subN
  dsimp only
  rw [h1, Nat.min_zero, Nat.sub_zero]
  rfl
theorem fitsA1 {d : Dcl} {v : Int32} : fitsA d v 1 = (v == 1 || v == -1) := by
  unfold fitsA
  rw [show (1 : Int32).toNatClampNeg = 1 from by decide, subN1, show rfT 1 = true from rfl, show ((1 : Int32) == -2) = false from rfl]
  cases (v == 1) <;> cases (v == -1) <;> cases rfT v <;> rfl
theorem rx_popInts (hfu : 30 ≤ fu) (L : LR E m) (v : RM E S m A i k y) (h6 : y.2 ≠ 6) : Rv E m A i k S (sp_X12_popInts fu E S m) (aPopT A.1 1 y) := by
  rw [aPopT_1 (by decide)]
  unfold sp_X12_popInts jb_X12_popInts_27
  obtain ⟨S', r', e, v', a', -⟩ := rx_pop hfu L v h6 (fun v => fitsA A.1 v 1) (fun u => some u.2) (fun u1 => if u1.1 = 0 then ((sp_X12_drop fu E u1.2 m 1).bind fun u2 => some u2.2) else ((sp_X12_top fu E u1.2 m 0).bind fun u3 => if u3.1 = 1 then ((sp_X12_require fu E u3.2 m 1).bind fun u4 => (sp_X12_drop fu E u4 m 1).bind fun u5 => some u5.2) else ((sp_X12_top fu E u3.2 m 0).bind fun u6 => if u6.1 = (-1) then ((sp_X12_require fu E u6.2 m 1).bind fun u4 => (sp_X12_drop fu E u4 m 1).bind fun u5 => some u5.2) else ((sp_X12_require fu E u6.2 m 0).bind fun u7 => (sp_X12_drop fu E u7 m 1).bind fun u8 => some u8.2)))) (fun _ => rfl) (fun h hh => by
    obtain ⟨vn, w⟩ := v.2.2.2.1 h
    dsimp only
    have et := rx_top0 (fu := fu) vn w.2.2 hh
    rw [if_neg (by decide), et, Option.bind_some]
    dsimp only
    rw [et, Option.bind_some]
    dsimp only
    rw [fitsA1, beq_ite, beq_ite]
    cases (y.1.2.1 (y.1.2.2.1 - 1) == 1) <;> cases (y.1.2.1 (y.1.2.2.1 - 1) == -1) <;> rfl)
  exact ⟨S', e, v', a'⟩
theorem r_neg {d : Dcl} (hd : DI d) (v : VRt E S m d) {x : Int32} (h : x < 0) : sp_X12_isType fu E S m x = some (0, S) := by
  rw [r_typ hd v, show decide (0 ≤ x) = false from by
    rw [decide_eq_false_iff_not, z_l32]
    rw [z_i32] at h
    omega]
  rfl
theorem r_arrS (hd : DI A.1) (v : VRt E S m A.1) {x : Int32} (hx : svA A.1 x) : sp_X12_isArray fu E S m x = some (b2 (arrT x), S) := by
  rcases z_sgn x with h | ⟨n, hn, rfl⟩
  · unfold sp_X12_isArray arrT
    rw [r_neg hd v h, Option.bind_some, show decide (0 ≤ x) = false from by
      rw [decide_eq_false_iff_not, z_l32]
      rw [z_i32] at h
      omega]
    rfl
  · rcases hx with ⟨q, e, hq⟩ | hx | hx
    · rw [e, r_arr hd v hq]
      have := isT_lt hd hq
      unfold arrT
      rw [n32_ge (by omega), Bool.true_and, z_nat (by omega)]
    · rw [z_int hn] at hx; omega
    · rw [z_int hn] at hx; omega
theorem r_rowS (hd : DI A.1) (v : VRt E S m A.1) {x : Int32} (hx : svA A.1 x) : sp_X12_isRow fu E S m x = some (b2 (decide (0 ≤ x) && decide (0 < lev x.toNatClampNeg)), S) := by
  rcases z_sgn x with h | ⟨n, hn, rfl⟩
  · unfold sp_X12_isRow
    rw [r_arrS hd v hx]
    have h0 : decide (0 ≤ x) = false := by
      rw [decide_eq_false_iff_not, z_l32]
      rw [z_i32] at h
      omega
    unfold arrT
    rw [h0]
    rfl
  · rcases hx with ⟨q, e, hq⟩ | hx | hx
    · rw [e, r_row hd v hq]
      have := isT_lt hd hq
      rw [n32_ge (by omega), Bool.true_and, z_nat (by omega)]
    · rw [z_int hn] at hx; omega
    · rw [z_int hn] at hx; omega
theorem rx_popRow (hfu : 30 ≤ fu) (L : LR E m) (hd : DI A.1) (v : RM E S m A i k y) (h6 : y.2 ≠ 6) : Rw E m A i k S (sp_X12_popRow fu E S m) (aPopC rowV y).1 (aPopC rowV y).2 := by
  unfold sp_X12_popRow
  obtain ⟨S', r', e, v', a', h'⟩ := rx_pop hfu L v h6 rowV (fun u => some (u.1, u.2)) (fun u1 => if u1.1 = 0 then ((sp_X12_drop fu E u1.2 m 1).bind fun u2 => some (u2.1, u2.2)) else ((sp_X12_top fu E u1.2 m 0).bind fun u3 => if u3.1 = (-1) then ((sp_X12_require fu E u3.2 m 1).bind fun u4 => (sp_X12_drop fu E u4 m 1).bind fun u5 => some (u5.1, u5.2)) else ((sp_X12_top fu E u3.2 m 0).bind fun u6 => (sp_X12_isRow fu E u6.2 m u6.1).bind fun u7 => if u7.1 = 0 then ((sp_X12_require fu E u7.2 m 0).bind fun u8 => (sp_X12_drop fu E u8 m 1).bind fun u9 => some (u9.1, u9.2)) else ((sp_X12_require fu E u7.2 m 1).bind fun u10 => (sp_X12_drop fu E u10 m 1).bind fun u11 => some (u11.1, u11.2))))) (fun _ => rfl) (fun h hh => by
    obtain ⟨vn, w⟩ := v.2.2.2.1 h
    dsimp only
    have et := rx_top0 (fu := fu) vn w.2.2 hh
    rw [if_neg (by decide), et, Option.bind_some]
    dsimp only
    rw [et, Option.bind_some]
    dsimp only
    have ws := w.2.1 (y.1.2.2.1 - 1) (by omega)
    rw [r_rowS hd v.1.1 ws, Option.bind_some]
    dsimp only
    unfold rowV
    rw [beq_ite, b2_if]
    generalize y.1.2.1 (y.1.2.2.1 - 1) = q
    generalize (decide (0 ≤ q) && decide (0 < lev q.toNatClampNeg)) = z
    cases (q == -1) <;> cases z <;> rfl)
  exact ⟨S', r', e, v', a', h'⟩
end RQ
