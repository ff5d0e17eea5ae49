/-! the reference's pushes, stores, replacements -/
/-- the two slots of a LONG stand together -/
def PrL (l : Nat → Int32) : Prop := ∀ i, i < 12 → (l i = 8 → i + 1 < 12 ∧ l (i + 1) = -3) ∧ (l i = -3 → 0 < i ∧ l (i - 1) = 8)
def PrS (s : Nat → Int32) (h : Nat) : Prop := ∀ i, i < h → (s i = 8 → i + 1 < h ∧ s (i + 1) = -3) ∧ (s i = -3 → 0 < i ∧ s (i - 1) = 8)
section RR
variable {E : Ev} {m fu i k : Nat} {A : Enw} {S : St} {y : Ms}
theorem n6_req {c : Bool} {q : Int32} (h : y.2 ≠ 6) (hq : q ≠ 6) : (aReq c q y).2 ≠ 6 := by
  unfold aReq
  split
  · exact hq
  · exact h
theorem n6_pop (h : y.2 ≠ 6) : (aPop y).2.2 ≠ 6 := by
  unfold aPop
  split
  · exact h
  · split
    · exact (by decide : (3 : Int32) ≠ 6)
    · exact (by decide : (0 : Int32) ≠ 6)
theorem n6_popT {d : Dcl} {ty : Int32} (h : y.2 ≠ 6) : (aPopT d ty y).2 ≠ 6 := by
  unfold aPopT
  split
  · exact n6_req (n6_pop (n6_pop h)) (by decide)
  · exact n6_req (n6_pop h) (by decide)
theorem n6_popC {c : Int32 → Bool} (h : y.2 ≠ 6) : (aPopC c y).2.2 ≠ 6 := n6_req (n6_pop h) (by decide)
theorem lo_req {c : Bool} {q : Int32} : (aReq c q y).1 = y.1 := by
  unfold aReq
  split <;> rfl
theorem lo_pop : (aPop y).2.1.1 = y.1.1 := by
  unfold aPop
  split
  · rfl
  · split <;> rfl
theorem lo_popT {d : Dcl} {ty : Int32} : (aPopT d ty y).1.1 = y.1.1 := by
  unfold aPopT
  split
  · rw [lo_req, lo_pop, lo_pop]
  · rw [lo_req, lo_pop]
theorem lo_popC {c : Int32 → Bool} : (aPopC c y).2.1.1 = y.1.1 := by
  unfold aPopC
  dsimp only
  rw [lo_req, lo_pop]
theorem aPop_2 (h : y.2 = 0) (h0 : 1 < y.1.2.2.1) : aPop (aPop y).2 = (y.1.2.1 (y.1.2.2.1 - 2), ((y.1.1, y.1.2.1, y.1.2.2.1 - 2, y.1.2.2.2), 0)) := by
  rw [aPop_1 h (by omega), aPop_1 rfl (by show 0 < y.1.2.2.1 - 1; omega)]
  rfl
theorem rx_rd2 (hfu : 30 ≤ fu) (L : LR E m) (v : RM E S m A i k y) (h : y.2 = 0) (hh : 1 < y.1.2.2.1) (c : Bool) : ∃ S1 S' r', sp_X12_require fu E S m (b2 c) = some S1 ∧ sp_X12_drop fu E S1 m 2 = some (r', S') ∧ RM E S' m A i k (aReq c 4 (aPop (aPop y).2).2) ∧ AgL E m [35, 36] [39] S S' ∧ (c = true → r' = y.1.2.1 (y.1.2.2.1 - 2) ∧ S1 = S) ∧ (c = false → S1.1 m 35 ≠ 0 ∧ S' = S1) := by
  rw [aPop_2 h hh]
  unfold sp_X12_require
  cases c with
  | true =>
    obtain ⟨S', e, v', a'⟩ := rx_drop hfu L v h (n := 2) (by omega) (by decide)
    refine ⟨S, S', _, by rw [if_neg (by decide)], e, ?_, a', fun _ => ⟨rfl, rfl⟩, fun z => by cases z⟩
    rw [aReq_t]; exact v'
  | false =>
    have K := rm_fail L v h (kd := 4) (by decide) (y.1.1, y.1.2.1, y.1.2.2.1 - 2, y.1.2.2.2)
    have e35 : (sF (sF S m 35 4) m 36 (S.1 m 43)).1 m 35 = 4 := (K.1.2.2.1 (show (4 : Int32) ≠ 6 by decide)).1
    refine ⟨sF (sF S m 35 4) m 36 (S.1 m 43), _, -2, ?_, rx_dropE (by rw [e35]; decide), ?_, K.2, fun z => (by cases z), fun _ => ⟨by rw [e35]; decide, rfl⟩⟩
    · rw [if_pos (show b2 false = 0 from rfl), rx_fail (rm_0 v h)]; rfl
    · rw [aReq_f rfl]; exact K.1
theorem rx_has2 (L : LR E m) (v : RM E S m A i k y) (h6 : y.2 ≠ 6) : (∃ S1, sp_X12_has fu E S m 2 = some (0, S1) ∧ RM E S1 m A i k (aPop (aPop y).2).2 ∧ AgL E m [35, 36] [39] S S1 ∧ S1.1 m 35 ≠ 0 ∧ (aPop (aPop y).2).2.2 ≠ 0) ∨ (y.2 = 0 ∧ 1 < y.1.2.2.1 ∧ sp_X12_has fu E S m 2 = some (1, S)) := by
  by_cases h : y.2 = 0
  · by_cases h0 : y.1.2.2.1 = 0
    · obtain ⟨S1, e, v1, a1, n1⟩ := rx_hasF (fu := fu) (n := 2) L v h (by omega) (by decide) y.1
      refine Or.inl ⟨S1, e, ?_, a1, n1, ?_⟩
      · rw [aPop_0 h h0, aPop_e (show ¬ (3 : Int32) = 0 by decide)]; exact v1
      · rw [aPop_0 h h0, aPop_e (show ¬ (3 : Int32) = 0 by decide)]; exact (by decide : (3 : Int32) ≠ 0)
    · by_cases h1 : y.1.2.2.1 = 1
      · obtain ⟨S1, e, v1, a1, n1⟩ := rx_hasF (fu := fu) (n := 2) L v h (by omega) (by decide) (y.1.1, y.1.2.1, y.1.2.2.1 - 1, y.1.2.2.2)
        refine Or.inl ⟨S1, e, ?_, a1, n1, ?_⟩
        · rw [aPop_1 h (by omega), aPop_0 rfl (by show y.1.2.2.1 - 1 = 0; omega)]; exact v1
        · rw [aPop_1 h (by omega), aPop_0 rfl (by show y.1.2.2.1 - 1 = 0; omega)]; exact (by decide : (3 : Int32) ≠ 0)
      · exact Or.inr ⟨h, by omega, rx_hasT (n := 2) v h (by omega)⟩
  · refine Or.inl ⟨S, rx_hasE v h6 h, ?_, agl_refl, (rm_e v h6 h).2, ?_⟩
    · rw [aPop_e h, aPop_e h]; exact v
    · rw [aPop_e h, aPop_e h]; exact h
theorem rx_popLong (hfu : 30 ≤ fu) (L : LR E m) (v : RM E S m A i k y) (h6 : y.2 ≠ 6) : Rv E m A i k S (sp_X12_popLong fu E S m) (aPopT A.1 8 y) := by
  unfold aPopT sp_X12_popLong
  rw [if_pos rfl]
  rcases rx_has2 (fu := fu) L v h6 with ⟨S1, e, v1, a1, n1, n0⟩ | ⟨h, hh, e⟩
  · rw [e, Option.bind_some, if_pos rfl, aReq_e n0, rx_dropE n1]
    exact ⟨S1, rfl, v1, a1⟩
  · obtain ⟨vn, w⟩ := v.2.2.2.1 h
    have e1 : (aPop (aPop y).2).1 = y.1.2.1 (y.1.2.2.1 - 2) := by rw [aPop_2 h hh]
    have e2 : (aPop y).1 = y.1.2.1 (y.1.2.2.1 - 1) := by rw [aPop_1 h (by omega)]
    obtain ⟨S1, S', r', f1, f2, v', a', -⟩ := rx_rd2 hfu L v h hh ((aPop (aPop y).2).1 == 8 && (aPop y).1 == -3)
    refine ⟨S', ?_, v', a'⟩
    rw [e, Option.bind_some, if_neg (show ¬ (1 : Int32) = 0 by decide)]
    dsimp only
    rw [rx_top0 vn w.2.2 (by omega), Option.bind_some]
    dsimp only
    rw [rx_top1 vn w.2.2 hh, Option.bind_some]
    dsimp only
    rw [e1, e2] at f1
    rw [beq_ite, beq_ite]
    generalize y.1.2.1 (y.1.2.2.1 - 1) = u at f1 ⊢
    generalize y.1.2.1 (y.1.2.2.1 - 2) = w at f1 ⊢
    have go : ((sp_X12_require fu E S m (b2 (w == 8 && u == -3))).bind fun z => (sp_X12_drop fu E z m 2).bind fun q => some q.2) = some S' := by
      rw [f1, Option.bind_some, f2, Option.bind_some]
    rw [← go]
    cases (u == -3) <;> cases (w == 8) <;> rfl
theorem rx_popT (hfu : 30 ≤ fu) (L : LR E m) (hd : DI A.1) (v : RM E S m A i k y) (h6 : y.2 ≠ 6) {ty : Int32} (ht : svA A.1 ty) : Rv E m A i k S (sp_X12_popType fu E S m ty) (aPopT A.1 ty y) := by
  unfold sp_X12_popType
  by_cases h8 : ty = 8
  · rw [if_pos h8, h8]
    exact rv_id (rx_popLong hfu L v h6)
  rw [if_neg h8, aPopT_1 h8]
  obtain ⟨S', r', e, v', a', -⟩ := rx_pop hfu L v h6 (fun v => fitsA A.1 v ty) (fun u => some u.2) (fun u1 => if u1.1 = 0 then ((sp_X12_drop fu E u1.2 m 1).bind fun u2 => some u2.2) else (if ty = 0 then ((sp_X12_top fu E u1.2 m 0).bind fun u7 => if u7.1 = 0 then ((sp_X12_require fu E u7.2 m 1).bind fun u10 => (sp_X12_drop fu E u10 m 1).bind fun u11 => some u11.2) else ((sp_X12_require fu E u7.2 m 0).bind fun u8 => (sp_X12_drop fu E u8 m 1).bind fun u9 => some u9.2)) else ((sp_X12_top fu E u1.2 m 0).bind fun u3 => (sp_X12_fits fu E u3.2 m u3.1 ty).bind fun u4 => (sp_X12_require fu E u4.2 m u4.1).bind fun u5 => (sp_X12_drop fu E u5 m 1).bind fun u6 => some u6.2))) (fun _ => rfl) (fun h hh => by
    obtain ⟨vn, w⟩ := v.2.2.2.1 h
    dsimp only
    rw [if_neg (by decide)]
    by_cases h0 : ty = 0
    · rw [if_pos h0, rx_top0 vn w.2.2 hh, Option.bind_some, h0, fitsA0]
      dsimp only
      rw [beq_ite]
      cases (y.1.2.1 (y.1.2.2.1 - 1) == 0) <;> rfl
    · rw [if_neg h0, rx_top0 vn w.2.2 hh, Option.bind_some]
      dsimp only
      rw [r_fits hd v.1.1 hfu (w.2.1 _ (by omega)) ht, Option.bind_some])
  exact ⟨S', e, v', a'⟩
theorem rm_k {k2 : Nat} (v : RM E S m A i k y) (h : k ≤ k2) : RM E S m A i k2 y := ⟨v.1, v.2.1, v.2.2.1, v.2.2.2.1, fun z => by
  obtain ⟨a, q, b, c, d⟩ := v.2.2.2.2.1 z
  exact ⟨a, q, b, c, by omega⟩, v.2.2.2.2.2⟩
theorem rm_z (v : RM E S m A i k y) (h : y.2 ≠ 0) (z : Fr) : RM E S m A i k (z, y.2) := ⟨v.1, v.2.1, v.2.2.1, fun e => absurd e h, v.2.2.2.2.1, v.2.2.2.2.2⟩
theorem rm_6 (L : LR E m) {S' : St} (v : RM E S m A i k y) (h : y.2 = 0 ∨ y.2 = 6) (g : AgL E m [] [39] S S') {q k2 : Nat} (h1 : S'.2.1 (E.2 m 39) 24 = n32 q) (h2 : cmost A.2.2 < q) (h3 : q ≤ 12 + k2) (z : Fr) : RM E S' m A i k2 (z, 6) ∧ AgL E m [35, 36] [39] S S' := by
  have ag : AgL E m [35, 36] [39] S S' := agl_mono g (fun _ z => absurd z List.not_mem_nil) (fun _ z => z)
  have h35 : S'.1 m 35 = 0 := by
    rw [agl_f g rfl]
    rcases h with h | h
    · exact rm_0 v h
    · exact (v.2.2.2.2.1 h).1
  refine ⟨⟨vre_ag L v.1 (agl_mono ag (by decide) (by decide)), ?_, fun e => absurd rfl e, fun e => absurd e (show ¬ (6 : Int32) = 0 by decide), fun _ => ⟨h35, q, h1, h2, h3⟩, ?_⟩, ag⟩
  · rw [agl_f g rfl]; exact v.2.1
  · rw [agl_f g rfl, v.2.2.2.2.2, if_pos h, if_pos (Or.inr rfl)]
/-- what push does to the cells when there is no error: h the height -/
theorem rx_pushS {x : Int32} {h : Nat} (e0 : S.1 m 35 = 0) (e24 : S.2.1 (E.2 m 39) 24 = n32 h) (hh : h < 2 ^ 30) : ∃ S', sp_X12_push fu E S m x = some S' ∧ AgL E m [] [39] S S' ∧ S'.2.1 (E.2 m 39) 24 = n32 (h + 1) ∧ (h < 12 → S'.2.1 (E.2 m 39) (12 + h) = x) ∧ ∀ j, j ≠ 24 → j ≠ 12 + h → S'.2.1 (E.2 m 39) j = S.2.1 (E.2 m 39) j := by
  unfold sp_X12_push jb_X12_push_36 bnd
  rw [rx_well, e0, Option.bind_some, b2_if, if_pos (by decide)]
  dsimp only
  rw [c24, e24, show (12 : Int32) = n32 12 from rfl, zi_le (by decide) (by omega)]
  by_cases h12 : 12 ≤ h
  · rw [if_pos h12, show n32 h + 1 = n32 (h + 1) from z_add h 1]
    exact ⟨_, rfl, agl_sG (by decide), up2_s _ _, fun z => by omega, fun j h1 _ => up2_n _ _ (fun e => h1 e.2)⟩
  · rw [if_neg h12, z_add, if_pos (by rw [z_inb (by omega)]; omega), z_nat (by omega)]
    have e3 : (sG S (E.2 m 39) (12 + h) x).2.1 (E.2 m 39) 24 = n32 h := (up2_n _ _ (fun e => by have := e.2; omega)).trans e24
    rw [e3, show n32 h + 1 = n32 (h + 1) from z_add h 1]
    refine ⟨_, rfl, agl_trans (agl_sG (by decide)) (agl_sG (by decide)), up2_s _ _, fun _ => ?_, fun j h1 h2 => ?_⟩
    · exact (up2_n _ _ (fun e => by have := e.2; omega)).trans (up2_s _ _)
    · exact (up2_n _ _ (fun e => h1 e.2)).trans (up2_n _ _ (fun e => h2 e.2))
theorem rx_push (L : LR E m) (hm : cmost A.2.2 ≤ 12) (hk : k ≤ 100) (v : RM E S m A i k y) {x : Int32} (hx : y.2 = 0 → svA A.1 x) : Rv E m A i (k + 1) S (sp_X12_push fu E S m x) (aPush (cmost A.2.2) x y) := by
  unfold aPush
  by_cases h : y.2 = 0
  · rw [if_neg (fun z => z h)]
    obtain ⟨vn, w⟩ := v.2.2.2.1 h
    have h12 := w.2.2
    obtain ⟨S', e, a, e24, ex, eo⟩ := rx_pushS (fu := fu) (x := x) (rm_0 v h) vn.2.2.1 (by omega)
    by_cases h1 : cmost A.2.2 ≤ y.1.2.2.1
    · rw [if_pos h1]
      have K := rm_6 (k2 := k + 1) L v (Or.inl h) a e24 (by omega) (by omega) y.1
      exact ⟨S', e, K.1, K.2⟩
    · rw [if_neg h1]
      have wf := wf_push (y := y) (d := A.1) (mx := cmost A.2.2) hm (hx h) w
      unfold aPush at wf
      rw [if_neg (fun z => z h), if_neg h1] at wf
      have K := rm_now (k2 := k + 1) L v h a (x := (y.1.1, up1 y.1.2.1 y.1.2.2.1 x, y.1.2.2.1 + 1, y.1.2.2.2)) ⟨fun q hq => ?_, fun q hq => ?_, e24, ?_⟩ wf
      · exact ⟨S', e, K.1, K.2⟩
      · rw [eo q (by omega) (by omega)]; exact vn.1 q hq
      · show S'.2.1 (E.2 m 39) (12 + q) = up1 y.1.2.1 y.1.2.2.1 x q
        have hq' : q < y.1.2.2.1 + 1 := hq
        by_cases e1 : q = y.1.2.2.1
        · rw [e1, up1_s]; exact ex (by omega)
        · rw [up1_n _ _ e1, eo _ (by omega) (by omega)]; exact vn.2.1 q (by omega)
      · rw [eo 25 (by omega) (by omega)]; exact vn.2.2.2
  · rw [if_pos h]
    by_cases h6 : y.2 = 6
    · obtain ⟨e0, q, e24, hq, hq2⟩ := v.2.2.2.2.1 h6
      obtain ⟨S', e, a, e24', -⟩ := rx_pushS (fu := fu) (x := x) e0 e24 (by omega)
      have K := rm_6 (k2 := k + 1) L v (Or.inr h6) a e24' (by omega) (by omega) y.1
      refine ⟨S', e, ?_, K.2⟩
      have := K.1
      rw [← h6] at this
      exact this
    · refine ⟨S, ?_, rm_k v (by omega), agl_refl⟩
      unfold sp_X12_push
      rw [rx_well, show (S.1 m 35 == 0) = false from beq_eq_false_iff_ne.mpr (rm_e v h6 h).2, Option.bind_some, b2_if, if_neg (by decide)]
theorem rx_pushT (L : LR E m) (hm : cmost A.2.2 ≤ 12) (hk : k ≤ 90) (v : RM E S m A i k y) {x : Int32} (hx : svA A.1 x) (h1 : x ≠ -1) : Rv E m A i (k + 2) S (sp_X12_pushType fu E S m x) (aPushT (cmost A.2.2) x y) := by
  unfold sp_X12_pushType aPushT
  rw [if_neg h1]
  refine rv_bind (rx_push L hm (by omega) v (fun _ => hx)) (fun S1 v1 => ?_)
  by_cases h : x = 8
  · rw [if_pos h, if_pos h]
    exact rv_id (rx_push L hm (by omega) v1 (fun _ => sv_high))
  · rw [if_neg h, if_neg h]
    exact rv_some (rm_k v1 (by omega))
theorem rx_look (L : LR E m) (v : RM E S m A i k y) (h6 : y.2 ≠ 6) {kd : Int32} (hk : kd ≠ 0 ∧ kd ≠ 6 ∧ 0 ≤ kd) (c : Bool) : Rv E m A i k S (if b2 c = 0 then ((sp_X12_fail fu E S m kd (S.1 m 43)).bind fun u => some u) else some S) (aReq c kd y) := by
  cases c with
  | true => rw [if_neg (by decide), aReq_t]; exact rv_some v
  | false =>
    rw [if_pos (show b2 false = 0 from rfl)]
    by_cases h : y.2 = 0
    · rw [rx_fail (rm_0 v h), aReq_f h]
      have K := rm_fail L v h hk y.1
      exact ⟨_, rfl, K.1, K.2⟩
    · rw [aReq_e h, rx_failE (rm_e v h6 h).1 (rm_e v h6 h).2]
      exact ⟨_, rfl, v, agl_refl⟩
end RR
