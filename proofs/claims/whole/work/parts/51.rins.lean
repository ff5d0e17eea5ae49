/-! the reference's instructions, all but objects -/
section RI
variable {E : Ev} {m fu i k : Nat} {A : Enw} {S : St} {y : Ms}
theorem rv_k {k2 : Nat} {o : Option St} (h : Rv E m A i k S o y) (hk : k ≤ k2) : Rv E m A i k2 S o y := by
  obtain ⟨S', e, v, a⟩ := h
  exact ⟨S', e, rm_k v hk, a⟩
theorem rx_chk (L : LR E m) (v : RM E S m A i k y) (h6 : y.2 ≠ 6) {kd : Int32} (hk : kd ≠ 0 ∧ kd ≠ 6 ∧ 0 ≤ kd) (c : Bool) : Rv E m A i k S (if c = true then some S else ((sp_X12_fail fu E S m kd (S.1 m 43)).bind fun u => some u)) (aReq c kd y) := by
  have := rx_look (fu := fu) L v h6 hk c
  cases c with
  | true => rw [if_pos rfl]; rw [if_neg (show ¬ b2 true = 0 by decide)] at this; exact this
  | false => rw [if_neg (by decide)]; rw [if_pos (show b2 false = 0 from rfl)] at this; exact this
theorem rx_lk (L : LR E m) (v : RM E S m A i k y) (h6 : y.2 ≠ 6) (c : Bool) : Rv E m A i k S (sp_X12_look fu E S m (b2 c)) (aReq c 5 y) := rx_look L v h6 (by decide) c
theorem n6_0 {f : Fr} : ((f, (0 : Int32)) : Ms).2 ≠ 6 := (by decide : (0 : Int32) ≠ 6)
theorem ri_num {f : Fr} {op : Nat} {x : Int32} (hfu : 30 ≤ fu) (L : LR E m) (hA : EI A) (hop : op ≤ 45) (hx : okX A op x) (v : RM E S m A i 0 (f, 0)) : Rv E m A i 4 S (sp_X12_compute fu E S m (n32 op) x) (if op = 21 then aReq (f.1 x.toNatClampNeg == 0) 5 (f, 0) else aNum A op (f, 0)) := by
  have hm := hA.2.2.2.1
  have hl := hA.2.2.2.2.1
  have hd := hA.1
  have s0 : ∀ z : Prop, z → svA A.1 0 := fun _ _ => sv_0 hd
  have s8 := sv_8 hd
  unfold sp_X12_compute aNum
  dsimp only
  by_cases h1 : op = 16
  · subst h1
    rw [if_pos (show n32 16 = 16 from rfl), if_neg (by decide), if_pos rfl]
    exact rv_bind (rx_popInt hfu L v n6_0) (fun S1 v1 => rv_bind (rx_popInt hfu L v1 (n6_popT n6_0)) (fun S2 v2 => rv_k (rv_id (rx_push L hm (by decide) v2 (s0 _))) (by decide)))
  rw [if_neg (op_ne (k := 16) hop (by decide) h1), if_neg h1]
  by_cases h1 : op = 17
  · subst h1
    rw [if_pos (show n32 17 = 17 from rfl), if_neg (by decide), if_pos rfl]
    exact rv_bind (rx_popLong hfu L v n6_0) (fun S1 v1 => rv_bind (rx_popLong hfu L v1 (n6_popT n6_0)) (fun S2 v2 => rv_k (rv_id (rx_pushT L hm (by decide) v2 s8 (by decide))) (by decide)))
  rw [if_neg (op_ne (k := 17) hop (by decide) h1), if_neg h1]
  by_cases h1 : op = 18
  · subst h1
    rw [if_pos (show n32 18 = 18 from rfl), if_neg (by decide), if_pos rfl]
    exact rv_bind (rx_popInt hfu L v n6_0) (fun S1 v1 => rv_k (rv_id (rx_pushT L hm (by decide) v1 s8 (by decide))) (by decide))
  rw [if_neg (op_ne (k := 18) hop (by decide) h1), if_neg h1]
  by_cases h1 : op = 19
  · subst h1
    rw [if_pos (show n32 19 = 19 from rfl), if_neg (by decide), if_pos rfl]
    exact rv_bind (rx_popLong hfu L v n6_0) (fun S1 v1 => rv_k (rv_id (rx_push L hm (by decide) v1 (s0 _))) (by decide))
  rw [if_neg (op_ne (k := 19) hop (by decide) h1), if_neg h1]
  by_cases h1 : op = 20
  · subst h1
    rw [if_pos (show n32 20 = 20 from rfl), if_neg (by decide), if_pos rfl]
    exact rv_bind (rx_popLong hfu L v n6_0) (fun S1 v1 => rv_bind (rx_popLong hfu L v1 (n6_popT n6_0)) (fun S2 v2 => rv_k (rv_id (rx_push L hm (by decide) v2 (s0 _))) (by decide)))
  rw [if_neg (op_ne (k := 20) hop (by decide) h1), if_neg h1]
  by_cases h1 : op = 21
  · subst h1
    obtain ⟨n, rfl, hn⟩ := hx.1 (Or.inr (Or.inr (Or.inr (Or.inr rfl))))
    rw [if_pos (show n32 21 = 21 from rfl), if_pos rfl, if_pos (by rw [z_inb (by omega)]; omega), z_nat (by omega), (v.2.2.2.1 rfl).1.1 n (by omega), beq_ite]
    have K := rv_id (rx_lk (fu := fu) L v n6_0 (f.1 n == 0))
    refine rv_k ?_ (show 0 ≤ 4 by decide)
    revert K
    cases (f.1 n == 0) <;> exact id
  rw [if_neg (op_ne (k := 21) hop (by decide) h1), if_neg h1]
  by_cases h1 : op = 23
  · subst h1
    rw [if_pos (show n32 23 = 23 from rfl), if_pos rfl]
    exact rv_k (rv_id (rx_popInt hfu L v n6_0)) (by decide)
  rw [if_neg (op_ne (k := 23) hop (by decide) h1), if_neg h1]
  by_cases h1 : op = 24
  · subst h1
    rw [if_pos (show n32 24 = 24 from rfl), if_pos rfl]
    exact rv_k (rv_bind (rx_popInt hfu L v n6_0) (fun S1 v1 => rv_id (rx_popInt hfu L v1 (n6_popT n6_0)))) (show 0 ≤ 4 by decide)
  rw [if_neg (op_ne (k := 24) hop (by decide) h1), if_neg h1]
  by_cases h1 : op = 25
  · subst h1
    rw [if_pos (show n32 25 = 25 from rfl), if_pos rfl]
    exact rv_k (rw_bind (rx_popAny hfu L hd v n6_0) (fun S1 r v1 _ _ => rv_some v1)) (show 0 ≤ 4 by decide)
  rw [if_neg (op_ne (k := 25) hop (by decide) h1), if_neg h1]
  by_cases h1 : op = 26
  · subst h1
    rw [if_pos (show n32 26 = 26 from rfl), if_pos rfl]
    exact rv_k (rw_bind (rx_popAny hfu L hd v n6_0) (fun S1 r v1 _ _ => rw_bind (rx_popAny hfu L hd v1 (n6_popC n6_0)) (fun S2 r2 v2 _ _ => rv_some v2))) (show 0 ≤ 4 by decide)
  rw [if_neg (op_ne (k := 26) hop (by decide) h1), if_neg h1]
  exact rv_k (rv_some v) (by decide)
theorem ri_end {f : Fr} {op : Nat} (hfu : 30 ≤ fu) (L : LR E m) (hA : EI A) (hs : cst A.2.2 = true) (hop : op ≤ 45) (h2 : 27 ≤ op ∧ op ≤ 31) (v : RM E S m A i 0 (f, 0)) : Rv E m A i 4 S (sp_X12_leave fu E S m (n32 op)) (aEnd A op (f, 0)) := by
  have hd := hA.1
  have hme := hA.2.2.1 hs
  have h30 := hA.2.1.2.1
  have hr := sv_res hA hs
  unfold sp_X12_leave aEnd bnd
  dsimp only
  rw [v.1.2.2.2.1, if_pos (by rw [z_inb (by omega)]; omega), z_nat (by omega), (v.1.2.1.2.2.2 _ hme).2.2.1]
  generalize mres A.2.1 (cme A.2.2) = r at hr ⊢
  by_cases h1 : op = 31
  · subst h1
    rw [if_pos (show n32 31 = 31 from rfl), if_neg (by decide), if_neg (by decide), if_neg (by decide), if_neg (by decide)]
    exact rv_k (rw_bind (rx_popRef hfu L hd v n6_0) (fun S1 r v1 _ _ => rv_some v1)) (show 0 ≤ 4 by decide)
  rw [if_neg (op_ne (k := 31) hop (by decide) h1)]
  by_cases h1 : op = 27
  · subst h1
    rw [if_pos (show n32 27 = 27 from rfl), if_pos rfl]
    refine rv_k (rv_bind (rx_popInt hfu L v n6_0) (fun S1 v1 => ?_)) (show 0 ≤ 4 by decide)
    rw [beq_ite]
    exact rx_chk L v1 (n6_popT n6_0) (by decide) _
  rw [if_neg (op_ne (k := 27) hop (by decide) h1), if_neg h1]
  by_cases h1 : op = 28
  · subst h1
    rw [if_pos (show n32 28 = 28 from rfl), if_pos rfl]
    refine rv_k (rv_bind (rx_popLong hfu L v n6_0) (fun S1 v1 => ?_)) (show 0 ≤ 4 by decide)
    rw [beq_ite]
    exact rx_chk L v1 (n6_popT n6_0) (by decide) _
  rw [if_neg (op_ne (k := 28) hop (by decide) h1), if_neg h1]
  by_cases h1 : op = 29
  · subst h1
    rw [if_pos (show n32 29 = 29 from rfl), if_pos rfl]
    refine rv_k (rw_bind (rx_popRef hfu L hd v n6_0) (fun S1 r' v1 he hs' => ?_)) (show 0 ≤ 4 by decide)
    dsimp only
    rw [r_rfT hd v1.1.1 hr, Option.bind_some, b2_if]
    dsimp only
    rw [r_fits hd v1.1.1 hfu hs' hr, Option.bind_some]
    dsimp only
    rw [b2_if]
    have n6 : (aPopC rfV ((f, 0) : Ms)).2.2 ≠ 6 := n6_popC n6_0
    by_cases h0 : (aPopC rfV ((f, 0) : Ms)).2.2 = 0
    · rw [he h0]
      have K := rx_chk (fu := fu) L v1 n6 (kd := 9) (by decide) (rfT r && fitsA A.1 (aPopC rfV ((f, 0) : Ms)).1 r)
      revert K
      cases rfT r <;> cases fitsA A.1 (aPopC rfV ((f, 0) : Ms)).1 r <;> exact id
    · rw [aReq_e h0]
      have e := rm_e v1 n6 h0
      rw [rx_failE e.1 e.2]
      have : (if rfT r = true then (if fitsA A.1 r' r = true then some S1 else (some S1).bind fun u => some u) else (some S1).bind fun u => some u) = some S1 := by
        split
        · split <;> rfl
        · rfl
      rw [this]
      exact rv_some v1
  rw [if_neg (op_ne (k := 29) hop (by decide) h1), if_neg h1]
  have h1 : op = 30 := by omega
  subst h1
  rw [if_pos rfl, c25, (v.2.2.2.1 rfl).1.2.2.2, bi_1]
  refine rv_k ?_ (show 0 ≤ 4 by decide)
  have K := rx_chk (fu := fu) L v n6_0 (kd := 9) (by decide) (r == -1 && !f.2.2.2)
  rw [beq_ite]
  revert K
  cases (r == -1) <;> cases f.2.2.2 <;> exact id
theorem ri_arr {f : Fr} {op : Nat} {x : Int32} (hfu : 30 ≤ fu) (L : LR E m) (hA : EI A) (hop : op ≤ 45) (hx : okX A op x) (h2 : 38 ≤ op) (v : RM E S m A i 0 (f, 0)) : Rv E m A i 4 S (sp_X12_useArray fu E S m (n32 op) x) (if op ≤ 43 then aArr A op x (f, 0) else aObj A op x (f, 0)) := by
  have hm := hA.2.2.2.1
  have hd := hA.1
  have s0 : ∀ z : Prop, z → svA A.1 0 := fun _ _ => sv_0 hd
  unfold sp_X12_useArray aArr aObj
  dsimp only
  by_cases h1 : op = 38
  · subst h1
    obtain ⟨n, rfl, hn, hn4⟩ := hx.2.2.2.2.2.2.1 rfl
    rw [if_pos (show n32 38 = 38 from rfl), if_pos (by decide), if_pos rfl]
    have sx : svA A.1 (n32 n + 1) := by
      rw [show n32 n + 1 = n32 (n + 1) from z_add n 1]
      refine sv_n (isT_iff.mpr ?_)
      have := isT_iff.mp hn
      omega
    exact rv_bind (rx_popInt hfu L v n6_0) (fun S1 v1 => rv_k (rv_id (rx_push L hm (by decide) v1 (fun _ => sx))) (by decide))
  rw [if_neg (op_ne (k := 38) hop (by decide) h1), if_neg h1]
  by_cases h1 : op = 39
  · subst h1
    rw [if_pos (show n32 39 = 39 from rfl), if_pos (by decide), if_pos rfl]
    exact rv_bind (rx_popInt hfu L v n6_0) (fun S1 v1 => rv_bind (rx_popInts hfu L v1 (n6_popT n6_0)) (fun S2 v2 => rv_k (rv_id (rx_push L hm (by decide) v2 (s0 _))) (by decide)))
  rw [if_neg (op_ne (k := 39) hop (by decide) h1), if_neg h1]
  by_cases h1 : op = 40
  · subst h1
    rw [if_pos (show n32 40 = 40 from rfl), if_pos (by decide), if_pos rfl]
    exact rv_k (rv_bind (rx_popInt hfu L v n6_0) (fun S1 v1 => rv_bind (rx_popInt hfu L v1 (n6_popT n6_0)) (fun S2 v2 => rv_id (rx_popInts hfu L v2 (n6_popT (n6_popT n6_0)))))) (show 0 ≤ 4 by decide)
  rw [if_neg (op_ne (k := 40) hop (by decide) h1), if_neg h1]
  by_cases h1 : op = 41
  · subst h1
    rw [if_pos (show n32 41 = 41 from rfl), if_pos (by decide), if_pos rfl]
    refine rv_bind (rx_popInt hfu L v n6_0) (fun S1 v1 => rw_bind (rx_popRow hfu L hd v1 (n6_popT n6_0)) (fun S2 r v2 he hr => ?_))
    dsimp only
    have key : ∀ z : Int32, ((aPopC rowV (aPopT A.1 0 ((f, 0) : Ms))).2.2 = 0 → z = (if (aPopC rowV (aPopT A.1 0 ((f, 0) : Ms))).1 = -1 then -1 else (aPopC rowV (aPopT A.1 0 ((f, 0) : Ms))).1 - 1) ∧ svA A.1 z) → Rv E m A i 4 S2 ((sp_X12_push fu E S2 m z).bind fun u => some u) (aPush (cmost A.2.2) (if (aPopC rowV (aPopT A.1 0 ((f, 0) : Ms))).1 = -1 then -1 else (aPopC rowV (aPopT A.1 0 ((f, 0) : Ms))).1 - 1) (aPopC rowV (aPopT A.1 0 ((f, 0) : Ms))).2) := by
      intro z hz
      have P := rv_id (rx_push (fu := fu) (x := z) L hm (by decide) v2 (fun q => (hz q).2))
      refine rv_k (rv_eq P ?_) (by decide)
      by_cases h0 : (aPopC rowV (aPopT A.1 0 ((f, 0) : Ms))).2.2 = 0
      · rw [(hz h0).1]
      · unfold aPush
        rw [if_pos h0, if_pos h0]
    have ok : (aPopC rowV (aPopT A.1 0 ((f, 0) : Ms))).2.2 = 0 → rowV (aPopC rowV (aPopT A.1 0 ((f, 0) : Ms))).1 = true := by
      intro z
      unfold aPopC at z ⊢
      dsimp only at z ⊢
      by_cases c : rowV (aPop (aPopT A.1 0 ((f, 0) : Ms))).1 = true
      · exact c
      · exfalso
        have c' : rowV (aPop (aPopT A.1 0 ((f, 0) : Ms))).1 = false := by simpa using c
        rw [c'] at z
        unfold aReq at z
        split at z
        · exact absurd z (show ¬ (4 : Int32) = 0 by decide)
        · rename_i hh
          exact hh ⟨z, rfl⟩
    by_cases c : r = -1
    · rw [if_pos c]
      refine key _ (fun z => ⟨?_, sv_null⟩)
      rw [← he z, if_pos c]
    · rw [if_neg c]
      refine key _ (fun z => ⟨?_, ?_⟩)
      · rw [← he z, if_neg c]
      · have hrow := ok z
        rw [← he z] at hrow
        unfold rowV at hrow
        rw [show (r == -1) = false from beq_eq_false_iff_ne.mpr c, Bool.false_or, Bool.and_eq_true, decide_eq_true_eq, decide_eq_true_eq] at hrow
        rcases hr with ⟨n, e, hn⟩ | hr | hr
        · have h160 := isT_lt hd hn
          rw [e] at hrow ⊢
          rw [z_nat (by omega)] at hrow
          have := lev_le n
          rw [show n32 n - 1 = n32 (n - 1) from z_sub (b := 1) (by omega)]
          exact sv_n (isT_sub (d := A.1) hn (by omega))
        · have := hrow.1
          rw [z_l32] at this
          have e0 : (0 : Int32).toInt = 0 := by decide
          omega
        · have := hrow.1
          rw [z_l32] at this
          have e0 : (0 : Int32).toInt = 0 := by decide
          omega
  rw [if_neg (op_ne (k := 41) hop (by decide) h1), if_neg h1]
  by_cases h1 : op = 42
  · subst h1
    rw [if_pos (show n32 42 = 42 from rfl), if_pos (by decide), if_pos rfl]
    exact rv_k (rw_bind (rx_popRef hfu L hd v n6_0) (fun S1 r v1 _ _ => rv_bind (rx_popInt hfu L v1 (n6_popC n6_0)) (fun S2 v2 => rw_bind (rx_popRow hfu L hd v2 (n6_popT (n6_popC n6_0))) (fun S3 r3 v3 _ _ => rv_some v3)))) (show 0 ≤ 4 by decide)
  rw [if_neg (op_ne (k := 42) hop (by decide) h1), if_neg h1]
  by_cases h1 : op = 43
  · subst h1
    rw [if_pos (show n32 43 = 43 from rfl), if_pos (by decide)]
    unfold jb_X12_useArray_168
    obtain ⟨S', r', e, v', a', -⟩ := rx_pop hfu L v n6_0 (fun v => v == -1 || arrT v) (fun u => (sp_X12_push fu E u.2 m 0).bind fun u25 => some u25) (fun u23 => if u23.1 = 0 then ((sp_X12_drop fu E u23.2 m 1).bind fun u24 => (sp_X12_push fu E u24.2 m 0).bind fun u25 => some u25) else ((sp_X12_top fu E u23.2 m 0).bind fun u26 => if u26.1 = (-1) then ((sp_X12_require fu E u26.2 m 1).bind fun u27 => (sp_X12_drop fu E u27 m 1).bind fun u24 => (sp_X12_push fu E u24.2 m 0).bind fun u25 => some u25) else ((sp_X12_top fu E u26.2 m 0).bind fun u28 => (sp_X12_isArray fu E u28.2 m u28.1).bind fun u29 => if u29.1 = 0 then ((sp_X12_require fu E u29.2 m 0).bind fun u30 => (sp_X12_drop fu E u30 m 1).bind fun u24 => (sp_X12_push fu E u24.2 m 0).bind fun u25 => some u25) else ((sp_X12_require fu E u29.2 m 1).bind fun u31 => (sp_X12_drop fu E u31 m 1).bind fun u24 => (sp_X12_push fu E u24.2 m 0).bind fun u25 => some u25)))) (fun _ => rfl) (fun h hh => by
      obtain ⟨vn, w⟩ := v.2.2.2.1 h
      dsimp only
      have et := rx_top0 (fu := fu) vn w.2.2 hh
      rw [if_neg (by decide), et, Option.bind_some]
      dsimp only
      rw [et, Option.bind_some]
      dsimp only
      have ws := w.2.1 (f.2.2.1 - 1) (by have : 0 < f.2.2.1 := hh; show f.2.2.1 - 1 < f.2.2.1; omega)
      rw [r_arrS hd v.1.1 ws, Option.bind_some]
      dsimp only
      rw [beq_ite, b2_if]
      generalize f.2.1 (f.2.2.1 - 1) = q
      cases (q == -1) <;> cases arrT q <;> rfl)
    obtain ⟨S2, e2, v2, a2⟩ := rv_id (rx_push (fu := fu) (x := 0) L hm (by decide) v' (s0 _))
    exact ⟨S2, e.trans e2, rm_k v2 (by decide), agl_trans a' a2⟩
  rw [if_neg (op_ne (k := 43) hop (by decide) h1), if_neg (show ¬ op ≤ 43 by omega), if_neg (show ¬ op = 32 by omega), if_neg (show ¬ op = 33 by omega)]
  refine rw_bind (rx_popRef hfu L hd v n6_0) (fun S1 r v1 _ _ => ?_)
  by_cases h1 : op = 44
  · subst h1
    obtain ⟨n, rfl, hn, -⟩ := hx.2.2.2.2.2.2.2 (Or.inl rfl)
    rw [if_pos (show n32 44 = 44 from rfl), if_pos rfl]
    exact rv_k (rv_id (rx_push L hm (by decide) v1 (fun _ => sv_n hn))) (by decide)
  · rw [if_neg (op_ne (k := 44) hop (by decide) h1), if_neg h1]
    exact rv_k (rv_id (rx_push L hm (by decide) v1 (s0 _))) (by decide)
end RI
