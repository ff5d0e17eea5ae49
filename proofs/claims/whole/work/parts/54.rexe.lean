/-! the reference: new objects, fields and calls; its execute -/
section RE
variable {E : Ev} {m fu i k : Nat} {A : Enw} {S : St} {y : Ms}
theorem rx_cr1 (L : LR E m) {f : Fr} {w : Int32} : ∀ (j q F : Nat) (S : St) (e : Bool), q + j = f.2.2.1 → j + 1 ≤ F → RM E S m A i 0 (f, if e = true then 4 else 0) → VN E S m f → f.2.2.1 ≤ 12 → ∃ S', lp_X12_create_10 fu E m F w (n32 q) S = lp_X12_create_51 fu E m fu w 0 S' ∧ AgL E m [35, 36] [39] S S' ∧ RM E S' m A i 0 (f, if (e || hasR w f.2.1 q j) = true then 4 else 0) ∧ VN E S' m f := by
  intro j
  induction j with
  | zero =>
    intro q F S e hq hF v vn h12
    obtain ⟨F, rfl⟩ : ∃ z, F = z + 1 := ⟨F - 1, by omega⟩
    refine ⟨S, ?_, agl_refl, ?_, vn⟩
    · show bd_X12_create_10 fu E m _ w (n32 q) S = _
      unfold bd_X12_create_10
      rw [c24, vn.2.2.1, zi_le (by omega) (by omega), if_pos (by omega)]
    · show RM E S m A i 0 (f, if (e || false) = true then 4 else 0)
      rw [Bool.or_false]; exact v
  | succ j ih =>
    intro q F S e hq hF v vn h12
    obtain ⟨F, rfl⟩ : ∃ z, F = z + 1 := ⟨F - 1, by omega⟩
    show ∃ S', bd_X12_create_10 fu E m (lp_X12_create_10 fu E m F) w (n32 q) S = _ ∧ _ ∧ RM E S' m A i 0 (f, if (e || (f.2.1 q == w || hasR w f.2.1 (q + 1) j)) = true then 4 else 0) ∧ _
    unfold bd_X12_create_10
    rw [c24, vn.2.2.1, zi_le (by omega) (by omega), if_neg (by omega), show (12 : Int32) + n32 q = n32 (12 + q) from z_add 12 q, if_pos (by rw [z_inb (by omega)]; omega), z_nat (by omega), vn.2.1 q (by omega), show n32 q + 1 = n32 (q + 1) from z_add q 1]
    by_cases c : f.2.1 q = w
    · rw [if_pos c, show (f.2.1 q == w) = true from by rw [beq_iff_eq]; exact c, Bool.true_or, Bool.or_true]
      unfold sp_X12_require
      rw [if_pos rfl]
      cases e with
      | true =>
        have h4 : ((f, if true = true then (4 : Int32) else 0) : Ms).2 ≠ 0 := (by decide : (4 : Int32) ≠ 0)
        have h6 : ((f, if true = true then (4 : Int32) else 0) : Ms).2 ≠ 6 := (by decide : (4 : Int32) ≠ 6)
        rw [rx_failE (rm_e v h6 h4).1 (rm_e v h6 h4).2, Option.bind_some, Option.bind_some]
        have H := ih (q + 1) F S true (by omega) (by omega) v vn h12
        rw [Bool.true_or] at H
        exact H
      | false =>
        have K := rm_fail L v rfl (kd := 4) (by decide) f
        rw [rx_fail (rm_0 v rfl), Option.bind_some, Option.bind_some]
        have vn' : VN E (sF (sF S m 35 4) m 36 (S.1 m 43)) m f := vn
        obtain ⟨S', e', a', r', n'⟩ := ih (q + 1) F _ true (by omega) (by omega) K.1 vn' h12
        rw [Bool.true_or] at r'
        exact ⟨S', e', agl_trans K.2 a', r', n'⟩
    · rw [if_neg c, show (f.2.1 q == w) = false from beq_eq_false_iff_ne.mpr c, Bool.false_or]
      unfold sp_X12_require
      rw [if_neg (by decide), Option.bind_some]
      exact ih (q + 1) F S e (by omega) (by omega) v vn h12
theorem rx_cr2 {x : Fr} {l : Nat → Int32} {w : Int32} : ∀ (j q F : Nat) (S : St), q + j = 12 → j + 1 ≤ F → VN E S m (fun z => if z < q then rep w (-2) l z else l z, x.2) → ∃ S', lp_X12_create_51 fu E m F w (n32 q) S = ((sp_X12_push fu E S' m w).bind fun u => some u) ∧ AgL E m [] [39] S S' ∧ VN E S' m (rep w (-2) l, x.2) := by
  intro j
  induction j with
  | zero =>
    intro q F S hq hF v
    obtain ⟨F, rfl⟩ : ∃ z, F = z + 1 := ⟨F - 1, by omega⟩
    refine ⟨S, ?_, agl_refl, vn_eqL (x := (fun z => if z < q then rep w (-2) l z else l z, x.2)) v (fun z hz => if_pos (by omega))⟩
    show bd_X12_create_51 fu E m _ w (n32 q) S = _
    unfold bd_X12_create_51
    rw [show (12 : Int32) = n32 12 from rfl, zi_le (by decide) (by omega), if_pos (by omega)]
  | succ j ih =>
    intro q F S hq hF v
    obtain ⟨F, rfl⟩ : ∃ z, F = z + 1 := ⟨F - 1, by omega⟩
    show ∃ S', bd_X12_create_51 fu E m (lp_X12_create_51 fu E m F) w (n32 q) S = _ ∧ _
    unfold bd_X12_create_51 bnd
    have e1 : S.2.1 (E.2 m 39) q = l q := (v.1 q (by omega)).trans (if_neg (by omega))
    rw [show (12 : Int32) = n32 12 from rfl, zi_le (by decide) (by omega), if_neg (by omega), if_pos (by rw [z_inb (by omega)]; omega), z_nat (by omega), e1, show n32 q + 1 = n32 (q + 1) from z_add q 1]
    by_cases c : l q = w
    · rw [if_pos c, if_pos (by rw [z_inb (by omega)]; omega)]
      have v1 := vn_eqL (l := fun z => if z < q + 1 then rep w (-2) l z else l z) (vn_loc (j := q) (z := -2) v (by omega)) (fun z hz => by
        show up1 (fun z => if z < q then rep w (-2) l z else l z) q (-2) z = _
        by_cases e : z = q
        · rw [e, up1_s, if_pos (by omega)]
          unfold rep
          rw [if_pos c]
        · rw [up1_n _ _ e]
          show (if z < q then _ else _) = (if z < q + 1 then _ else _)
          by_cases e2 : z < q
          · rw [if_pos e2, if_pos (by omega)]
          · rw [if_neg e2, if_neg (by omega)])
      obtain ⟨S', e', a', v'⟩ := ih (q + 1) F _ (by omega) (by omega) v1
      exact ⟨S', e', agl_trans (agl_sG (by decide)) a', v'⟩
    · rw [if_neg c]
      refine ih (q + 1) F S (by omega) (by omega) (vn_eqL (x := (fun z => if z < q then rep w (-2) l z else l z, x.2)) v (fun z hz => ?_))
      show (if z < q then rep w (-2) l z else l z) = (if z < q + 1 then rep w (-2) l z else l z)
      by_cases e : z = q
      · rw [e, if_neg (by omega), if_pos (by omega)]
        unfold rep
        rw [if_neg c]
      · by_cases e2 : z < q
        · rw [if_pos e2, if_pos (by omega)]
        · rw [if_neg e2, if_neg (by omega)]
theorem rx_new {f : Fr} {x : Int32} (hfu : 30 ≤ fu) (L : LR E m) (hA : EI A) (hi : i < 100) (v : RM E S m A i 0 (f, 0)) : Rv E m A i 4 S (sp_X12_create fu E S m x) (aNew A (-10 - n32 i) (f, 0)) := by
  have hm := hA.2.2.2.1
  obtain ⟨vn, wf⟩ := v.2.2.2.1 rfl
  have h10 : (-10 : Int32).toInt = -10 := by decide
  have sw : svA A.1 (-10 - n32 i) := by
    refine Or.inr (Or.inr ?_)
    have e1 : (-10 - n32 i : Int32).toInt = -10 - i := by
      rw [Int32.toInt_sub, z_int (by omega), h10]
      show (-10 - (i : Int)).bmod (2 ^ 32) = _
      rw [Int.bmod_eq_of_le (by omega) (by omega)]
    rw [e1]; omega
  unfold sp_X12_create aNew bnd
  rw [v.2.1]
  dsimp only
  generalize (-10 - n32 i : Int32) = w at sw ⊢
  obtain ⟨S1, e1, a1, r1, n1⟩ := rx_cr1 (A := A) (i := i) (fu := fu) (w := w) L f.2.2.1 0 fu S false (by omega) (by have := wf.2.2; have h : f.2.2.1 ≤ 12 := wf.2.2; omega) v vn wf.2.2
  obtain ⟨S2, e2, a2, n2⟩ := rx_cr2 (E := E) (m := m) (fu := fu) (x := f) (l := f.1) (w := w) 12 0 fu S1 (by omega) (by omega) (vn_eqL n1 (fun z _ => (if_neg (Nat.not_lt_zero z)).symm))
  refine Exists.elim ?_ (fun S3 (h3 : _ ∧ RM E S3 m A i 4 _ ∧ AgL E m [35, 36] [39] S S3) => ⟨S3, (e1.trans e2).trans h3.1, h3.2.1, h3.2.2⟩)
  have a02 : AgL E m [35, 36] [39] S S2 := agl_trans a1 (agl_mono a2 (fun _ z => absurd z List.not_mem_nil) (fun _ z => z))
  rw [Bool.false_or] at r1
  have eh : hasR w f.2.1 0 f.2.2.1 = hasS w f.2.1 f.2.2.1 := rfl
  rw [eh] at r1
  cases hc : hasS w f.2.1 f.2.2.1 with
  | true =>
    rw [hc] at r1
    have r1' : RM E S1 m A i 0 (f, 4) := r1
    have h4 : ((f, (4 : Int32)) : Ms).2 ≠ 0 := (by decide : (4 : Int32) ≠ 0)
    have h6 : ((f, (4 : Int32)) : Ms).2 ≠ 6 := (by decide : (4 : Int32) ≠ 6)
    have h35 : S2.1 m 35 = 4 := by rw [agl_f a2 rfl]; exact (r1'.2.2.1 h6).1
    have r2 : RM E S2 m A i 0 ((rep w (-2) f.1, f.2), 4) := ⟨vre_ag L r1'.1 (agl_mono a2 (fun _ z => absurd z List.not_mem_nil) (by decide)), by rw [agl_f a2 rfl]; exact r1'.2.1, fun _ => ⟨h35, (by decide : (0 : Int32) ≤ 4)⟩, fun z => absurd z (show ¬ (4 : Int32) = 0 by decide), fun z => absurd z (show ¬ (4 : Int32) = 6 by decide), by rw [agl_f a2 rfl]; exact r1'.2.2.2.2.2⟩
    have P := rv_id (rx_push (fu := fu) (x := w) L hm (by decide) r2 (fun _ => sw))
    obtain ⟨S3, e3, v3, a3⟩ := P
    refine ⟨S3, e3, ?_, agl_trans a02 a3⟩
    rw [Bool.not_true, aReq_f rfl]
    exact rm_k v3 (by decide)
  | false =>
    rw [hc] at r1
    have r1' : RM E S1 m A i 0 (f, 0) := r1
    have K := rm_now (k2 := 0) (x := (rep w (-2) f.1, f.2)) L r1' rfl a2 n2 ⟨sv_rep wf.1 sv_top, wf.2⟩
    obtain ⟨S3, e3, v3, a3⟩ := rv_id (rx_push (fu := fu) (x := w) L hm (by decide) K.1 (fun _ => sw))
    refine ⟨S3, e3, ?_, agl_trans a02 a3⟩
    rw [Bool.not_false, aReq_t]
    exact rm_k v3 (by decide)
theorem cls_lt {d : Dcl} {b : Nat} (h : cls d b = true) : 2 ≤ b ∧ b < d.1 := by
  simp only [cls, Bool.and_eq_true, decide_eq_true_eq] at h
  exact h.1
theorem mres_ne {d : Dcl} {r : Int32} (h : r = -1 ∨ ∃ n, r = n32 n ∧ isT d n = true) (h1 : r ≠ -1) : svA d r := by
  rcases h with h | ⟨n, h, hn⟩
  · exact absurd h h1
  · rw [h]; exact sv_n hn
theorem ri_obj {f : Fr} {op : Nat} {x : Int32} (hfu : 30 ≤ fu) (L : LR E m) (hA : EI A) (hs : cst A.2.2 = true) (hop : 32 ≤ op ∧ op ≤ 37) (hx : okX A op x) (hi : i < 100) (v : RM E S m A i 0 (f, 0)) : Rv E m A i 4 S (sp_X12_useObject fu E S m (n32 op) x) (if op = 34 then aNew A (-10 - n32 i) (f, 0) else if 35 ≤ op then aCall A op x.toNatClampNeg (f, 0) else aObj A op x (f, 0)) := by
  have hm := hA.2.2.2.1
  have hd := hA.1
  have h20 := hd.2.1
  have hme := hA.2.2.1 hs
  have mo := hA.2.1.2.2.2 _ hme
  have h30 := hA.2.1.2.1
  have hf30 := hA.2.1.1
  have h45 : op ≤ 45 := by omega
  unfold sp_X12_useObject aObj
  dsimp only
  by_cases h1 : op = 32
  · subst h1
    obtain ⟨n, rfl, hn⟩ := hx.2.2.2.1 (Or.inl rfl)
    have fo := hA.2.1.2.2.1 n hn
    have hb := cls_lt fo.1
    rw [if_pos (show n32 32 = 32 from rfl), if_neg (show ¬ 32 = 34 by decide), if_neg (show ¬ 35 ≤ 32 by decide), if_pos rfl, if_pos (by rw [z_inb (by omega)]; omega), z_nat (by omega), (v.1.2.1.2.2.1 n hn).1]
    unfold sp_X12_popObject
    rw [show (8 : Int32) * n32 (fown A.2.1 n) = n32 (8 * fown A.2.1 n) from z_mul 8 _]
    refine rv_bind (rv_id (rx_popT hfu L hd v n6_0 (sv_n (isTb hb.2)))) (fun S1 v1 => ?_)
    rw [if_pos (by rw [z_inb (by omega)]; omega), (v1.1.2.1.2.2.1 n hn).2]
    exact rv_k (rv_id (rx_pushT L hm (by decide) v1 (sv_n fo.2) (by
      have := isT_lt hd fo.2
      intro e
      have := z_ne1 (n := ftyp A.2.1 n) (by omega)
      rw [e] at this
      exact this.mp rfl))) (by decide)
  rw [if_neg (op_ne (k := 32) h45 (by decide) h1)]
  by_cases h2 : op = 33
  · subst h2
    obtain ⟨n, rfl, hn⟩ := hx.2.2.2.1 (Or.inr rfl)
    have fo := hA.2.1.2.2.1 n hn
    have hb := cls_lt fo.1
    rw [if_pos (show n32 33 = 33 from rfl), if_neg (show ¬ 33 = 34 by decide), if_neg (show ¬ 35 ≤ 33 by decide), if_neg (show ¬ 33 = 32 by decide), if_pos rfl, if_pos (by rw [z_inb (by omega)]; omega), z_nat (by omega), (v.1.2.1.2.2.1 n hn).2]
    refine rv_k (rv_bind (rx_popT hfu L hd v n6_0 (sv_n fo.2)) (fun S1 v1 => ?_)) (show 0 ≤ 4 by decide)
    unfold jb_X12_useObject_123 jb_X12_useObject_127
    have h61 := n6_popT (d := A.1) (ty := n32 (ftyp A.2.1 n)) (n6_0 (f := f))
    generalize aPopT A.1 (n32 (ftyp A.2.1 n)) ((f, 0) : Ms) = z at v1 h61 ⊢
    have ve := v1.1
    obtain ⟨S', r', e, v', a', -⟩ := rx_pop hfu L v1 h61 (fun o => (o == -4 && fown A.2.1 n == mown A.2.1 (cme A.2.2)) || fitsA A.1 o (n32 (8 * fown A.2.1 n))) (fun u => some u.2) (fun u12 => if u12.1 = 0 then ((sp_X12_drop fu E u12.2 m 1).bind fun u13 => some u13.2) else ((sp_X12_top fu E u12.2 m 0).bind fun u14 => if inb (n32 n) 30 = true then ((sp_X12_fits fu E u14.2 m u14.1 (8 * (u14.2.2.1 (E.2 m 5) n))).bind fun u17 => if u17.1 = 0 then ((sp_X12_top fu E u17.2 m 0).bind fun u20 => if u20.1 = (-4) then (if inb (n32 n) 30 = true then (if inb (u20.2.1 m 16) 30 = true then (if (u20.2.2.1 (E.2 m 5) n) = (u20.2.2.1 (E.2 m 8) (u20.2.1 m 16).toNatClampNeg) then ((sp_X12_require fu E u20.2 m 1).bind fun u18 => (sp_X12_drop fu E u18 m 1).bind fun u19 => some u19.2) else ((sp_X12_require fu E u20.2 m 0).bind fun u21 => (sp_X12_drop fu E u21 m 1).bind fun u22 => some u22.2)) else none) else none) else ((sp_X12_require fu E u20.2 m 0).bind fun u21 => (sp_X12_drop fu E u21 m 1).bind fun u22 => some u22.2)) else ((sp_X12_require fu E u17.2 m 1).bind fun u18 => (sp_X12_drop fu E u18 m 1).bind fun u19 => some u19.2)) else none)) (fun _ => rfl) (fun h hh => by
      obtain ⟨vn, w⟩ := v1.2.2.2.1 h
      dsimp only
      have et := rx_top0 (fu := fu) vn w.2.2 hh
      rw [if_neg (by decide), et, Option.bind_some, if_pos (by rw [z_inb (by omega)]; omega)]
      dsimp only
      rw [(ve.2.1.2.2.1 n hn).1, show (8 : Int32) * n32 (fown A.2.1 n) = n32 (8 * fown A.2.1 n) from z_mul 8 _, r_fits hd ve.1 hfu (w.2.1 _ (by omega)) (sv_n (isTb hb.2)), Option.bind_some, b2_if]
      dsimp only
      rw [et, Option.bind_some]
      dsimp only
      rw [ve.2.2.2.1, z_nat (show cme A.2.2 < 2 ^ 31 by omega), (ve.2.1.2.2.2 _ hme).1, (ve.2.1.2.2.1 n hn).1]
      generalize z.1.2.1 (z.1.2.2.1 - 1) = o
      cases fitsA A.1 o (n32 (8 * fown A.2.1 n)) with
      | true => rw [if_pos rfl, Bool.or_true]; rfl
      | false =>
        rw [if_neg (by decide), Bool.or_false]
        by_cases c1 : o = -4
        · rw [if_pos c1, if_pos (by rw [z_inb (by omega)]; omega), if_pos (by rw [z_inb (by omega)]; omega), show (o == -4) = true from by rw [c1]; rfl, Bool.true_and]
          by_cases c2 : fown A.2.1 n = mown A.2.1 (cme A.2.2)
          · rw [if_pos (by rw [c2]), show (fown A.2.1 n == mown A.2.1 (cme A.2.2)) = true from by rw [beq_iff_eq]; exact c2]; rfl
          · rw [if_neg (by rw [z_eq (by omega) (by omega)]; exact c2), show (fown A.2.1 n == mown A.2.1 (cme A.2.2)) = false from beq_eq_false_iff_ne.mpr c2]; rfl
        · rw [if_neg c1, show (o == -4) = false from beq_eq_false_iff_ne.mpr c1, Bool.false_and]; rfl)
    exact ⟨S', e, v', a'⟩
  rw [if_neg (op_ne (k := 33) h45 (by decide) h2)]
  by_cases h3 : op = 34
  · subst h3
    rw [if_pos (show n32 34 = 34 from rfl), if_pos rfl]
    exact rv_id (rx_new hfu L hA hi v)
  rw [if_neg (op_ne (k := 34) h45 (by decide) h3), if_neg h3, if_pos (show 35 ≤ op by omega)]
  obtain ⟨n, rfl, hn, -⟩ := hx.2.2.2.2.2.1 (by omega)
  rw [z_nat (by omega)]
  unfold aCall
  dsimp only
  by_cases h4 : op = 35
  · subst h4
    rw [if_pos (show n32 35 = 35 from rfl), if_pos rfl]
    exact rv_k (rv_id (rx_con hfu L hA hs hn n6_0 v)) (by decide)
  rw [if_neg (op_ne (k := 35) h45 (by decide) h4), if_neg h4]
  refine rv_bind (rx_args hfu L hA hn n6_0 v) (fun S1 v1 => ?_)
  have h61 := n6_pars (d := A.1) (f := mpty A.2.1 n) (mpcn A.2.1 n) (n6_0 (f := f))
  generalize aPars A.1 (mpty A.2.1 n) (mpcn A.2.1 n) ((f, 0) : Ms) = z at v1 h61 ⊢
  have mn := hA.2.1.2.2.2 n hn
  have fin : ∀ (S2 : St) (w : Ms), RM E S2 m A i 0 w → Rv E m A i 4 S2 ((sp_X12_pushType fu E S2 m (mres A.2.1 n)).bind fun u => some u) (if mres A.2.1 n = -1 then w else aPushT (cmost A.2.2) (mres A.2.1 n) w) := by
    intro S2 w vw
    by_cases hr : mres A.2.1 n = -1
    · rw [if_pos hr, hr]
      unfold sp_X12_pushType
      rw [if_pos rfl]
      exact rv_k (rv_some vw) (by decide)
    · rw [if_neg hr]
      exact rv_k (rv_id (rx_pushT L hm (by decide) vw (mres_ne mn.2.2.2.1 hr) hr)) (by decide)
  by_cases h5 : op = 36
  · subst h5
    rw [if_pos (show n32 36 = 36 from rfl), if_pos rfl, if_pos (by rw [z_inb (by omega)]; omega), (v1.1.2.1.2.2.2 n hn).1]
    unfold sp_X12_popObject
    rw [show (8 : Int32) * n32 (mown A.2.1 n) = n32 (8 * mown A.2.1 n) from z_mul 8 _]
    refine rv_bind (rv_id (rx_popT hfu L hd v1 h61 (sv_n (isTb mn.2.1)))) (fun S2 v2 => ?_)
    rw [if_pos (by rw [z_inb (by omega)]; omega), (v2.1.2.1.2.2.2 n hn).2.2.1]
    exact fin S2 _ v2
  · rw [if_neg (op_ne (k := 36) h45 (by decide) h5), if_neg h5, if_pos (by rw [z_inb (by omega)]; omega), (v1.1.2.1.2.2.2 n hn).2.2.1]
    exact fin S1 _ v1
/-- behind an instruction -/
def RZ (E : Ev) (S : St) (m : Nat) (A : Enw) (i : Nat) (y : Ms) : Prop := VRe E S m A ∧ S.1 m 43 = n32 i ∧ S.1 m 35 = y.2 ∧ 0 ≤ y.2 ∧ (y.2 = 0 → VN E S m y.1 ∧ WFr A.1 y.1) ∧ S.1 m 36 = (if y.2 = 0 then -1 else n32 i)
theorem rx_fin (L : LR E m) (hA : EI A) {o : Option St} (hh : y.2 = 0 → y.1.2.2.1 ≤ cmost A.2.2) (h : Rv E m A i 4 S o y) : ∃ S', (o.bind fun u => jb_X12_execute_99 fu E m u) = some S' ∧ RZ E S' m A i y ∧ AgL E m [35, 36] [39] S S' := by
  have hm := hA.2.2.2.1
  obtain ⟨S1, rfl, v1, a1⟩ := h
  rw [Option.bind_some]
  unfold jb_X12_execute_99
  by_cases h0 : y.2 = 0
  · obtain ⟨vn, wf⟩ := v1.2.2.2.1 h0
    refine ⟨S1, ?_, ⟨v1.1, v1.2.1, by rw [rm_0 v1 h0, h0], by rw [h0]; decide, fun _ => ⟨vn, wf⟩, by rw [v1.2.2.2.2.2, if_pos (Or.inl h0), if_pos h0]⟩, a1⟩
    rw [rx_well, rm_0 v1 h0, Option.bind_some, b2_if, if_pos (by decide)]
    dsimp only
    have := wf.2.2
    rw [c24, vn.2.2.1, v1.1.2.2.2.2.1, zi_le (by omega) (by omega), if_pos (hh h0)]
  · by_cases h6 : y.2 = 6
    · obtain ⟨e0, q, e24, hq, hq2⟩ := v1.2.2.2.2.1 h6
      have ag : AgL E m [35, 36] [39] S1 (sF (sF S1 m 35 6) m 36 (S1.1 m 43)) := agl_trans (agl_sF (by decide)) (agl_sF (by decide))
      refine ⟨_, ?_, ⟨vre_ag L v1.1 (agl_mono ag (by decide) (by decide)), ?_, ?_, by rw [h6]; decide, fun z => absurd z h0, ?_⟩, agl_trans a1 ag⟩
      · rw [rx_well, e0, Option.bind_some, b2_if, if_pos (by decide)]
        dsimp only
        rw [c24, e24, v1.1.2.2.2.2.1, zi_le (by omega) (by omega), if_neg (by omega), rx_fail e0, Option.bind_some]
      · rw [agl_f ag rfl]; exact v1.2.1
      · rw [h6]
        show up2 (up2 S1.1 m 35 6) m 36 (S1.1 m 43) m 35 = 6
        rw [up2_n _ _ (by simp), up2_s]
      · rw [if_neg h0]
        show up2 (up2 S1.1 m 35 6) m 36 (S1.1 m 43) m 36 = _
        rw [up2_s, v1.2.1]
    · have e := v1.2.2.1 h6
      refine ⟨S1, ?_, ⟨v1.1, v1.2.1, e.1, e.2, fun z => absurd z h0, by rw [v1.2.2.2.2.2, if_neg (fun z => z.elim h0 h6), if_neg h0]⟩, a1⟩
      rw [rx_well, Option.bind_some, b2_if, show (S1.1 m 35 == 0) = false from beq_eq_false_iff_ne.mpr (rm_e v1 h6 h0).2, if_neg (by decide)]
theorem zo_lt {α : Type} {op k : Nat} {x z : α} (h : op ≤ 45) (hk : k ≤ 45) : (if (OfNat.ofNat k : Int32) < n32 op then x else z) = (if k < op then x else z) := zi_lt (by omega) (by omega)
theorem ri_exec {f : Fr} (hfu : 30 ≤ fu) (L : LR E m) (hA : EI A) (hs : cst A.2.2 = true) (hi : i < cn A.2.2) (hx : okX A (cop A.2.2 i) (cx A.2.2 i)) (hp : PrL f.1) (hq : PrS f.2.1 f.2.2.1) (hh : (aExec A i f).2 = 0 → (aExec A i f).1.2.2.1 ≤ cmost A.2.2) (v : RM E S m A i 0 (f, 0)) : ∃ S', sp_X12_execute fu E S m = some S' ∧ RZ E S' m A i (aExec A i f) ∧ AgL E m [35, 36] [39] S S' := by
  have h100 := hA.2.2.2.2.2.1
  have hop := hA.2.2.2.2.2.2.2.1 i hi
  unfold sp_X12_execute bnd
  dsimp only
  rw [v.2.1, if_pos (by rw [z_inb (by omega)]; omega), if_pos (by rw [z_inb (by omega)]; omega), z_nat (by omega), (v.1.2.2.2.2.2.2.2.2.1 i hi).1, (v.1.2.2.2.2.2.2.2.2.1 i hi).2]
  revert hh
  unfold aExec
  dsimp only
  generalize cop A.2.2 i = op at hop hx
  generalize cx A.2.2 i = xx at hx
  rw [zo_lt (k := 9) hop (by decide), zo_lt (k := 15) hop (by decide), zo_lt (k := 26) hop (by decide), zo_lt (k := 31) hop (by decide), zo_lt (k := 37) hop (by decide)]
  by_cases h9 : op ≤ 9
  · rw [if_neg (show ¬ 9 < op by omega), if_pos (Or.inl h9)]
    intro hh
    exact rx_fin L hA hh (ri_mov hfu L hA h9 hx hp v)
  by_cases h15 : op ≤ 15
  · rw [if_pos (show 9 < op by omega), if_neg (show ¬ 15 < op by omega), if_neg (show ¬ (op ≤ 9 ∨ op = 21) by omega), if_pos h15]
    intro hh
    exact rx_fin L hA hh (ri_shu hfu L hA ⟨by omega, h15⟩ hq v)
  by_cases h26 : op ≤ 26
  · rw [if_pos (show 9 < op by omega), if_pos (show 15 < op by omega), if_neg (show ¬ 26 < op by omega), if_neg h15, if_pos h26]
    have N := ri_num hfu L hA hop hx v
    by_cases h21 : op = 21
    · subst h21
      rw [if_pos rfl] at N
      rw [if_pos (show 21 ≤ 9 ∨ 21 = 21 from Or.inr rfl)]
      intro hh
      exact rx_fin L hA hh N
    · rw [if_neg h21] at N
      rw [if_neg (show ¬ (op ≤ 9 ∨ op = 21) by omega)]
      intro hh
      exact rx_fin L hA hh N
  rw [if_pos (show 9 < op by omega), if_pos (show 15 < op by omega), if_pos (show 26 < op by omega), if_neg (show ¬ (op ≤ 9 ∨ op = 21) by omega), if_neg h15, if_neg h26]
  by_cases h31 : op ≤ 31
  · rw [if_neg (show ¬ 31 < op by omega), if_pos h31]
    intro hh
    exact rx_fin L hA hh (ri_end hfu L hA hs hop ⟨by omega, h31⟩ v)
  rw [if_pos (show 31 < op by omega), if_neg h31]
  by_cases h37 : op ≤ 37
  · rw [if_neg (show ¬ 37 < op by omega)]
    have O := ri_obj hfu L hA hs ⟨by omega, h37⟩ hx (by omega) v
    by_cases h34 : op = 34
    · rw [if_pos h34] at O ⊢
      intro hh
      exact rx_fin L hA hh O
    · rw [if_neg h34] at O ⊢
      by_cases h35 : 35 ≤ op
      · rw [if_pos h35] at O
        rw [if_pos (show 35 ≤ op ∧ op ≤ 37 from ⟨h35, h37⟩)]
        intro hh
        exact rx_fin L hA hh O
      · rw [if_neg h35] at O
        rw [if_neg (show ¬ (35 ≤ op ∧ op ≤ 37) by omega), if_neg (show ¬ (38 ≤ op ∧ op ≤ 43) by omega)]
        intro hh
        exact rx_fin L hA hh O
  · rw [if_pos (show 37 < op by omega), if_neg (show ¬ op = 34 by omega), if_neg (show ¬ (35 ≤ op ∧ op ≤ 37) by omega)]
    have O := ri_arr hfu L hA hop hx (by omega) v
    by_cases h43 : op ≤ 43
    · rw [if_pos h43] at O
      rw [if_pos (show 38 ≤ op ∧ op ≤ 43 from ⟨by omega, h43⟩)]
      intro hh
      exact rx_fin L hA hh O
    · rw [if_neg h43] at O
      rw [if_neg (show ¬ (38 ≤ op ∧ op ≤ 43) by omega)]
      intro hh
      exact rx_fin L hA hh O
end RE
