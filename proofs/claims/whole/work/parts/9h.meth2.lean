/-! declareMethod: the reference's side; put together -/
section MT2
variable {E : Ev} {S : St} {a m a3 fu : Nat} {z z' : Zs} {d : Dcl} {rc : Int32 → St → Option (Int32 × St)} {x4 : Int32}
theorem ro_at (Lm : LR E m) {S3 : St} {k : Int32} (h : Ag (RFc E m) S S3) (v : VY E S3 m z') : RO E S m ((sp_X12_no fu E S3 m k).bind fun u => some (u.1, u.2)) k 0 z' := ⟨_, rfl, up2_s _ _, vy_0 Lm v, Ag_trans h (rfc_F Lm)⟩
theorem itf_nc {b : Nat} (h2 : 3 ≤ b) (hb : b < d.1) (h : cls d b = false) : itf d b = true := by
  unfold cls at h
  unfold itf
  rw [decide_eq_true (show 2 ≤ b by omega), decide_eq_true hb] at h ⊢
  simpa using h
theorem itf_lo (hd : DI d) {b : Nat} (h : b ≤ 2) : itf d b = false := by
  unfold itf
  rw [hd.2.2.2 b (by omega), Bool.and_false]
/-- the reference's tests -/
theorem r_alw (hd : DI d) (v : VRt E S m d) (x y r w : Int32) : ((sp_X12_isClass fu E S m x).bind fun u4 => if u4.1 = 0 then (if y = 0 then (if x ≤ 2 then (jb_X12_declareMethod_46 fu E m x y r w 0 u4.2) else (if (u4.2.1 m 1) ≤ x then (jb_X12_declareMethod_46 fu E m x y r w 0 u4.2) else (jb_X12_declareMethod_46 fu E m x y r w 1 u4.2))) else (jb_X12_declareMethod_46 fu E m x y r w 0 u4.2)) else (jb_X12_declareMethod_46 fu E m x y r w 1 u4.2)) = if mAl d x y r = true then jb_X12_declareMethod_86 fu E m x y r w S else ((sp_X12_no fu E S m 1).bind fun u => some (u.1, u.2)) := by
  have jb0 : jb_X12_declareMethod_46 fu E m x y r w 0 S = ((sp_X12_no fu E S m 1).bind fun u => some (u.1, u.2)) := by
    unfold jb_X12_declareMethod_46
    exact if_pos rfl
  have jb1 : jb_X12_declareMethod_46 fu E m x y r w 1 S = if (if y < 0 then false else if y ≤ 2 then (if y = 2 then decide (r = -1) else (decide (r = -1) || tw d r)) else false) = true then jb_X12_declareMethod_86 fu E m x y r w S else ((sp_X12_no fu E S m 1).bind fun u => some (u.1, u.2)) := by
    unfold jb_X12_declareMethod_46
    rw [if_neg (show ¬ ((1 : Int32) = 0) by decide)]
    by_cases h0 : y < 0
    · rw [if_pos h0, if_pos h0, if_neg (by decide)]
    rw [if_neg h0, if_neg h0]
    by_cases h2 : y ≤ 2
    rotate_left
    · rw [if_neg h2, if_pos (show 2 < y from Int32.not_le.mp h2), if_neg (by decide)]
    rw [if_pos h2, if_neg (show ¬ 2 < y from Int32.not_lt.mpr h2)]
    by_cases e : r = -1
    · rw [if_pos e, decide_eq_true e, Bool.true_or]
      by_cases q : y = 2
      · rw [if_pos q, if_pos rfl]
      · rw [if_neg q, if_pos rfl]
    · rw [if_neg e, decide_eq_false e, Bool.false_or, r_typ hd v, Option.bind_some, b2_if]
      show (if tw d r = true then _ else _) = _
      by_cases q : y = 2
      · rw [if_pos q, if_neg (show ¬ (if y = 2 then false else tw d r) = true by rw [if_pos q]; decide)]
        cases tw d r <;> rfl
      · rw [if_neg q, if_neg q]
  rw [r_cls hd v, Option.bind_some, b2_if]
  dsimp only
  rw [v.1, jb0, jb1]
  have key : (if (decide (0 ≤ x) && cls d x.toNatClampNeg) = true then true else if y = 0 then (if x ≤ 2 then false else if n32 d.1 ≤ x then false else true) else false) = (ow d x || (decide (y = 0) && iw d x)) := by
    show (if ow d x = true then true else _) = _
    cases hc : ow d x with
    | true => rfl
    | false =>
      rw [if_neg (by decide), Bool.false_or]
      by_cases e : y = 0
      rotate_left
      · rw [if_neg e, decide_eq_false e, Bool.false_and]
      rw [if_pos e, decide_eq_true e, Bool.true_and]
      unfold iw
      rcases z_sgn x with h | ⟨n, hn, rfl⟩
      · have h0 : decide (0 ≤ x) = false := by
          rw [decide_eq_false_iff_not, z_l32]
          rw [z_i32] at h
          omega
        rw [if_pos (show x ≤ 2 by rw [z_i32] at h; rw [z_l32]; exact Int.le_of_lt (Int.lt_trans h (by decide))), h0]; rfl
      · have h20 := hd.2.1
        unfold ow at hc
        rw [n32_ge hn, z_nat hn, Bool.true_and] at hc ⊢
        rw [show (2 : Int32) = n32 2 from rfl, zi_le hn (by decide), zi_le (by omega) hn]
        by_cases h2 : n ≤ 2
        · rw [if_pos h2, itf_lo hd h2]
        · rw [if_neg h2]
          by_cases h3 : d.1 ≤ n
          · rw [if_pos h3]
            unfold itf
            rw [decide_eq_false (show ¬ n < d.1 by omega), Bool.and_false, Bool.false_and]
          · rw [if_neg h3, itf_nc (by omega) (by omega) hc]
  have sh : ∀ {α : Type} (u w : α), (if (decide (0 ≤ x) && cls d x.toNatClampNeg) = true then u else if y = 0 then (if x ≤ 2 then w else if n32 d.1 ≤ x then w else u) else w) = if (ow d x || (decide (y = 0) && iw d x)) = true then u else w := fun u w => by
    rw [← key]
    by_cases h1 : (decide (0 ≤ x) && cls d x.toNatClampNeg) = true
    · rw [if_pos h1, if_pos h1, if_pos rfl]
    · rw [if_neg h1, if_neg h1]
      by_cases h2 : y = 0
      · rw [if_pos h2, if_pos h2]
        by_cases h3 : x ≤ 2
        · rw [if_pos h3, if_pos h3, if_neg (by decide)]
        · rw [if_neg h3, if_neg h3]
          by_cases h4 : n32 d.1 ≤ x
          · rw [if_pos h4, if_pos h4, if_neg (by decide)]
          · rw [if_neg h4, if_neg h4, if_pos rfl]
      · rw [if_neg h2, if_neg h2, if_neg (by decide)]
  rw [sh]
  unfold mAl
  by_cases h0 : y < 0
  · rw [if_pos h0, if_pos h0, if_neg (show ¬ false = true by decide), ite_self]
  rw [if_neg h0, if_neg h0]
  by_cases h2 : y ≤ 2
  rotate_left
  · rw [if_neg h2, if_neg h2, if_neg (show ¬ false = true by decide), ite_self]
  rw [if_pos h2, if_pos h2]
  cases (ow d x || (decide (y = 0) && iw d x))
  · rfl
  · rfl
/-- the parameters are copied -/
theorem r_mtL (Lm : LR E m) {n pc : Nat} {p : Nat → Nat} (hn : n < 30) (hpc : pc ≤ 6) : ∀ (k i F : Nat) (S : St), i + k = pc → k + 1 ≤ F → S.1 m 7 = n32 n → (∀ j, j < pc → S.2.1 (E.2 m 14) j = n32 (p j)) → ∃ S', lp_X12_declareMethod_145 fu E m F (n32 pc) (n32 i) S = some (n32 (n + 1) - 1, S') ∧ S'.1 m 7 = n32 (n + 1) ∧ AgL E m [7] [12] S S' ∧ (∀ q, q < 6 * n + i ∨ 6 * n + pc ≤ q → S'.2.1 (E.2 m 12) q = S.2.1 (E.2 m 12) q) ∧ ∀ j, i ≤ j → j < pc → S'.2.1 (E.2 m 12) (6 * n + j) = n32 (p j) := by
  intro k
  induction k with
  | zero =>
    intro i F S hk hF h7 hp
    obtain ⟨F, rfl⟩ : ∃ z, F = z + 1 := ⟨F - 1, by omega⟩
    show ∃ S', bd_X12_declareMethod_145 fu E m _ (n32 pc) (n32 i) S = _ ∧ _
    unfold bd_X12_declareMethod_145 bnd
    rw [zi_le (by omega) (by omega), if_pos (by omega), h7, show n32 n + 1 = n32 (n + 1) from z_add _ 1]
    exact ⟨_, congrArg some (Prod.ext (congrArg (· - 1) (up2_s _ _)) rfl), up2_s _ _, agl_sF (by decide), fun _ _ => rfl, fun j h1 h2 => absurd h2 (by omega)⟩
  | succ k ih =>
    intro i F S hk hF h7 hp
    obtain ⟨F, rfl⟩ : ∃ z, F = z + 1 := ⟨F - 1, by omega⟩
    have hin : inb (n32 i) 6 = true := by rw [z_inb (by omega)]; omega
    have hin2 : inb (n32 (6 * n + i)) 180 = true := by rw [z_inb (by omega)]; omega
    show ∃ S', bd_X12_declareMethod_145 fu E m (lp_X12_declareMethod_145 fu E m F) (n32 pc) (n32 i) S = _ ∧ _
    unfold bd_X12_declareMethod_145 bnd
    rw [zi_le (by omega) (by omega), if_neg (by omega), if_pos hin, h7, show (6 : Int32) = n32 6 from rfl, z_mul, z_add, if_pos hin2, z_nat (show i < 2 ^ 31 by omega), z_nat (show 6 * n + i < 2 ^ 31 by omega), hp i (by omega), show n32 i + 1 = n32 (i + 1) from z_add i 1]
    have n14 : E.2 m 14 ≠ E.2 m 12 := lr_ne Lm rfl rfl (by decide)
    obtain ⟨S', e, e7, al, o1, o2⟩ := ih (i + 1) F (sG S (E.2 m 12) (6 * n + i) (n32 (p i))) (by omega) (by omega) h7 (fun j hj => (up2_n _ _ (fun e => n14 e.1)).trans (hp j hj))
    refine ⟨S', e, e7, agl_trans (agl_sG (by decide)) al, fun q hq => (o1 q (by omega)).trans (up2_n _ _ (fun e => by have := e.2; omega)), fun j h1 h2 => ?_⟩
    by_cases c : j = i
    · rw [c, o1 _ (by omega)]; exact up2_s _ _
    · exact o2 j (by omega) h2
theorem r_Mt (Lm : LR E m) (hfu : 200 ≤ fu) (iz : IZ z) {S0 : St} (v0 : VY E S0 m (zDr z)) (e0 : S0.1 m 0 = 0) (hp : ∀ j, j < (zP z).1 → S0.2.1 (E.2 m 14) j = n32 ((zP z).2 j)) {k kd : Nat} {r : Int32} (hn : mcnt z.1.2.1 < 30) : RO E S0 m (jb_X12_declareMethod_86 fu E m (n32 k) (n32 kd) r (n32 (zP z).1) S0) 0 (n32 (mcnt z.1.2.1 + 1) - 1) (zMt z k kd r) := by
  have q7 : S0.1 m 7 = n32 (mcnt z.1.2.1) := v0.1.2.1.2.1
  have hin : inb (n32 (mcnt z.1.2.1)) 30 = true := by rw [z_inb (by omega)]; exact hn
  have p6 := iz.2.1.1
  unfold jb_X12_declareMethod_86 bnd
  dsimp only
  have nn : (n32 (mcnt z.1.2.1)).toNatClampNeg = mcnt z.1.2.1 := z_nat (show mcnt z.1.2.1 < 2 ^ 31 by omega)
  rw [q7, show (30 : Int32) = n32 30 from rfl, zi_eq (by omega) (by decide), if_neg (by omega), if_pos hin, nn]
  rw [show (sG S0 (E.2 m 8) (mcnt z.1.2.1) (n32 k)).1 = S0.1 from rfl, q7, if_pos hin, nn]
  rw [show (sG (sG S0 (E.2 m 8) (mcnt z.1.2.1) (n32 k)) (E.2 m 9) (mcnt z.1.2.1) (n32 kd)).1 = S0.1 from rfl, q7, if_pos hin, nn]
  rw [show (sG (sG (sG S0 (E.2 m 8) (mcnt z.1.2.1) (n32 k)) (E.2 m 9) (mcnt z.1.2.1) (n32 kd)) (E.2 m 10) (mcnt z.1.2.1) r).1 = S0.1 from rfl, q7, if_pos hin, nn]
  have ne : ∀ i j : Nat, isA10 i = true → isA10 j = true → i ≠ j → E.2 m i ≠ E.2 m j := fun i j hi hj h => lr_ne Lm hi hj h
  have hG : ∀ G : St, G = sG (sG (sG (sG S0 (E.2 m 8) (mcnt z.1.2.1) (n32 k)) (E.2 m 9) (mcnt z.1.2.1) (n32 kd)) (E.2 m 10) (mcnt z.1.2.1) r) (E.2 m 11) (mcnt z.1.2.1) (n32 (zP z).1) → G.1 = S0.1 ∧ AgL E m [] [8, 9, 10, 11] S0 G ∧ ∀ i, i < mcnt z.1.2.1 + 1 → G.2.1 (E.2 m 8) i = n32 (if i = mcnt z.1.2.1 then k else mown z.1.2.1 i) ∧ G.2.1 (E.2 m 9) i = n32 (if i = mcnt z.1.2.1 then kd else mkin z.1.2.1 i) ∧ G.2.1 (E.2 m 10) i = up1 (mres z.1.2.1) (mcnt z.1.2.1) r i ∧ G.2.1 (E.2 m 11) i = n32 (if i = mcnt z.1.2.1 then (zP z).1 else mpcn z.1.2.1 i) := by
    intro G e
    subst e
    have b4 := v0.1.2.1.2.2.2
    refine ⟨rfl, agl_trans (agl_sG (by decide)) (agl_trans (agl_sG (by decide)) (agl_trans (agl_sG (by decide)) (agl_sG (by decide)))), fun i hi => ⟨?_, ?_, ?_, ?_⟩⟩
    · exact (up2_n _ _ (fun e => ne 8 11 rfl rfl (by decide) e.1)).trans ((up2_n _ _ (fun e => ne 8 10 rfl rfl (by decide) e.1)).trans ((up2_n _ _ (fun e => ne 8 9 rfl rfl (by decide) e.1)).trans (app_n (fun q => (b4 i q).1) hi)))
    · exact (up2_n _ _ (fun e => ne 9 11 rfl rfl (by decide) e.1)).trans ((up2_n _ _ (fun e => ne 9 10 rfl rfl (by decide) e.1)).trans (app_n (fun q => (up2_n _ _ (fun e => ne 9 8 rfl rfl (by decide) e.1)).trans (b4 i q).2.1) hi))
    · exact (up2_n _ _ (fun e => ne 10 11 rfl rfl (by decide) e.1)).trans (app_x (fun q => (up2_n _ _ (fun e => ne 10 9 rfl rfl (by decide) e.1)).trans ((up2_n _ _ (fun e => ne 10 8 rfl rfl (by decide) e.1)).trans (b4 i q).2.2.1)) hi)
    · exact app_n (fun q => (up2_n _ _ (fun e => ne 11 10 rfl rfl (by decide) e.1)).trans ((up2_n _ _ (fun e => ne 11 9 rfl rfl (by decide) e.1)).trans ((up2_n _ _ (fun e => ne 11 8 rfl rfl (by decide) e.1)).trans (b4 i q).2.2.2.1))) hi
  obtain ⟨g1, gal, gs⟩ := hG _ rfl
  generalize sG (sG (sG (sG S0 (E.2 m 8) (mcnt z.1.2.1) (n32 k)) (E.2 m 9) (mcnt z.1.2.1) (n32 kd)) (E.2 m 10) (mcnt z.1.2.1) r) (E.2 m 11) (mcnt z.1.2.1) (n32 (zP z).1) = G at g1 gal gs ⊢
  obtain ⟨S', e, e7, al', o1, o2⟩ := r_mtL (fu := fu) (p := (zP z).2) Lm hn p6 (zP z).1 0 fu G (by omega) (by omega) ((congrFun (congrFun g1 _) _).trans q7) (fun j hj => by rw [agl_a Lm gal (j := 14) rfl rfl rfl]; exact hp j hj)
  have al : AgL E m [7] [8, 9, 10, 11, 12] S0 S' := agl_trans (agl_mono gal (fun _ w => absurd w List.not_mem_nil) (by decide)) (agl_mono al' (by decide) (by decide))
  have vb : VRb E S' m (bM z.1.2.1 k kd r (zP z)) := by
    obtain ⟨b1, b2', b3, b4⟩ := v0.1.2.1
    refine ⟨(agl_f al rfl).trans b1, e7, fun i hi => ?_, fun j hj => ?_⟩
    · rw [agl_a Lm al (j := 5) rfl rfl rfl, agl_a Lm al (j := 6) rfl rfl rfl]; exact b3 i hi
    · have hj : j < mcnt z.1.2.1 + 1 := hj
      obtain ⟨w1, w2, w3, w4⟩ := gs j hj
      rw [agl_a Lm al' (j := 8) rfl rfl rfl, agl_a Lm al' (j := 9) rfl rfl rfl, agl_a Lm al' (j := 10) rfl rfl rfl, agl_a Lm al' (j := 11) rfl rfl rfl]
      refine ⟨w1, w2, w3, w4, fun i hi => ?_⟩
      show S'.2.1 (E.2 m 12) (6 * j + i) = n32 ((if j = mcnt z.1.2.1 then (zP z).2 else mpty z.1.2.1 j) i)
      have hi : i < (if j = mcnt z.1.2.1 then (zP z).1 else mpcn z.1.2.1 j) := hi
      by_cases c : j = mcnt z.1.2.1
      · rw [if_pos c] at hi ⊢
        rw [c]
        exact o2 i (Nat.zero_le _) hi
      · rw [if_neg c] at hi ⊢
        have h6 := (iz.1.2.1.2.2.2 j (by omega)).2.2.2.2.1
        rw [o1 _ (by omega), agl_a Lm gal (j := 12) rfl rfl rfl]
        exact (b4 j (show j < mcnt z.1.2.1 by omega)).2.2.2.2 i hi
  refine ⟨S', e, (agl_f al rfl).trans e0, ?_, agl_rf al rfl⟩
  exact vy_mk (p := (0, (zP z).2)) (vrt_agl Lm v0.1.1 al rfl rfl rfl) vb (vrc_agl Lm v0.1.2.2 al rfl rfl rfl) (vyp_agl Lm v0.2.1 al rfl rfl rfl) (vyd_agl Lm v0.2.2.1 al rfl rfl rfl) (vri_ag Lm v0.2.2.2.1 al rfl rfl rfl) (vrd_ag Lm v0.2.2.2.2.1 al rfl rfl rfl) ((agl_f al rfl).trans v0.2.2.2.2.2.1) ((agl_f al rfl).trans v0.2.2.2.2.2.2.1) ((agl_f al rfl).trans v0.2.2.2.2.2.2.2)
theorem go_mt (L : LX E a) (Lm : LR E m) (h3 : E.1 a3 = some (1, 2, 1)) (hfu : 200 ≤ fu) (iz : IZ z) (vx : VX E S a z) (vy : VY E S m z) (x y r : Int32) : GoS E a m a3 fu rc x4 (sp_L_declareMethod fu E S a x y r a3) (fun S => sp_X12_declareMethod fu E S m x y r) := by
  have hd := iz.1.1
  have h30 := iz.1.2.1.2.1
  have k9 : S.1 (E.2 a 1) 9 = n32 (mcnt z.1.2.1) := vx.1.2.1.2.1
  have ta := t_alw (fu := fu) hd vx x y r
  have hR : ∀ {S1 : St}, VY E S1 m z → ∃ S3, VY E S3 m (zDr z) ∧ S3.1 m 0 = 0 ∧ (∀ j, j < (zP z).1 → S3.2.1 (E.2 m 14) j = n32 ((zP z).2 j)) ∧ Ag (RFc E m) S1 S3 ∧ sp_X12_declareMethod fu E S1 m x y r = if mAl z.1.1 x y r = true then jb_X12_declareMethod_86 fu E m x y r (n32 (zP z).1) S3 else ((sp_X12_no fu E S3 m 1).bind fun u => some (u.1, u.2)) := by
    intro S1 v
    have v0 := vy_0 Lm (x := 0) v
    have al : AgL E m [13] [] (sF S1 m 0 0) (sF (sF S1 m 0 0) m 13 0) := agl_sF (by decide)
    refine ⟨sF (sF S1 m 0 0) m 13 0, ?_, (up2_n _ _ (fun e => by simp at e)).trans (up2_s _ _), fun j hj => v0.2.1.2 j hj, Ag_trans (rfc_F Lm) (rfc_F Lm), ?_⟩
    · exact vy_mk (p := (0, (zP z).2)) (vrt_agl Lm v0.1.1 al rfl rfl rfl) (vrb_agl Lm v0.1.2.1 al rfl rfl rfl) (vrc_agl Lm v0.1.2.2 al rfl rfl rfl) ⟨up2_s _ _, fun k hk => absurd hk (Nat.not_lt_zero k)⟩ (vyd_agl Lm v0.2.2.1 al rfl rfl rfl) (vri_ag Lm v0.2.2.2.1 al rfl rfl rfl) (vrd_ag Lm v0.2.2.2.2.1 al rfl rfl rfl) ((agl_f al rfl).trans v0.2.2.2.2.2.1) ((agl_f al rfl).trans v0.2.2.2.2.2.2.1) ((agl_f al rfl).trans v0.2.2.2.2.2.2.2)
    · rw [← r_alw hd (vrt_agl Lm v0.1.1 al rfl rfl rfl), ← v0.2.1.1]
      rfl
  unfold sp_L_declareMethod
  by_cases c : mAl z.1.1 x y r = true
  rotate_left
  · refine gos_no (z' := zDr z) L Lm h3 vy (iz_Dr iz) "java/lang/IllegalArgumentException" 1 (by decide) (by decide) ?_ (fun S1 v => ?_)
    · unfold sp_X11_declareMethod
      rw [ta, Option.bind_some, b2_if, if_neg c]
      dsimp only
      obtain ⟨S2, e, v2, a2⟩ := c_dp (fu := fu) L vx
      rw [e, Option.bind_some]
      exact ⟨S2, rfl, v2, Ag_mono a2 (nrf_po Lm (lx_B L) (by decide))⟩
    · obtain ⟨S3, v3, _, _, ag3, e3⟩ := hR v
      show RO E S1 m (sp_X12_declareMethod fu E S1 m x y r) 1 0 (zDr z)
      rw [e3, if_neg c]
      exact ro_at Lm ag3 v3
  by_cases hn : mcnt z.1.2.1 < 30
  rotate_left
  · refine gos_no (z' := zDr z) L Lm h3 vy (iz_Dr iz) "java/lang/IllegalStateException" 2 (by decide) (by decide) ?_ (fun S1 v => ?_)
    · unfold sp_X11_declareMethod
      rw [ta, Option.bind_some, b2_if, if_pos c]
      dsimp only
      rw [k9, show (30 : Int32) = n32 30 from rfl, zi_lt (by omega) (by decide), if_neg hn]
      obtain ⟨S2, e, v2, a2⟩ := c_dp (fu := fu) L vx
      rw [e, Option.bind_some]
      exact ⟨S2, rfl, v2, Ag_mono a2 (nrf_po Lm (lx_B L) (by decide))⟩
    · obtain ⟨S3, v3, _, _, ag3, e3⟩ := hR v
      show RO E S1 m (sp_X12_declareMethod fu E S1 m x y r) 2 0 (zDr z)
      rw [e3, if_pos c]
      unfold jb_X12_declareMethod_86
      rw [show S3.1 m 7 = n32 (mcnt z.1.2.1) from v3.1.2.1.2.1, show (30 : Int32) = n32 30 from rfl, zi_eq (by omega) (by decide), if_pos (by omega)]
      exact ro_at Lm ag3 v3
  have c' := c
  unfold mAl at c'
  have y0 : ¬ y < 0 := fun e => by rw [if_pos e] at c'; exact absurd c' (by decide)
  rw [if_neg y0] at c'
  obtain ⟨kd, hkd31, rfl⟩ : ∃ n, n < 2 ^ 31 ∧ y = n32 n := (z_sgn y).resolve_left y0
  have y2 : kd ≤ 2 := by
    by_cases e : n32 kd ≤ 2
    · rw [show (2 : Int32) = n32 2 from rfl, z_le hkd31 (by decide)] at e; exact e
    · rw [if_neg e] at c'; exact absurd c' (by decide)
  rw [if_pos (show n32 kd ≤ 2 by rw [show (2 : Int32) = n32 2 from rfl, z_le hkd31 (by decide)]; exact y2)] at c'
  have hx : (ow z.1.1 x || (decide (n32 kd = 0) && iw z.1.1 x)) = true := by
    cases e : (ow z.1.1 x || (decide (n32 kd = 0) && iw z.1.1 x)) with
    | true => rfl
    | false => rw [e, if_neg (by decide)] at c'; exact absurd c' (by decide)
  rw [if_pos hx] at c'
  have hr : r = -1 ∨ ∃ n, r = n32 n ∧ isT z.1.1 n = true := by
    have w : decide (r = -1) = true ∨ tw z.1.1 r = true := by
      by_cases e : n32 kd = 2
      · rw [if_pos e] at c'; exact Or.inl c'
      · rw [if_neg e, Bool.or_eq_true] at c'; exact c'
    rcases w with w | w
    · exact Or.inl (of_decide_eq_true w)
    · unfold tw at w
      rw [Bool.and_eq_true] at w
      obtain ⟨n, hn31, e⟩ := ge0_n w.1
      refine Or.inr ⟨n, e, ?_⟩
      have := w.2
      rw [e, z_nat hn31] at this
      exact this
  obtain ⟨k, rfl, hk⟩ : ∃ k, x = n32 k ∧ (2 ≤ k ∧ k < z.1.1.1) := by
    rw [Bool.or_eq_true] at hx
    rcases hx with w | w
    · unfold ow at w
      rw [Bool.and_eq_true] at w
      obtain ⟨k, hk31, e⟩ := ge0_n w.1
      refine ⟨k, e, ?_⟩
      have := w.2
      rw [e, z_nat hk31] at this
      exact cls_lt this
    · rw [Bool.and_eq_true] at w
      have w := w.2
      unfold iw at w
      rw [Bool.and_eq_true] at w
      obtain ⟨k, hk31, e⟩ := ge0_n w.1
      refine ⟨k, e, ?_⟩
      have := w.2
      rw [e, z_nat hk31] at this
      unfold itf at this
      simp only [Bool.and_eq_true, decide_eq_true_eq] at this
      exact this.1
  refine gos_ok (z' := zMt z k kd r) L Lm h3 vy (iz_Mt iz hk y2 hr hn) (w := n32 (mcnt z.1.2.1 + 1) - 1) ?_ (fun S1 v => ?_)
  · unfold sp_X11_declareMethod
    rw [ta, Option.bind_some, b2_if, if_pos c]
    dsimp only
    rw [k9, show (30 : Int32) = n32 30 from rfl, zi_lt (by omega) (by decide), if_pos hn]
    exact c_Mt L Lm iz vx hn
  · obtain ⟨S3, v3, e0, hp, ag3, e3⟩ := hR v
    obtain ⟨S2, f1, f2, f3, f4⟩ := r_Mt (fu := fu) (k := k) (kd := kd) (r := r) Lm hfu iz v3 e0 hp hn
    refine ⟨S2, ?_, f2, f3, Ag_trans ag3 f4⟩
    show sp_X12_declareMethod fu E S1 m (n32 k) (n32 kd) r = _
    rw [e3, if_pos c]
    exact f1
end MT2
