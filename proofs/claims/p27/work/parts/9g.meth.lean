section MTH
variable {E : Ev} {S : St} {a m a3 fu T : Nat} {z : Zs} {d : Dcl}
def ow (d : Dcl) (x : Int32) : Bool := decide (0 ≤ x) && cls d x.toNatClampNeg
def iw (d : Dcl) (x : Int32) : Bool := decide (0 ≤ x) && itf d x.toNatClampNeg
def tw (d : Dcl) (x : Int32) : Bool := decide (0 ≤ x) && isT d x.toNatClampNeg
def mAl (d : Dcl) (x y r : Int32) : Bool := if y < 0 then false else if y ≤ 2 then (if (ow d x || (decide (y = 0) && iw d x)) = true then (if y = 2 then decide (r = -1) else (decide (r = -1) || tw d r)) else false) else false
theorem t_itw (hd : DI d) (v : VT E S T d) (x : Int32) : sp_X10_isInterface fu E S T x = some (b2 (iw d x), S) := by
  rcases z_sgn x with h | ⟨n, hn, rfl⟩
  · unfold sp_X10_isInterface iw
    have h0 : decide (0 ≤ x) = false := by
      rw [decide_eq_false_iff_not, z_l32]
      rw [z_i32] at h
      omega
    rw [if_pos (show x < 2 by rw [z_i32] at h ⊢; exact Int.lt_trans h (by decide)), h0]; rfl
  · rw [t_itf hd v hn]
    unfold iw
    rw [n32_ge hn, z_nat hn, Bool.true_and]
theorem t_alw (hd : DI z.1.1) (vx : VX E S a z) (x y r : Int32) : sp_X11_isMethodAllowed fu E S a x y r = some (b2 (mAl z.1.1 x y r), S) := by
  have jb : jb_X11_isMethodAllowed_39 fu E a y r S = some (b2 (if y = 2 then decide (r = -1) else (decide (r = -1) || tw z.1.1 r)), S) := by
    unfold jb_X11_isMethodAllowed_39
    by_cases h : y = 2
    · rw [if_pos h, if_pos h]
      by_cases e : r = -1
      · rw [if_pos e, decide_eq_true e]; rfl
      · rw [if_neg e, decide_eq_false e]; rfl
    · rw [if_neg h, if_neg h]
      by_cases e : r = -1
      · rw [if_pos e, decide_eq_true e]; rfl
      · rw [if_neg e, decide_eq_false e, t_typ hd vx.1.1, Option.bind_some, b2_if, Bool.false_or]
        unfold tw
        cases (decide (0 ≤ r) && isT z.1.1 r.toNatClampNeg) <;> rfl
  unfold sp_X11_isMethodAllowed mAl
  by_cases h0 : y < 0
  · rw [if_pos h0, if_pos h0]; rfl
  rw [if_neg h0, if_neg h0]
  by_cases h2 : y ≤ 2
  rotate_left
  · rw [if_neg h2, if_neg h2]; rfl
  rw [if_pos h2, if_pos h2, t_cls hd vx.1.1, Option.bind_some, b2_if]
  dsimp only
  rw [jb, t_itw hd vx.1.1, Option.bind_some, b2_if]
  dsimp only
  rw [jb]
  show (if ow z.1.1 x = true then _ else _) = _
  cases ow z.1.1 x
  · rw [Bool.false_or, if_neg (by decide)]
    by_cases e : y = 0
    · rw [if_pos e, decide_eq_true e, Bool.true_and]
      cases iw z.1.1 x <;> rfl
    · rw [if_neg e, decide_eq_false e, Bool.false_and]; rfl
  · rw [Bool.true_or, if_pos rfl, if_pos rfl]
def bM (b : Mb) (k kd : Nat) (r : Int32) (p : Pnd) : Mb := (b.1, (mcnt b + 1, (fun j => if j = mcnt b then k else mown b j), (fun j => if j = mcnt b then kd else mkin b j), up1 (mres b) (mcnt b) r, (fun j => if j = mcnt b then p.1 else mpcn b j), fun j => if j = mcnt b then p.2 else mpty b j))
def zDr (z : Zs) : Zs := (z.1, ((0, (zP z).2), z.2.1.2), z.2.2)
def zMt (z : Zs) (k kd : Nat) (r : Int32) : Zs := ((z.1.1, bM z.1.2.1 k kd r (zP z), z.1.2.2), ((0, (zP z).2), z.2.1.2), z.2.2)
theorem iz_Dr (iz : IZ z) : IZ (zDr z) := ⟨iz.1, ⟨Nat.zero_le _, Nat.zero_le _, fun k hk => absurd hk (Nat.not_lt_zero k)⟩, iz.2.2⟩
theorem bM_slo {b : Mb} {k kd : Nat} {r : Int32} {p : Pnd} {j : Nat} : mslo (bM b k kd r p) j = if j = mcnt b then psum p.2 p.1 else mslo b j := by
  unfold mslo
  show psum (if j = mcnt b then p.2 else mpty b j) (if j = mcnt b then p.1 else mpcn b j) = _
  by_cases e : j = mcnt b
  · rw [if_pos e, if_pos e, if_pos e]
  · rw [if_neg e, if_neg e, if_neg e]
theorem iz_Mt {k kd : Nat} {r : Int32} (iz : IZ z) (hk : 2 ≤ k ∧ k < z.1.1.1) (hkd : kd ≤ 2) (hr : r = -1 ∨ ∃ n, r = n32 n ∧ isT z.1.1 n = true) (hn : mcnt z.1.2.1 < 30) : IZ (zMt z k kd r) := by
  obtain ⟨⟨hd, ⟨m1, m2, m3, m4⟩, ⟨c1, c2⟩⟩, ⟨p1, p2, p3⟩, h2⟩ := iz
  refine ⟨⟨hd, ⟨m1, show mcnt z.1.2.1 + 1 ≤ 30 by omega, m3, fun j hj => ?_⟩, ⟨fun e => Nat.lt_succ_of_lt (c1 e), c2⟩⟩, ⟨Nat.zero_le _, Nat.zero_le _, fun k hk => absurd hk (Nat.not_lt_zero k)⟩, h2⟩
  have hj : j < mcnt z.1.2.1 + 1 := hj
  show 2 ≤ (if j = mcnt z.1.2.1 then k else mown z.1.2.1 j) ∧ (if j = mcnt z.1.2.1 then k else mown z.1.2.1 j) < z.1.1.1 ∧ (if j = mcnt z.1.2.1 then kd else mkin z.1.2.1 j) ≤ 2 ∧ (up1 (mres z.1.2.1) (mcnt z.1.2.1) r j = -1 ∨ ∃ n, up1 (mres z.1.2.1) (mcnt z.1.2.1) r j = n32 n ∧ isT z.1.1 n = true) ∧ (if j = mcnt z.1.2.1 then (zP z).1 else mpcn z.1.2.1 j) ≤ 6 ∧ mslo (bM z.1.2.1 k kd r (zP z)) j ≤ 6 ∧ ∀ i, i < (if j = mcnt z.1.2.1 then (zP z).1 else mpcn z.1.2.1 j) → isT z.1.1 ((if j = mcnt z.1.2.1 then (zP z).2 else mpty z.1.2.1 j) i) = true
  rw [bM_slo]
  by_cases e : j = mcnt z.1.2.1
  · rw [if_pos e, if_pos e, if_pos e, if_pos e, if_pos e, e, up1_s]
    exact ⟨hk.1, hk.2, hkd, hr, p1, p2, p3⟩
  · rw [if_neg e, if_neg e, if_neg e, if_neg e, if_neg e, up1_n _ _ e]
    exact m4 j (by omega)
theorem c_Mt (L : LX E a) (Lm : LR E m) (iz : IZ z) (vx : VX E S a z) {k kd : Nat} {r : Int32} (hn : mcnt z.1.2.1 < 30) : CO E S a m ((sp_X8_addMethod fu E S (E.2 a 1) (n32 k) (n32 kd) r).bind fun u4 => some ((.inr u4.1), u4.2)) (.inr (n32 (mcnt z.1.2.1 + 1) - 1)) (zMt z k kd r) := by
  have B := lx_B L
  obtain ⟨b1, b2', b3, b4⟩ := vx.1.2.1
  obtain ⟨q1, q2, q3⟩ := vx.2.1
  have p6 := iz.2.1.1
  have hin : inb (n32 (mcnt z.1.2.1)) 30 = true := by rw [z_inb (by omega)]; exact hn
  have ne : ∀ i j : Nat, (∃ u, (ftab 7)[i]? = some (some u) ∧ u.1 = 1) → (∃ u, (ftab 7)[j]? = some (some u) ∧ u.1 = 1) → i ≠ j → E.2 (E.2 a 1) i ≠ E.2 (E.2 a 1) j := fun i j ⟨u, hu, u1⟩ ⟨w, hw, w1⟩ h => arr_ne L.1 L.2.1 B B hu hw u1 w1 (fun q => h q.2)
  have i0 : ∃ u, (ftab 7)[0]? = some (some u) ∧ u.1 = 1 := ⟨_, rfl, rfl⟩
  have i1 : ∃ u, (ftab 7)[1]? = some (some u) ∧ u.1 = 1 := ⟨_, rfl, rfl⟩
  have i3 : ∃ u, (ftab 7)[3]? = some (some u) ∧ u.1 = 1 := ⟨_, rfl, rfl⟩
  have i4 : ∃ u, (ftab 7)[4]? = some (some u) ∧ u.1 = 1 := ⟨_, rfl, rfl⟩
  have i5 : ∃ u, (ftab 7)[5]? = some (some u) ∧ u.1 = 1 := ⟨_, rfl, rfl⟩
  have i6 : ∃ u, (ftab 7)[6]? = some (some u) ∧ u.1 = 1 := ⟨_, rfl, rfl⟩
  have i7 : ∃ u, (ftab 7)[7]? = some (some u) ∧ u.1 = 1 := ⟨_, rfl, rfl⟩
  have i8 : ∃ u, (ftab 7)[8]? = some (some u) ∧ u.1 = 1 := ⟨_, rfl, rfl⟩
  have i10 : ∃ u, (ftab 7)[10]? = some (some u) ∧ u.1 = 1 := ⟨_, rfl, rfl⟩
  unfold sp_X8_addMethod sp_X8_dropParameters bnd
  dsimp only
  have nn : (n32 (mcnt z.1.2.1)).toNatClampNeg = mcnt z.1.2.1 := z_nat (show mcnt z.1.2.1 < 2 ^ 31 by omega)
  rw [b2', if_pos hin, nn]
  rw [show (sG S (E.2 (E.2 a 1) 3) (mcnt z.1.2.1) (n32 k)).1 = S.1 from rfl, b2', if_pos hin, nn]
  rw [show (sG (sG S (E.2 (E.2 a 1) 3) (mcnt z.1.2.1) (n32 k)) (E.2 (E.2 a 1) 4) (mcnt z.1.2.1) (n32 kd)).1 = S.1 from rfl, b2', if_pos hin, nn]
  rw [show (sG (sG (sG S (E.2 (E.2 a 1) 3) (mcnt z.1.2.1) (n32 k)) (E.2 (E.2 a 1) 4) (mcnt z.1.2.1) (n32 kd)) (E.2 (E.2 a 1) 5) (mcnt z.1.2.1) r).1 = S.1 from rfl, b2', if_pos hin, nn, q1]
  rw [show (sG (sG (sG (sG S (E.2 (E.2 a 1) 3) (mcnt z.1.2.1) (n32 k)) (E.2 (E.2 a 1) 4) (mcnt z.1.2.1) (n32 kd)) (E.2 (E.2 a 1) 5) (mcnt z.1.2.1) r) (E.2 (E.2 a 1) 6) (mcnt z.1.2.1) (n32 (zP z).1)).1 = S.1 from rfl, b2', if_pos hin, nn, q2]
  have hG : ∀ G : St, G = sG (sG (sG (sG (sG S (E.2 (E.2 a 1) 3) (mcnt z.1.2.1) (n32 k)) (E.2 (E.2 a 1) 4) (mcnt z.1.2.1) (n32 kd)) (E.2 (E.2 a 1) 5) (mcnt z.1.2.1) r) (E.2 (E.2 a 1) 6) (mcnt z.1.2.1) (n32 (zP z).1)) (E.2 (E.2 a 1) 7) (mcnt z.1.2.1) (n32 (psum (zP z).2 (zP z).1)) → G.1 = S.1 ∧ Ag (PO E (E.2 a 1) 7) S G ∧ (∀ j, (∃ u, (ftab 7)[j]? = some (some u) ∧ u.1 = 1) → j ≠ 3 → j ≠ 4 → j ≠ 5 → j ≠ 6 → j ≠ 7 → ∀ i, G.2.1 (E.2 (E.2 a 1) j) i = S.2.1 (E.2 (E.2 a 1) j) i) ∧ ∀ i, i < mcnt z.1.2.1 + 1 → G.2.1 (E.2 (E.2 a 1) 3) i = n32 (if i = mcnt z.1.2.1 then k else mown z.1.2.1 i) ∧ G.2.1 (E.2 (E.2 a 1) 4) i = n32 (if i = mcnt z.1.2.1 then kd else mkin z.1.2.1 i) ∧ G.2.1 (E.2 (E.2 a 1) 5) i = up1 (mres z.1.2.1) (mcnt z.1.2.1) r i ∧ G.2.1 (E.2 (E.2 a 1) 6) i = n32 (if i = mcnt z.1.2.1 then (zP z).1 else mpcn z.1.2.1 i) ∧ G.2.1 (E.2 (E.2 a 1) 7) i = n32 (if i = mcnt z.1.2.1 then psum (zP z).2 (zP z).1 else mslo z.1.2.1 i) := by
    intro G e
    subst e
    refine ⟨rfl, Ag_trans (Ag_mono sG_ag (fun q e => Or.inr ⟨3, (1, 0, 30), rfl, rfl, e⟩)) (Ag_trans (Ag_mono sG_ag (fun q e => Or.inr ⟨4, (1, 0, 30), rfl, rfl, e⟩)) (Ag_trans (Ag_mono sG_ag (fun q e => Or.inr ⟨5, (1, 0, 30), rfl, rfl, e⟩)) (Ag_trans (Ag_mono sG_ag (fun q e => Or.inr ⟨6, (1, 0, 30), rfl, rfl, e⟩)) (Ag_mono sG_ag (fun q e => Or.inr ⟨7, (1, 0, 30), rfl, rfl, e⟩))))), fun j p h3 h4 h5 h6 h7 i => (up2_n _ _ (fun e => ne j 7 p i7 h7 e.1)).trans ((up2_n _ _ (fun e => ne j 6 p i6 h6 e.1)).trans ((up2_n _ _ (fun e => ne j 5 p i5 h5 e.1)).trans ((up2_n _ _ (fun e => ne j 4 p i4 h4 e.1)).trans (up2_n _ _ (fun e => ne j 3 p i3 h3 e.1))))), fun i hi => ⟨?_, ?_, ?_, ?_, ?_⟩⟩
    · exact (up2_n _ _ (fun e => ne 3 7 i3 i7 (by decide) e.1)).trans ((up2_n _ _ (fun e => ne 3 6 i3 i6 (by decide) e.1)).trans ((up2_n _ _ (fun e => ne 3 5 i3 i5 (by decide) e.1)).trans ((up2_n _ _ (fun e => ne 3 4 i3 i4 (by decide) e.1)).trans (app_n (fun q => (b4 i q).1) hi))))
    · exact (up2_n _ _ (fun e => ne 4 7 i4 i7 (by decide) e.1)).trans ((up2_n _ _ (fun e => ne 4 6 i4 i6 (by decide) e.1)).trans ((up2_n _ _ (fun e => ne 4 5 i4 i5 (by decide) e.1)).trans (app_n (fun q => (up2_n _ _ (fun e => ne 4 3 i4 i3 (by decide) e.1)).trans (b4 i q).2.1) hi)))
    · exact (up2_n _ _ (fun e => ne 5 7 i5 i7 (by decide) e.1)).trans ((up2_n _ _ (fun e => ne 5 6 i5 i6 (by decide) e.1)).trans (app_x (fun q => (up2_n _ _ (fun e => ne 5 4 i5 i4 (by decide) e.1)).trans ((up2_n _ _ (fun e => ne 5 3 i5 i3 (by decide) e.1)).trans (b4 i q).2.2.1)) hi))
    · exact (up2_n _ _ (fun e => ne 6 7 i6 i7 (by decide) e.1)).trans (app_n (fun q => (up2_n _ _ (fun e => ne 6 5 i6 i5 (by decide) e.1)).trans ((up2_n _ _ (fun e => ne 6 4 i6 i4 (by decide) e.1)).trans ((up2_n _ _ (fun e => ne 6 3 i6 i3 (by decide) e.1)).trans (b4 i q).2.2.2.1))) hi)
    · exact app_n (fun q => (up2_n _ _ (fun e => ne 7 6 i7 i6 (by decide) e.1)).trans ((up2_n _ _ (fun e => ne 7 5 i7 i5 (by decide) e.1)).trans ((up2_n _ _ (fun e => ne 7 4 i7 i4 (by decide) e.1)).trans ((up2_n _ _ (fun e => ne 7 3 i7 i3 (by decide) e.1)).trans (b4 i q).2.2.2.2.1)))) hi
  obtain ⟨g1, gag, gn, gs⟩ := hG _ rfl
  generalize sG (sG (sG (sG (sG S (E.2 (E.2 a 1) 3) (mcnt z.1.2.1) (n32 k)) (E.2 (E.2 a 1) 4) (mcnt z.1.2.1) (n32 kd)) (E.2 (E.2 a 1) 5) (mcnt z.1.2.1) r) (E.2 (E.2 a 1) 6) (mcnt z.1.2.1) (n32 (zP z).1)) (E.2 (E.2 a 1) 7) (mcnt z.1.2.1) (n32 (psum (zP z).2 (zP z).1)) = G at g1 gag gn gs ⊢
  have z6 : n32 (mcnt z.1.2.1) * 6 = n32 (6 * mcnt z.1.2.1) := by
    rw [show (6 : Int32) = n32 6 from rfl, z_mul, Nat.mul_comm]
  have hc : cpk 0 (n32 (6 * mcnt z.1.2.1)) (n32 (zP z).1) 6 180 = true := by
    unfold cpk
    rw [z_int (show 6 * mcnt z.1.2.1 < 2 ^ 31 by omega), z_int (show (zP z).1 < 2 ^ 31 by omega), show (0 : Int32).toInt = 0 from rfl]
    simp only [Bool.and_eq_true, decide_eq_true_eq]
    omega
  rw [g1, b2', q1, z6, if_pos hc, Option.bind_some, Option.bind_some]
  dsimp only
  rw [z_nat (show 6 * mcnt z.1.2.1 < 2 ^ 31 by omega), z_nat (show (zP z).1 < 2 ^ 31 by omega), show (0 : Int32).toNatClampNeg = 0 from rfl]
  rw [show (sF (sF (sC G (E.2 (E.2 a 1) 10) (E.2 (E.2 a 1) 8) 0 (6 * mcnt z.1.2.1) (zP z).1) (E.2 a 1) 11 0) (E.2 a 1) 12 0).1 (E.2 a 1) 9 = n32 (mcnt z.1.2.1) from (up2_n _ _ (fun e => by simp at e)).trans ((up2_n _ _ (fun e => by simp at e)).trans ((congrFun (congrFun g1 _) _).trans b2')), show n32 (mcnt z.1.2.1) + 1 = n32 (mcnt z.1.2.1 + 1) from z_add _ 1]
  have ag : Ag (PO E (E.2 a 1) 7) S (sF (sF (sF (sC G (E.2 (E.2 a 1) 10) (E.2 (E.2 a 1) 8) 0 (6 * mcnt z.1.2.1) (zP z).1) (E.2 a 1) 11 0) (E.2 a 1) 12 0) (E.2 a 1) 9 (n32 (mcnt z.1.2.1 + 1))) := Ag_trans gag (Ag_trans (Ag_mono sC_ag (fun q e => Or.inr ⟨8, (1, 0, 180), rfl, rfl, e⟩)) (Ag_trans (Ag_mono sF_ag (fun q e => Or.inl e)) (Ag_trans (Ag_mono sF_ag (fun q e => Or.inl e)) (Ag_mono sF_ag (fun q e => Or.inl e)))))
  refine ⟨_, congrArg some (Prod.ext (congrArg Sum.inr (congrArg (· - 1) (up2_s _ _))) rfl), vx_B (z' := zMt z k kd r) L vx ag ⟨rfl, rfl⟩ ⟨rfl, rfl⟩ ?_ ⟨?_, ?_, fun i hi => absurd hi (Nat.not_lt_zero i)⟩, Ag_mono ag (nrf_po Lm B (by decide))⟩
  · have fo : ∀ j, j ≠ 9 → j ≠ 11 → j ≠ 12 → (sF (sF (sF (sC G (E.2 (E.2 a 1) 10) (E.2 (E.2 a 1) 8) 0 (6 * mcnt z.1.2.1) (zP z).1) (E.2 a 1) 11 0) (E.2 a 1) 12 0) (E.2 a 1) 9 (n32 (mcnt z.1.2.1 + 1))).1 (E.2 a 1) j = S.1 (E.2 a 1) j := fun j h1 h2 h3 => (up2_n _ _ (fun e => h1 e.2)).trans ((up2_n _ _ (fun e => h3 e.2)).trans ((up2_n _ _ (fun e => h2 e.2)).trans (congrFun (congrFun g1 _) _)))
    have so : ∀ j, (∃ u, (ftab 7)[j]? = some (some u) ∧ u.1 = 1) → j ≠ 8 → ∀ i, (sC G (E.2 (E.2 a 1) 10) (E.2 (E.2 a 1) 8) 0 (6 * mcnt z.1.2.1) (zP z).1).2.1 (E.2 (E.2 a 1) j) i = G.2.1 (E.2 (E.2 a 1) j) i := fun j p h i => congrFun (sC_n (ne j 8 p i8 h)) i
    refine ⟨(fo 2 (by decide) (by decide) (by decide)).trans b1, up2_s _ _, fun i hi => ⟨?_, ?_⟩, fun j hj => ?_⟩
    · exact (so 0 i0 (by decide) i).trans ((gn 0 i0 (by decide) (by decide) (by decide) (by decide) (by decide) i).trans (b3 i hi).1)
    · exact (so 1 i1 (by decide) i).trans ((gn 1 i1 (by decide) (by decide) (by decide) (by decide) (by decide) i).trans (b3 i hi).2)
    · have hj : j < mcnt z.1.2.1 + 1 := hj
      obtain ⟨w3, w4, w5, w6, w7⟩ := gs j hj
      refine ⟨(so 3 i3 (by decide) j).trans w3, (so 4 i4 (by decide) j).trans w4, (so 5 i5 (by decide) j).trans w5, (so 6 i6 (by decide) j).trans w6, ?_, fun i hi => ?_⟩
      · show _ = n32 (mslo (bM z.1.2.1 k kd r (zP z)) j)
        rw [bM_slo]
        exact (so 7 i7 (by decide) j).trans w7
      · show (sC G (E.2 (E.2 a 1) 10) (E.2 (E.2 a 1) 8) 0 (6 * mcnt z.1.2.1) (zP z).1).2.1 (E.2 (E.2 a 1) 8) (6 * j + i) = n32 ((if j = mcnt z.1.2.1 then (zP z).2 else mpty z.1.2.1 j) i)
        have hi : i < (if j = mcnt z.1.2.1 then (zP z).1 else mpcn z.1.2.1 j) := hi
        rw [sC_s]
        by_cases e : j = mcnt z.1.2.1
        · rw [if_pos e] at hi ⊢
          rw [e, pk_cpy_in (by omega) (by omega), Nat.zero_add, Nat.add_sub_cancel_left]
          exact (gn 10 i10 (by decide) (by decide) (by decide) (by decide) (by decide) i).trans (q3 i hi)
        · rw [if_neg e] at hi ⊢
          have h6 := (iz.1.2.1.2.2.2 j (by omega)).2.2.2.2.1
          rw [pk_cpy_out (by omega)]
          exact (gn 8 i8 (by decide) (by decide) (by decide) (by decide) (by decide) _).trans ((b4 j (by omega)).2.2.2.2.2 i hi)
  · exact (up2_n _ _ (fun e => by simp at e)).trans ((up2_n _ _ (fun e => by simp at e)).trans (up2_s _ _))
  · exact (up2_n _ _ (fun e => by simp at e)).trans (up2_s _ _)
end MTH
