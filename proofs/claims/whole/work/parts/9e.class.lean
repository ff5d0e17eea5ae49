/-! declareClass -/
section CLS
variable {E : Ev} {S : St} {a m a3 fu : Nat} {z : Zs} {rc : Int32 → St → Option (Int32 × St)} {x4 : Int32}
def cD (d : Dcl) (k : Nat) (f : Bool) : Dcl := (d.1 + 1, (fun b => if b = d.1 then k else d.2.1 b), fun b => if b = d.1 then f else d.2.2 b)
def zCl (z : Zs) (k : Nat) (f : Bool) : Zs := ((cD z.1.1 k f, z.1.2), z.2)
section MON
variable {d : Dcl} {k : Nat} {f : Bool}
theorem isT_mn {n : Nat} (h : isT d n = true) : isT (cD d k f) n = true := by
  rw [isT_iff] at h ⊢
  exact ⟨Nat.lt_succ_of_lt h.1, h.2⟩
theorem cls_mn {b : Nat} (h : cls d b = true) : cls (cD d k f) b = true := by
  have hl := cls_lt h
  unfold cls at h ⊢
  rw [show (cD d k f).2.2 b = d.2.2 b from if_neg (by omega), decide_eq_true hl.1, decide_eq_true (show b < (cD d k f).1 from Nat.lt_succ_of_lt hl.2)]
  rw [decide_eq_true hl.1, decide_eq_true hl.2] at h
  exact h
theorem sv_mn {v : Int32} (h : svA d v) : svA (cD d k f) v := by
  rcases h with ⟨n, e, hn⟩ | h
  · exact Or.inl ⟨n, e, isT_mn hn⟩
  · exact Or.inr h
theorem wfr_mn {x : Fr} (h : WFr d x) : WFr (cD d k f) x := ⟨fun i hi => sv_mn (h.1 i hi), fun i hi => sv_mn (h.2.1 i hi), h.2.2⟩
theorem twx_mn {B : Mb} {c : Cd} {tb : Nat → Option Fr} (h : TWX (d, B, c) tb) : TWX (cD d k f, B, c) tb := fun i x hi e => by
  have w := h i x hi e
  exact ⟨wfr_mn w.1, w.2⟩
theorem di_mn (hd : DI d) (hk : cls d k = true) (hf : f = true → k = 2) (hn : d.1 < 20) : DI (cD d k f) := by
  obtain ⟨d1, d2, d3, d4⟩ := hd
  have kl := cls_lt hk
  have kf : d.2.2 k = false := by
    unfold cls at hk
    rw [decide_eq_true kl.1, decide_eq_true kl.2] at hk
    simpa using hk
  refine ⟨show 3 ≤ d.1 + 1 by omega, show d.1 + 1 ≤ 20 by omega, fun b h1 h2 => ?_, fun b hb => ?_⟩
  · have h2 : b < d.1 + 1 := h2
    show 2 ≤ (if b = d.1 then k else d.2.1 b) ∧ (if b = d.1 then k else d.2.1 b) < b ∧ (if (if b = d.1 then k else d.2.1 b) = d.1 then f else d.2.2 (if b = d.1 then k else d.2.1 b)) = false ∧ ((if b = d.1 then f else d.2.2 b) = true → (if b = d.1 then k else d.2.1 b) = 2)
    by_cases e : b = d.1
    · rw [if_pos e, if_pos e, if_neg (by omega)]
      exact ⟨kl.1, by omega, kf, hf⟩
    · have w := d3 b h1 (by omega)
      rw [if_neg e, if_neg e, if_neg (by omega)]
      exact w
  · show (if b = d.1 then f else d.2.2 b) = false
    rw [if_neg (by omega)]
    exact d4 b hb
end MON
theorem iz_Cl {k : Nat} {f : Bool} (iz : IZ z) (hk : cls z.1.1 k = true) (hf : f = true → k = 2) (hn : z.1.1.1 < 20) : IZ (zCl z k f) := by
  obtain ⟨⟨hd, ⟨m1, m2, m3, m4⟩, ⟨c1, c2, c3, c4, c5, c6, c7⟩⟩, ⟨p1, p2, p3⟩, ⟨q1, q2, q3⟩, t1, t2, t3⟩ := iz
  refine ⟨⟨di_mn hd hk hf hn, ⟨m1, m2, fun i hi => ⟨cls_mn (m3 i hi).1, isT_mn (m3 i hi).2⟩, fun j hj => ?_⟩, ⟨c1, c2, c3, c4, c5, c6, fun h hh => ⟨Nat.lt_succ_of_lt (c7 h hh).1, (c7 h hh).2⟩⟩⟩, ⟨p1, p2, fun j hj => isT_mn (p3 j hj)⟩, ⟨q1, wfr_mn q2, q3⟩, twx_mn t1, twx_mn t2, t3⟩
  obtain ⟨w1, w2, w3, w4, w5, w6, w7⟩ := m4 j hj
  exact ⟨w1, Nat.lt_succ_of_lt w2, w3, w4.imp id (fun ⟨n, e, h⟩ => ⟨n, e, isT_mn h⟩), w5, w6, fun i hi => isT_mn (w7 i hi)⟩
theorem c_Cl (L : LX E a) (Lm : LR E m) (hd : DI z.1.1) (vx : VX E S a z) {k : Nat} {f : Bool} (hn : z.1.1.1 < 20) : CO E S a m ((sp_X10_add fu E S (E.2 a 0) (n32 k) (b2 f)).bind fun u5 => some ((.inr u5.1), u5.2)) (.inr (n32 (z.1.1.1 + 1) - 1)) (zCl z k f) := by
  have T := lx_T L
  obtain ⟨b1, b2', b3, b4⟩ := vx.1.1
  have hin : inb (n32 z.1.1.1) 20 = true := by rw [z_inb (by omega)]; exact hn
  unfold sp_X10_add bnd
  dsimp only
  rw [b1, if_pos hin, z_nat (show z.1.1.1 < 2 ^ 31 by omega)]
  rw [show (sG S (E.2 (E.2 a 0) 0) z.1.1.1 (n32 k)).1 (E.2 a 0) 2 = n32 z.1.1.1 from b1, if_pos hin, isB_ite, z_nat (show z.1.1.1 < 2 ^ 31 by omega)]
  rw [show (sG (sG S (E.2 (E.2 a 0) 0) z.1.1.1 (n32 k)) (E.2 (E.2 a 0) 1) z.1.1.1 (b2 f)).1 (E.2 a 0) 2 = n32 z.1.1.1 from b1, show n32 z.1.1.1 + 1 = n32 (z.1.1.1 + 1) from z_add _ 1, Option.bind_some]
  dsimp only
  have ag : Ag (PO E (E.2 a 0) 8) S (sF (sG (sG S (E.2 (E.2 a 0) 0) z.1.1.1 (n32 k)) (E.2 (E.2 a 0) 1) z.1.1.1 (b2 f)) (E.2 a 0) 2 (n32 (z.1.1.1 + 1))) := Ag_trans (Ag_mono sG_ag (fun q e => Or.inr ⟨0, (1, 0, 20), rfl, rfl, e⟩)) (Ag_trans (Ag_mono sG_ag (fun q e => Or.inr ⟨1, (1, 1, 20), rfl, rfl, e⟩)) (Ag_mono sF_ag (fun q e => Or.inl e)))
  have n01 : E.2 (E.2 a 0) 0 ≠ E.2 (E.2 a 0) 1 := arr_ne L.1 L.2.1 T T (show (ftab 8)[0]? = some (some (1, 0, 20)) from rfl) (show (ftab 8)[1]? = some (some (1, 1, 20)) from rfl) rfl rfl (fun e => by simp at e)
  have d3 := hd.1
  refine ⟨_, congrArg some (Prod.ext (congrArg Sum.inr (congrArg (· - 1) (up2_s _ _))) rfl), vx_Ty (z' := zCl z k f) L vx ag rfl rfl ⟨up2_s _ _, fun b hb => ?_, fun b h1 h2 => ?_, fun b hb => ?_⟩, Ag_mono ag (nrf_po Lm T (by decide))⟩
  · exact (up2_n _ _ (fun e => n01 e.1)).trans ((up2_n _ _ (fun e => by have := e.2; omega)).trans (b2' b hb))
  · exact (up2_n _ _ (fun e => n01 e.1)).trans (app_n (fun q => b3 b h1 q) h2)
  · exact app_b (fun q => (up2_n _ _ (fun e => n01 e.1.symm)).trans (b4 b q)) hb
theorem go_cl (L : LX E a) (Lm : LR E m) (h3 : E.1 a3 = some (1, 2, 1)) (iz : IZ z) (vx : VX E S a z) (vy : VY E S m z) (x : Int32) (f : Bool) : GoS E a m a3 fu rc x4 (sp_L_declareClass fu E S a x (b2 f) a3) (fun S => sp_X12_declareClass fu E S m x (b2 f)) := by
  have hd := iz.1.1
  have h20 := hd.2.1
  have h03 := hd.1
  have k2 : S.1 (E.2 a 0) 2 = n32 z.1.1.1 := vx.1.1.1
  have r1 : ∀ {S1 : St}, VY E S1 m z → (sF S1 m 0 0).1 m 1 = n32 z.1.1.1 := fun v => (vy_0 Lm v).1.1.1
  have tc := t_cls (fu := fu) hd vx.1.1 x
  have rcl : ∀ {S1 : St}, VY E S1 m z → sp_X12_isClass fu E (sF S1 m 0 0) m x = some (b2 (decide (0 ≤ x) && cls z.1.1 x.toNatClampNeg), sF S1 m 0 0) := fun v => r_cls (fu := fu) hd (vy_0 Lm v).1.1 x
  unfold sp_L_declareClass
  by_cases c : (decide (0 ≤ x) && cls z.1.1 x.toNatClampNeg) = true
  rotate_left
  · refine gos_no L Lm h3 vy iz "java/lang/IllegalArgumentException" 1 (by decide) (by decide) (by unfold sp_X11_declareClass; rw [tc, Option.bind_some, b2_if, if_neg c]; exact co_same vx) (fun S1 v => ?_)
    unfold sp_X12_declareClass bnd
    dsimp only
    rw [rcl v, Option.bind_some, b2_if, if_neg c]
    exact ro_no Lm v
  have c' := c
  rw [Bool.and_eq_true] at c'
  obtain ⟨k, hk31, rfl⟩ := ge0_n c'.1
  have hkc : cls z.1.1 k = true := by
    have := c'.2
    rw [z_nat hk31] at this
    exact this
  by_cases hf : f = true → k = 2
  rotate_left
  · have e1 : f = true := by cases f with | true => rfl | false => exact absurd (fun e => by cases e) hf
    subst e1
    have k2' : ¬ k = 2 := fun e => hf (fun _ => e)
    have ni : ¬ ((b2 true) = 0) := by decide
    refine gos_no L Lm h3 vy iz "java/lang/IllegalArgumentException" 1 (by decide) (by decide) (by unfold sp_X11_declareClass; rw [tc, Option.bind_some, b2_if, if_pos c, if_neg ni, show (2 : Int32) = n32 2 from rfl, zi_eq hk31 (by decide), if_neg k2']; exact co_same vx) (fun S1 v => ?_)
    unfold sp_X12_declareClass bnd
    dsimp only
    rw [rcl v, Option.bind_some, b2_if, if_pos c, if_neg ni, show (2 : Int32) = n32 2 from rfl, zi_eq hk31 (by decide), if_neg k2']
    exact ro_no Lm v
  have both : ∀ {α : Type} (u w : α), (if b2 f = 0 then u else if n32 k = 2 then u else w) = u := fun u w => by
    cases f with
    | false => exact if_pos rfl
    | true =>
      rw [if_neg (show ¬ b2 true = 0 by decide), show (2 : Int32) = n32 2 from rfl, zi_eq hk31 (by decide), if_pos (hf rfl)]
  by_cases hn : z.1.1.1 < 20
  rotate_left
  · refine gos_no L Lm h3 vy iz "java/lang/IllegalStateException" 2 (by decide) (by decide) (by unfold sp_X11_declareClass; rw [tc, Option.bind_some, b2_if, if_pos c, both]; unfold jb_X11_declareClass_30; dsimp only; rw [k2, show (20 : Int32) = n32 20 from rfl, zi_lt (by omega) (by decide), if_neg hn]; exact co_same vx) (fun S1 v => ?_)
    unfold sp_X12_declareClass
    rw [show ∀ (k : St → Option (Int32 × St)), bnd (sF S1 m 0 0) k = k (sF S1 m 0 0) from fun _ => rfl, rcl v, Option.bind_some, b2_if, if_pos c, both]
    unfold jb_X12_declareClass_28
    dsimp only
    rw [r1 v, show (20 : Int32) = n32 20 from rfl, zi_eq (by omega) (by decide), if_pos (by omega)]
    exact ro_no Lm v
  refine gos_ok (z' := zCl z k f) L Lm h3 vy (iz_Cl iz hkc hf hn) (w := n32 (z.1.1.1 + 1) - 1) (by unfold sp_X11_declareClass; rw [tc, Option.bind_some, b2_if, if_pos c, both]; unfold jb_X11_declareClass_30; dsimp only; rw [k2, show (20 : Int32) = n32 20 from rfl, zi_lt (by omega) (by decide), if_pos hn]; exact c_Cl L Lm hd vx hn) (fun S1 v => ?_)
  show RO E S1 m (sp_X12_declareClass fu E S1 m (n32 k) (b2 f)) 0 (n32 (z.1.1.1 + 1) - 1) (zCl z k f)
  unfold sp_X12_declareClass
  rw [show ∀ (k : St → Option (Int32 × St)), bnd (sF S1 m 0 0) k = k (sF S1 m 0 0) from fun _ => rfl, rcl v, Option.bind_some, b2_if, if_pos c, both]
  unfold jb_X12_declareClass_28 bnd
  dsimp only
  have v0 := vy_0 Lm (x := 0) v
  have e0 : (sF S1 m 0 0).1 m 0 = 0 := up2_s _ _
  have ag0 : Ag (RFc E m) S1 (sF S1 m 0 0) := rfc_F Lm
  have q1 := r1 v
  generalize sF S1 m 0 0 = S0 at v0 e0 ag0 q1 ⊢
  have hin : inb (n32 z.1.1.1) 20 = true := by rw [z_inb (by omega)]; exact hn
  rw [q1, show (20 : Int32) = n32 20 from rfl, zi_eq (by omega) (by decide), if_neg (by omega), if_pos hin, z_nat (show z.1.1.1 < 2 ^ 31 by omega)]
  rw [show (sG S0 (E.2 m 2) z.1.1.1 (n32 k)).1 m 1 = n32 z.1.1.1 from q1, if_pos hin, isB_ite, z_nat (show z.1.1.1 < 2 ^ 31 by omega)]
  rw [show (sG (sG S0 (E.2 m 2) z.1.1.1 (n32 k)) (E.2 m 3) z.1.1.1 (b2 f)).1 m 1 = n32 z.1.1.1 from q1, show n32 z.1.1.1 + 1 = n32 (z.1.1.1 + 1) from z_add _ 1]
  have n23 : E.2 m 2 ≠ E.2 m 3 := lr_ne Lm rfl rfl (by decide)
  have al : AgL E m [1] [2, 3] S0 (sF (sG (sG S0 (E.2 m 2) z.1.1.1 (n32 k)) (E.2 m 3) z.1.1.1 (b2 f)) m 1 (n32 (z.1.1.1 + 1))) := agl_trans (agl_sG (by decide)) (agl_trans (agl_sG (by decide)) (agl_sF (by decide)))
  have vt : VRt E (sF (sG (sG S0 (E.2 m 2) z.1.1.1 (n32 k)) (E.2 m 3) z.1.1.1 (b2 f)) m 1 (n32 (z.1.1.1 + 1))) m (cD z.1.1 k f) := by
    obtain ⟨b1, b3, b4⟩ := v0.1.1
    refine ⟨up2_s _ _, fun b h1 h2 => ?_, fun b hb => ?_⟩
    · exact (up2_n _ _ (fun e => n23 e.1)).trans (app_n (fun q => b3 b h1 q) h2)
    · exact app_b (fun q => (up2_n _ _ (fun e => n23 e.1.symm)).trans (b4 b q)) hb
  refine ⟨_, congrArg some (Prod.ext (congrArg (· - 1) (up2_s _ _)) rfl), (agl_f al rfl).trans e0, ?_, Ag_trans ag0 (agl_rf al rfl)⟩
  exact vy_mk vt (vrb_agl Lm v0.1.2.1 al rfl rfl rfl) (vrc_agl Lm v0.1.2.2 al rfl rfl rfl) (vyp_agl Lm v0.2.1 al rfl rfl rfl) (vyd_agl Lm v0.2.2.1 al rfl rfl rfl) (vri_ag Lm v0.2.2.2.1 al rfl rfl rfl) (vrd_ag Lm v0.2.2.2.2.1 al rfl rfl rfl) ((agl_f al rfl).trans v0.2.2.2.2.2.1) ((agl_f al rfl).trans v0.2.2.2.2.2.2.1) ((agl_f al rfl).trans v0.2.2.2.2.2.2.2)
end CLS
