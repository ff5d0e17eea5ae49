section CLS
variable {E : Ev} {S : St} {a m a3 fu : Nat} {z : Zs} {rc : Int32 → St → Option (Int32 × St)} {x4 : Int32}
def cD (d : Dcl) (k : Nat) (f : Bool) : Dcl := (d.1 + 1, (fun b => if b = d.1 then k else d.2.1 b), fun b => if b = d.1 then f else d.2.2 b)
def zCl (z : Zs) (k : Nat) (f : Bool) : Zs := ((cD z.1.1 k f, z.1.2), z.2)
section MON
variable {d : Dcl} {k : Nat} {f : Bool}
theorem isT_mn {n : Nat} (h : isT d n = true) : isT (cD d k f) n = true := by
  rw [isT_iff] at h ⊢
  exact ⟨Nat.lt_succ_of_lt h.1, h.2⟩
theorem cls_mn {b : Nat} (h : cls d b = true) : cls (cD d k f) b = true := by
  have hl := cls_lt h
  unfold cls at h ⊢
  rw [show (cD d k f).2.2 b = d.2.2 b from if_neg (by omega), decide_eq_true hl.1, decide_eq_true (show b < (cD d k f).1 from Nat.lt_succ_of_lt hl.2)]
  rw [decide_eq_true hl.1, decide_eq_true hl.2] at h
  exact h
theorem sv_mn {v : Int32} (h : svA d v) : svA (cD d k f) v := by
  rcases h with ⟨n, e, hn⟩ | h
  · exact Or.inl ⟨n, e, isT_mn hn⟩
  · exact Or.inr h
theorem wfr_mn {x : Fr} (h : WFr d x) : WFr (cD d k f) x := ⟨fun i hi => sv_mn (h.1 i hi), fun i hi => sv_mn (h.2.1 i hi), h.2.2⟩
theorem twx_mn {B : Mb} {c : Cd} {tb : Nat → Option Fr} (h : TWX (d, B, c) tb) : TWX (cD d k f, B, c) tb := fun i x hi e => by
  have w := h i x hi e
  exact ⟨wfr_mn w.1, w.2⟩
theorem di_mn (hd : DI d) (hk : cls d k = true) (hf : f = true → k = 2) (hn : d.1 < 20) : DI (cD d k f) := by
  obtain ⟨d1, d2, d3, d4⟩ := hd
  have kl := cls_lt hk
  have kf : d.2.2 k = false := by
    unfold cls at hk
    rw [decide_eq_true kl.1, decide_eq_true kl.2] at hk
    simpa using hk
  refine ⟨show 3 ≤ d.1 + 1 by omega, show d.1 + 1 ≤ 20 by omega, fun b h1 h2 => ?_, fun b hb => ?_⟩
  · have h2 : b < d.1 + 1 := h2
    show 2 ≤ (if b = d.1 then k else d.2.1 b) ∧ (if b = d.1 then k else d.2.1 b) < b ∧ (if (if b = d.1 then k else d.2.1 b) = d.1 then f else d.2.2 (if b = d.1 then k else d.2.1 b)) = false ∧ ((if b = d.1 then f else d.2.2 b) = true → (if b = d.1 then k else d.2.1 b) = 2)
    by_cases e : b = d.1
    · rw [if_pos e, if_pos e, if_neg (by omega)]
      exact ⟨kl.1, by omega, kf, hf⟩
    · have w := d3 b h1 (by omega)
      rw [if_neg e, if_neg e, if_neg (by omega)]
      exact w
  · show (if b = d.1 then f else d.2.2 b) = false
    rw [if_neg (by omega)]
    exact d4 b hb
end MON
theorem iz_Cl {k : Nat} {f : Bool} (iz : IZ z) (hk : cls z.1.1 k = true) (hf : f = true → k = 2) (hn : z.1.1.1 < 20) : IZ (zCl z k f) := by
  obtain ⟨⟨hd, ⟨m1, m2, m3, m4⟩, ⟨c1, c2, c3, c4, c5, c6, c7⟩⟩, ⟨p1, p2, p3⟩, ⟨q1, q2, q3⟩, t1, t2, t3⟩ := iz
  refine ⟨⟨di_mn hd hk hf hn, ⟨m1, m2, fun i hi => ⟨cls_mn (m3 i hi).1, isT_mn (m3 i hi).2⟩, fun j hj => ?_⟩, ⟨c1, c2, c3, c4, c5, c6, fun h hh => ⟨Nat.lt_succ_of_lt (c7 h hh).1, (c7 h hh).2⟩⟩⟩, ⟨p1, p2, fun j hj => isT_mn (p3 j hj)⟩, ⟨q1, wfr_mn q2, q3⟩, twx_mn t1, twx_mn t2, t3⟩
  obtain ⟨w1, w2, w3, w4, w5, w6, w7⟩ := m4 j hj
  exact ⟨w1, Nat.lt_succ_of_lt w2, w3, w4.imp id (fun ⟨n, e, h⟩ => ⟨n, e, isT_mn h⟩), w5, w6, fun i hi => isT_mn (w7 i hi)⟩
theorem c_Cl (L : LX E a) (Lm : LR E m) (hd : DI z.1.1) (vx : VX E S a z) {k : Nat} {f : Bool} (hn : z.1.1.1 < 20) : CO E S a m ((sp_X10_add fu E S (E.2 a 0) (n32 k) (b2 f)).bind fun u5 => some ((.inr u5.1), u5.2)) (.inr (n32 (z.1.1.1 + 1) - 1)) (zCl z k f) := by
  have T := lx_T L
  obtain ⟨b1, b2', b3, b4⟩ := vx.1.1
  have hin : inb (n32 z.1.1.1) 20 = true := by rw [z_inb (by omega)]; exact hn
  unfold sp_X10_add bnd
  dsimp only
  rw [b1, if_pos hin, z_nat (show z.1.1.1 < 2 ^ 31 by omega)]
  rw [show (sG S (E.2 (E.2 a 0) 0) z.1.1.1 (n32 k)).1 (E.2 a 0) 2 = n32 z.1.1.1 from b1, if_pos hin, isB_ite, z_nat (show z.1.1.1 < 2 ^ 31 by omega)]
  rw [show (sG (sG S (E.2 (E.2 a 0) 0) z.1.1.1 (n32 k)) (E.2 (E.2 a 0) 1) z.1.1.1 (b2 f)).1 (E.2 a 0) 2 = n32 z.1.1.1 from b1, show n32 z.1.1.1 + 1 = n32 (z.1.1.1 + 1) from z_add _ 1, Option.bind_some]
  dsimp only
  have ag : Ag (PO E (E.2 a 0) 8) S (sF (sG (sG S (E.2 (E.2 a 0) 0) z.1.1.1 (n32 k)) (E.2 (E.2 a 0) 1) z.1.1.1 (b2 f)) (E.2 a 0) 2 (n32 (z.1.1.1 + 1))) := Ag_trans (Ag_mono sG_ag (fun q e => Or.inr ⟨0, (1, 0, 20), rfl, rfl, e⟩)) (Ag_trans (Ag_mono sG_ag (fun q e => Or.inr ⟨1, (1, 1, 20), rfl, rfl, e⟩)) (Ag_mono sF_ag (fun q e => Or.inl e)))
  have n01 : E.2 (E.2 a 0) 0 ≠ E.2 (E.2 a 0) 1 := arr_ne L.1 L.2.1 T T (show (ftab 8)[0]? = some (some (1, 0, 20)) from rfl) (show (ftab 8)[1]? = some (some (1, 1, 20)) from rfl) rfl rfl (fun e => by simp at e)
  have d3 := hd.1
  refine ⟨_, congrArg some (Prod.ext (congrArg Sum.inr (congrArg (· - 1) (up2_s _ _))) rfl), vx_Ty (z' := zCl z k f) L vx ag rfl rfl ⟨up2_s _ _, fun b hb => ?_, fun b h1 h2 => ?_, fun b hb => ?_⟩, Ag_mono ag (nrf_po Lm T (by decide))⟩
  · exact (up2_n _ _ (fun e => n01 e.1)).trans ((up2_n _ _ (fun e => by have := e.2; omega)).trans (b2' b hb))
  · exact (up2_n _ _ (fun e => n01 e.1)).trans (app_n (fun q => b3 b h1 q) h2)
  · exact app_b (fun q => (up2_n _ _ (fun e => n01 e.1.symm)).trans (b4 b q)) hb
end CLS
