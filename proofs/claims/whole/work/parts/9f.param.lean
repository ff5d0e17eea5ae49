/-! parameter -/
section PRM
variable {E : Ev} {S : St} {a m a3 fu : Nat} {z : Zs} {rc : Int32 → St → Option (Int32 × St)} {x4 : Int32}
theorem psum_ge {f : Nat → Nat} : ∀ k, k ≤ psum f k
  | 0 => Nat.le_refl _
  | k + 1 => by
    have := psum_ge (f := f) k
    show k + 1 ≤ psum f k + wide (f k)
    unfold wide
    split <;> omega
theorem psum_cg {f g : Nat → Nat} : ∀ k, (∀ j, j < k → f j = g j) → psum f k = psum g k
  | 0, _ => rfl
  | k + 1, h => by
    show psum f k + wide (f k) = psum g k + wide (g k)
    rw [psum_cg k (fun j hj => h j (by omega)), h k (by omega)]
def pP (p : Pnd) (t : Nat) : Pnd := (p.1 + 1, fun j => if j = p.1 then t else p.2 j)
def zPm (z : Zs) (t : Nat) : Zs := (z.1, (pP (zP z) t, z.2.1.2), z.2.2)
theorem pP_s {p : Pnd} {t : Nat} : psum (pP p t).2 (pP p t).1 = psum p.2 p.1 + wide t := by
  show psum (pP p t).2 p.1 + wide (if p.1 = p.1 then t else p.2 p.1) = _
  rw [if_pos rfl, psum_cg p.1 (f := (pP p t).2) (g := p.2) (fun j hj => if_neg (by omega))]
theorem iz_Pm {t : Nat} (iz : IZ z) (ht : isT z.1.1 t = true) (hn : psum (zP z).2 (zP z).1 + wide t ≤ 6) : IZ (zPm z t) := by
  obtain ⟨h1, ⟨p1, p2, p3⟩, h2⟩ := iz
  have hp : psum (pP (zP z) t).2 (pP (zP z) t).1 ≤ 6 := by rw [pP_s]; exact hn
  refine ⟨h1, ⟨Nat.le_trans (psum_ge _) hp, hp, fun k hk => ?_⟩, h2⟩
  have hk : k < (zP z).1 + 1 := hk
  show isT z.1.1 (if k = (zP z).1 then t else (zP z).2 k) = true
  by_cases e : k = (zP z).1
  · rw [if_pos e]; exact ht
  · rw [if_neg e]; exact p3 k (by omega)
theorem pn_lt {t : Nat} (hn : psum (zP z).2 (zP z).1 + wide t ≤ 6) : (zP z).1 < 6 := by
  have := psum_ge (f := (zP z).2) (zP z).1
  have h1 : 1 ≤ wide t := by unfold wide; split <;> omega
  omega
theorem c_Pm (L : LX E a) (Lm : LR E m) (vx : VX E S a z) {t : Nat} (ht : t < 2 ^ 31) (hn : psum (zP z).2 (zP z).1 + wide t ≤ 6) : CO E S a m ((sp_X8_addParameter fu E S (E.2 a 1) (n32 t)).bind fun u6 => some ((.inr u6.1), u6.2)) (.inr (n32 (psum (zP z).2 (zP z).1 + wide t))) (zPm z t) := by
  have B := lx_B L
  obtain ⟨b1, b2', b3⟩ := vx.2.1
  have hp := pn_lt hn
  have hin : inb (n32 (zP z).1) 6 = true := by rw [z_inb (by omega)]; exact hp
  unfold sp_X8_addParameter bnd
  dsimp only
  rw [b1, if_pos hin, z_nat (show (zP z).1 < 2 ^ 31 by omega), t_slots ht, Option.bind_some]
  dsimp only
  rw [show (sG S (E.2 (E.2 a 1) 10) (zP z).1 (n32 t)).1 (E.2 a 1) 11 = n32 (zP z).1 from b1, show n32 (zP z).1 + 1 = n32 ((zP z).1 + 1) from z_add _ 1, show (sF (sG S (E.2 (E.2 a 1) 10) (zP z).1 (n32 t)) (E.2 a 1) 11 (n32 ((zP z).1 + 1))).1 (E.2 a 1) 12 = n32 (psum (zP z).2 (zP z).1) from (up2_n _ _ (fun e => by simp at e)).trans b2', z_add, Option.bind_some]
  dsimp only
  have ag : Ag (PO E (E.2 a 1) 7) S (sF (sF (sG S (E.2 (E.2 a 1) 10) (zP z).1 (n32 t)) (E.2 a 1) 11 (n32 ((zP z).1 + 1))) (E.2 a 1) 12 (n32 (psum (zP z).2 (zP z).1 + wide t))) := Ag_trans (Ag_mono sG_ag (fun q e => Or.inr ⟨10, (1, 0, 6), rfl, rfl, e⟩)) (Ag_trans (Ag_mono sF_ag (fun q e => Or.inl e)) (Ag_mono sF_ag (fun q e => Or.inl e)))
  have f : ∀ j, j ≠ 11 → j ≠ 12 → (sF (sF (sG S (E.2 (E.2 a 1) 10) (zP z).1 (n32 t)) (E.2 a 1) 11 (n32 ((zP z).1 + 1))) (E.2 a 1) 12 (n32 (psum (zP z).2 (zP z).1 + wide t))).1 (E.2 a 1) j = S.1 (E.2 a 1) j := fun j h1 h2 => (up2_n _ _ (fun e => h2 e.2)).trans (up2_n _ _ (fun e => h1 e.2))
  have g : ∀ (j : Nat) (p : ∃ u, (ftab 7)[j]? = some (some u) ∧ u.1 = 1), j ≠ 10 → ∀ i, (sF (sF (sG S (E.2 (E.2 a 1) 10) (zP z).1 (n32 t)) (E.2 a 1) 11 (n32 ((zP z).1 + 1))) (E.2 a 1) 12 (n32 (psum (zP z).2 (zP z).1 + wide t))).2.1 (E.2 (E.2 a 1) j) i = S.2.1 (E.2 (E.2 a 1) j) i := fun j ⟨u, hu, u1⟩ h0 i => up2_n _ _ (fun e => arr_ne L.1 L.2.1 B B hu (show (ftab 7)[10]? = some (some (1, 0, 6)) from rfl) u1 rfl (fun q => h0 q.2) e.1)
  refine ⟨_, congrArg some (Prod.ext (congrArg Sum.inr (up2_s _ _)) rfl), vx_B (z' := zPm z t) L vx ag ⟨rfl, rfl⟩ ⟨rfl, rfl⟩ ?_ ?_, Ag_mono ag (nrf_po Lm B (by decide))⟩
  · obtain ⟨c1, c2, c3, c4⟩ := vx.1.2.1
    refine ⟨(f 2 (by decide) (by decide)).trans c1, (f 9 (by decide) (by decide)).trans c2, fun i hi => ⟨(g 0 ⟨_, rfl, rfl⟩ (by decide) i).trans (c3 i hi).1, (g 1 ⟨_, rfl, rfl⟩ (by decide) i).trans (c3 i hi).2⟩, fun k hk => ?_⟩
    have w := c4 k hk
    refine ⟨(g 3 ⟨_, rfl, rfl⟩ (by decide) k).trans w.1, (g 4 ⟨_, rfl, rfl⟩ (by decide) k).trans w.2.1, (g 5 ⟨_, rfl, rfl⟩ (by decide) k).trans w.2.2.1, (g 6 ⟨_, rfl, rfl⟩ (by decide) k).trans w.2.2.2.1, (g 7 ⟨_, rfl, rfl⟩ (by decide) k).trans w.2.2.2.2.1, fun j hj => (g 8 ⟨_, rfl, rfl⟩ (by decide) _).trans (w.2.2.2.2.2 j hj)⟩
  · refine ⟨(up2_n _ _ (fun e => by simp at e)).trans (up2_s _ _), ?_, fun k hk => ?_⟩
    · show up2 _ _ _ _ _ _ = n32 (psum (pP (zP z) t).2 (pP (zP z) t).1)
      rw [pP_s]
      exact up2_s _ _
    · exact app_n (fun q => b3 k q) hk
/-- the reference counts the pending slots -/
theorem r_pnd {p : Pnd} (hfu : 200 ≤ fu) (hp : p.1 ≤ 6) (v : VYp E S m p) (ht : ∀ k, k < p.1 → p.2 k < 2 ^ 31) : sp_X12_pendingSlots fu E S m = some (n32 (psum p.2 p.1), S) := by
  have lp : ∀ (k i F : Nat), i + k = p.1 → k + 1 ≤ F → lp_X12_pendingSlots_4 fu E m F (n32 (psum p.2 i)) (n32 i) S = some (n32 (psum p.2 p.1), S) := by
    intro k
    induction k with
    | zero =>
      intro i F hk hF
      obtain ⟨F, rfl⟩ : ∃ z, F = z + 1 := ⟨F - 1, by omega⟩
      show bd_X12_pendingSlots_4 fu E m _ _ (n32 i) S = _
      unfold bd_X12_pendingSlots_4
      rw [v.1, zi_le (by omega) (by omega), if_pos (by omega), show i = p.1 by omega]
    | succ k ih =>
      intro i F hk hF
      obtain ⟨F, rfl⟩ : ∃ z, F = z + 1 := ⟨F - 1, by omega⟩
      have hin : inb (n32 i) 6 = true := by rw [z_inb (by omega)]; omega
      show bd_X12_pendingSlots_4 fu E m (lp_X12_pendingSlots_4 fu E m F) _ (n32 i) S = _
      unfold bd_X12_pendingSlots_4 bnd
      rw [v.1, zi_le (by omega) (by omega), if_neg (by omega), if_pos hin, z_nat (show i < 2 ^ 31 by omega), v.2 i (by omega), r_wide (ht i (by omega)), Option.bind_some]
      dsimp only
      rw [z_add, show n32 i + 1 = n32 (i + 1) from z_add i 1]
      exact ih (i + 1) F (by omega) (by omega)
  exact lp p.1 0 fu (by omega) (by omega)
theorem r_Pm (Lm : LR E m) (hfu : 200 ≤ fu) (iz : IZ z) {S0 : St} (v0 : VY E S0 m z) (e0 : S0.1 m 0 = 0) {t : Nat} (ht : isT z.1.1 t = true) (hn : psum (zP z).2 (zP z).1 + wide t ≤ 6) : RO E S0 m (if inb (S0.1 m 13) 6 = true then (bnd (sG S0 (E.2 m 14) ((S0.1 m 13).toNatClampNeg) (n32 t)) fun S7 => bnd (sF S7 m 13 ((S7.1 m 13) + 1)) fun S8 => (sp_X12_pendingSlots fu E S8 m).bind fun u9 => some (u9.1, u9.2)) else none) 0 (n32 (psum (zP z).2 (zP z).1 + wide t)) (zPm z t) := by
  have hp := pn_lt hn
  have hin : inb (n32 (zP z).1) 6 = true := by rw [z_inb (by omega)]; exact hp
  have q13 : S0.1 m 13 = n32 (zP z).1 := v0.2.1.1
  have iz' := iz_Pm iz ht hn
  unfold bnd
  dsimp only
  rw [q13, if_pos hin, z_nat (show (zP z).1 < 2 ^ 31 by omega), show (sG S0 (E.2 m 14) (zP z).1 (n32 t)).1 m 13 = n32 (zP z).1 from q13, show n32 (zP z).1 + 1 = n32 ((zP z).1 + 1) from z_add _ 1]
  have al : AgL E m [13] [14] S0 (sF (sG S0 (E.2 m 14) (zP z).1 (n32 t)) m 13 (n32 ((zP z).1 + 1))) := agl_trans (agl_sG (by decide)) (agl_sF (by decide))
  have vp : VYp E (sF (sG S0 (E.2 m 14) (zP z).1 (n32 t)) m 13 (n32 ((zP z).1 + 1))) m (pP (zP z) t) := ⟨up2_s _ _, fun k hk => app_n (fun q => v0.2.1.2 k q) hk⟩
  have hd := iz.1.1
  rw [r_pnd hfu (show (pP (zP z) t).1 ≤ 6 from iz'.2.1.1) vp (fun k hk => by
    have := isT_lt hd (iz'.2.1.2.2 k hk)
    exact Nat.lt_trans this (by decide)), pP_s, Option.bind_some]
  refine ⟨_, rfl, (agl_f al rfl).trans e0, ?_, agl_rf al rfl⟩
  exact vy_mk (vrt_agl Lm v0.1.1 al rfl rfl rfl) (vrb_agl Lm v0.1.2.1 al rfl rfl rfl) (vrc_agl Lm v0.1.2.2 al rfl rfl rfl) vp (vyd_agl Lm v0.2.2.1 al rfl rfl rfl) (vri_ag Lm v0.2.2.2.1 al rfl rfl rfl) (vrd_ag Lm v0.2.2.2.2.1 al rfl rfl rfl) ((agl_f al rfl).trans v0.2.2.2.2.2.1) ((agl_f al rfl).trans v0.2.2.2.2.2.2.1) ((agl_f al rfl).trans v0.2.2.2.2.2.2.2)
theorem go_pm (L : LX E a) (Lm : LR E m) (h3 : E.1 a3 = some (1, 2, 1)) (hfu : 200 ≤ fu) (iz : IZ z) (vx : VX E S a z) (vy : VY E S m z) (x : Int32) : GoS E a m a3 fu rc x4 (sp_L_parameter fu E S a x a3) (fun S => sp_X12_parameter fu E S m x) := by
  have hd := iz.1.1
  have hp6 := iz.2.1.2.1
  have k12 : S.1 (E.2 a 1) 12 = n32 (psum (zP z).2 (zP z).1) := vx.2.1.2.1
  have tt := t_typ (fu := fu) hd vx.1.1 x
  have rt : ∀ {S1 : St}, VY E S1 m z → sp_X12_isType fu E (sF S1 m 0 0) m x = some (b2 (decide (0 ≤ x) && isT z.1.1 x.toNatClampNeg), sF S1 m 0 0) := fun v => r_typ (fu := fu) hd (vy_0 Lm v).1.1 x
  have rp : ∀ {S1 : St}, VY E S1 m z → sp_X12_pendingSlots fu E (sF S1 m 0 0) m = some (n32 (psum (zP z).2 (zP z).1), sF S1 m 0 0) := fun v => r_pnd hfu iz.2.1.1 (vy_0 Lm v).2.1 (fun k hk => by
    have := isT_lt hd (iz.2.1.2.2 k hk)
    exact Nat.lt_trans this (by decide))
  unfold sp_L_parameter
  by_cases d : (decide (0 ≤ x) && isT z.1.1 x.toNatClampNeg) = true
  rotate_left
  · refine gos_no L Lm h3 vy iz "java/lang/IllegalArgumentException" 1 (by decide) (by decide) (by unfold sp_X11_parameter; rw [tt, Option.bind_some, b2_if, if_neg d]; exact co_same vx) (fun S1 v => ?_)
    unfold sp_X12_parameter bnd
    dsimp only
    rw [rt v, Option.bind_some, b2_if, if_neg d]
    exact ro_no Lm v
  have d' := d
  rw [Bool.and_eq_true] at d'
  obtain ⟨t, ht31, rfl⟩ := ge0_n d'.1
  have htt : isT z.1.1 t = true := by
    have := d'.2
    rw [z_nat ht31] at this
    exact this
  have hw : wide t ≤ 2 := by unfold wide; split <;> omega
  by_cases hn : psum (zP z).2 (zP z).1 + wide t ≤ 6
  rotate_left
  · refine gos_no L Lm h3 vy iz "java/lang/IllegalStateException" 2 (by decide) (by decide) (by unfold sp_X11_parameter; rw [tt, Option.bind_some, b2_if, if_pos d]; dsimp only; rw [t_slots ht31, Option.bind_some]; dsimp only; rw [k12, z_add, show (6 : Int32) = n32 6 from rfl, zi_le (by omega) (by decide), if_neg hn]; exact co_same vx) (fun S1 v => ?_)
    unfold sp_X12_parameter bnd
    dsimp only
    rw [rt v, Option.bind_some, b2_if, if_pos d]
    dsimp only
    rw [rp v, Option.bind_some]
    dsimp only
    rw [r_wide ht31, Option.bind_some]
    dsimp only
    rw [z_add, show (6 : Int32) = n32 6 from rfl, zi_le (by omega) (by decide), if_neg hn]
    exact ro_no Lm v
  refine gos_ok (z' := zPm z t) L Lm h3 vy (iz_Pm iz htt hn) (w := n32 (psum (zP z).2 (zP z).1 + wide t)) (by unfold sp_X11_parameter; rw [tt, Option.bind_some, b2_if, if_pos d]; dsimp only; rw [t_slots ht31, Option.bind_some]; dsimp only; rw [k12, z_add, show (6 : Int32) = n32 6 from rfl, zi_le (by omega) (by decide), if_pos hn]; exact c_Pm L Lm vx ht31 hn) (fun S1 v => ?_)
  obtain ⟨S2, f1, f2, f3, f4⟩ := r_Pm (fu := fu) Lm hfu iz (vy_0 Lm (x := 0) v) (up2_s _ _) htt hn
  refine ⟨S2, ?_, f2, f3, Ag_trans (rfc_F Lm) f4⟩
  rw [← f1]
  unfold sp_X12_parameter
  rw [show ∀ (k : St → Option (Int32 × St)), bnd (sF S1 m 0 0) k = k (sF S1 m 0 0) from fun _ => rfl, rt v, Option.bind_some, b2_if, if_pos d]
  dsimp only
  rw [rp v, Option.bind_some]
  dsimp only
  rw [r_wide ht31, Option.bind_some]
  dsimp only
  rw [z_add, show (6 : Int32) = n32 6 from rfl, zi_le (by omega) (by decide), if_pos hn]
end PRM
