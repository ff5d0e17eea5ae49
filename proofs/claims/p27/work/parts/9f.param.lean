section PRM
variable {E : Ev} {S : St} {a m a3 fu : Nat} {z : Zs} {rc : Int32 → St → Option (Int32 × St)} {x4 : Int32}
theorem psum_ge {f : Nat → Nat} : ∀ k, k ≤ psum f k
  | 0 => Nat.le_refl _
  | k + 1 => by
    have := psum_ge (f := f) k
    show k + 1 ≤ psum f k + wide (f k)
    unfold wide
    split <;> omega
theorem psum_cg {f g : Nat → Nat} : ∀ k, (∀ j, j < k → f j = g j) → psum f k = psum g k
  | 0, _ => rfl
  | k + 1, h => by
    show psum f k + wide (f k) = psum g k + wide (g k)
    rw [psum_cg k (fun j hj => h j (by omega)), h k (by omega)]
def pP (p : Pnd) (t : Nat) : Pnd := (p.1 + 1, fun j => if j = p.1 then t else p.2 j)
def zPm (z : Zs) (t : Nat) : Zs := (z.1, (pP (zP z) t, z.2.1.2), z.2.2)
theorem pP_s {p : Pnd} {t : Nat} : psum (pP p t).2 (pP p t).1 = psum p.2 p.1 + wide t := by
  show psum (pP p t).2 p.1 + wide (if p.1 = p.1 then t else p.2 p.1) = _
  rw [if_pos rfl, psum_cg p.1 (f := (pP p t).2) (g := p.2) (fun j hj => if_neg (by omega))]
theorem iz_Pm {t : Nat} (iz : IZ z) (ht : isT z.1.1 t = true) (hn : psum (zP z).2 (zP z).1 + wide t ≤ 6) : IZ (zPm z t) := by
  obtain ⟨h1, ⟨p1, p2, p3⟩, h2⟩ := iz
  have hp : psum (pP (zP z) t).2 (pP (zP z) t).1 ≤ 6 := by rw [pP_s]; exact hn
  refine ⟨h1, ⟨Nat.le_trans (psum_ge _) hp, hp, fun k hk => ?_⟩, h2⟩
  have hk : k < (zP z).1 + 1 := hk
  show isT z.1.1 (if k = (zP z).1 then t else (zP z).2 k) = true
  by_cases e : k = (zP z).1
  · rw [if_pos e]; exact ht
  · rw [if_neg e]; exact p3 k (by omega)
theorem pn_lt {t : Nat} (hn : psum (zP z).2 (zP z).1 + wide t ≤ 6) : (zP z).1 < 6 := by
  have := psum_ge (f := (zP z).2) (zP z).1
  have h1 : 1 ≤ wide t := by unfold wide; split <;> omega
  omega
theorem c_Pm (L : LX E a) (Lm : LR E m) (vx : VX E S a z) {t : Nat} (ht : t < 2 ^ 31) (hn : psum (zP z).2 (zP z).1 + wide t ≤ 6) : CO E S a m ((sp_X8_addParameter fu E S (E.2 a 1) (n32 t)).bind fun u6 => some ((.inr u6.1), u6.2)) (.inr (n32 (psum (zP z).2 (zP z).1 + wide t))) (zPm z t) := by
  have B := lx_B L
  obtain ⟨b1, b2', b3⟩ := vx.2.1
  have hp := pn_lt hn
  have hin : inb (n32 (zP z).1) 6 = true := by rw [z_inb (by omega)]; exact hp
  unfold sp_X8_addParameter bnd
  dsimp only
  rw [b1, if_pos hin, z_nat (show (zP z).1 < 2 ^ 31 by omega), t_slots ht, Option.bind_some]
  dsimp only
  rw [show (sG S (E.2 (E.2 a 1) 10) (zP z).1 (n32 t)).1 (E.2 a 1) 11 = n32 (zP z).1 from b1, show n32 (zP z).1 + 1 = n32 ((zP z).1 + 1) from z_add _ 1, show (sF (sG S (E.2 (E.2 a 1) 10) (zP z).1 (n32 t)) (E.2 a 1) 11 (n32 ((zP z).1 + 1))).1 (E.2 a 1) 12 = n32 (psum (zP z).2 (zP z).1) from (up2_n _ _ (fun e => by simp at e)).trans b2', z_add, Option.bind_some]
  dsimp only
  have ag : Ag (PO E (E.2 a 1) 7) S (sF (sF (sG S (E.2 (E.2 a 1) 10) (zP z).1 (n32 t)) (E.2 a 1) 11 (n32 ((zP z).1 + 1))) (E.2 a 1) 12 (n32 (psum (zP z).2 (zP z).1 + wide t))) := Ag_trans (Ag_mono sG_ag (fun q e => Or.inr ⟨10, (1, 0, 6), rfl, rfl, e⟩)) (Ag_trans (Ag_mono sF_ag (fun q e => Or.inl e)) (Ag_mono sF_ag (fun q e => Or.inl e)))
  have f : ∀ j, j ≠ 11 → j ≠ 12 → (sF (sF (sG S (E.2 (E.2 a 1) 10) (zP z).1 (n32 t)) (E.2 a 1) 11 (n32 ((zP z).1 + 1))) (E.2 a 1) 12 (n32 (psum (zP z).2 (zP z).1 + wide t))).1 (E.2 a 1) j = S.1 (E.2 a 1) j := fun j h1 h2 => (up2_n _ _ (fun e => h2 e.2)).trans (up2_n _ _ (fun e => h1 e.2))
  have g : ∀ (j : Nat) (p : ∃ u, (ftab 7)[j]? = some (some u) ∧ u.1 = 1), j ≠ 10 → ∀ i, (sF (sF (sG S (E.2 (E.2 a 1) 10) (zP z).1 (n32 t)) (E.2 a 1) 11 (n32 ((zP z).1 + 1))) (E.2 a 1) 12 (n32 (psum (zP z).2 (zP z).1 + wide t))).2.1 (E.2 (E.2 a 1) j) i = S.2.1 (E.2 (E.2 a 1) j) i := fun j ⟨u, hu, u1⟩ h0 i => up2_n _ _ (fun e => arr_ne L.1 L.2.1 B B hu (show (ftab 7)[10]? = some (some (1, 0, 6)) from rfl) u1 rfl (fun q => h0 q.2) e.1)
  refine ⟨_, congrArg some (Prod.ext (congrArg Sum.inr (up2_s _ _)) rfl), vx_B (z' := zPm z t) L vx ag ⟨rfl, rfl⟩ ⟨rfl, rfl⟩ ?_ ?_, Ag_mono ag (nrf_po Lm B (by decide))⟩
  · obtain ⟨c1, c2, c3, c4⟩ := vx.1.2.1
    refine ⟨(f 2 (by decide) (by decide)).trans c1, (f 9 (by decide) (by decide)).trans c2, fun i hi => ⟨(g 0 ⟨_, rfl, rfl⟩ (by decide) i).trans (c3 i hi).1, (g 1 ⟨_, rfl, rfl⟩ (by decide) i).trans (c3 i hi).2⟩, fun k hk => ?_⟩
    have w := c4 k hk
    refine ⟨(g 3 ⟨_, rfl, rfl⟩ (by decide) k).trans w.1, (g 4 ⟨_, rfl, rfl⟩ (by decide) k).trans w.2.1, (g 5 ⟨_, rfl, rfl⟩ (by decide) k).trans w.2.2.1, (g 6 ⟨_, rfl, rfl⟩ (by decide) k).trans w.2.2.2.1, (g 7 ⟨_, rfl, rfl⟩ (by decide) k).trans w.2.2.2.2.1, fun j hj => (g 8 ⟨_, rfl, rfl⟩ (by decide) _).trans (w.2.2.2.2.2 j hj)⟩
  · refine ⟨(up2_n _ _ (fun e => by simp at e)).trans (up2_s _ _), ?_, fun k hk => ?_⟩
    · show up2 _ _ _ _ _ _ = n32 (psum (pP (zP z) t).2 (pP (zP z) t).1)
      rw [pP_s]
      exact up2_s _ _
    · exact app_n (fun q => b3 k q) hk
end PRM
