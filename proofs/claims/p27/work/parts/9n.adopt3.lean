section AD3
variable {E : Ev} {S : St} {a m a3 fu : Nat} {z : Zs} {rc : Int32 → St → Option (Int32 × St)} {x4 : Int32}
theorem cnt_0 {tb : Nat → Option Fr} (h : ∀ i, i < 100 → tb i = none) : cntT tb 100 = 0 := by
  rw [cntT_congr (tb' := fun _ => none) 100 (fun i hi => by rw [h i hi])]
  exact cntT_none 100
theorem cnt_p {tb : Nat → Option Fr} {i : Nat} (h : (tb i).isSome = true) : ∀ k, i < k → 0 < cntT tb k
  | 0, hk => absurd hk (Nat.not_lt_zero _)
  | k + 1, hk => by
    show 0 < cntT tb k + (if (tb k).isSome = true then 1 else 0)
    by_cases c : i = k
    · rw [← c, if_pos h]; omega
    · have := cnt_p h k (by omega)
      omega
theorem ad_lt {c : Cd} {ti : Nat → Option Fr} (hc : CloT c ti) {j t : Nat} (hj : j < cn c) (hs : (ti j).isSome = true) (h : AdQ c j t) : t < cn c := by
  rcases h with ⟨h1, h2⟩ | ⟨_, _, h2⟩ | ⟨g, g1, g2, g3⟩
  · rw [h2]; exact ((hc j hj hs).1 h1).2.1
  · rw [h2]; exact hj
  · rw [g3]; exact ((hc j hj hs).2 g g1 g2).2.1
theorem iz_Ad {tb : Nat → Option Fr} {P : Nat → Prop} (iz : IZ z) (h : Adp (zI z) P tb) (hP : ∀ t, P t → t < cn z.1.2.2) : IZ (zt z tb) := by
  refine ⟨iz.1, iz.2.1, iz.2.2.1, iz.2.2.2.1, fun i x hi e => iz.2.2.2.1 i x hi (adp_h h e), iz.2.2.2.2.2.1, fun i hi => (h i).2 (fun p => ?_)⟩
  have hi : cn z.1.2.2 ≤ i := hi
  have := hP i p
  omega
def PAd (z : Zs) : Nat → Prop := fun t => ∃ j, j < cn z.1.2.2 ∧ (zI z j).isSome = true ∧ AdQ z.1.2.2 j t
theorem c_Ad (L : LX E a) (Lm : LR E m) (hfu : 200 ≤ fu) (iz : IZ z) (vx : VX E S a z) (hc : CloT z.1.2.2 (zI z)) : ∃ tb, Adp (zI z) (PAd z) tb ∧ CO E S a m ((sp_X4_clear fu E S (E.2 a 6)).bind fun u3 => (sp_X11_adoptAtJumps fu E u3 a).bind fun u4 => (sp_X11_adoptAtHandlers fu E u4 a).bind fun u5 => (sp_X11_adoptBehindEnds fu E u5 a).bind fun u6 => some ((.inr (u6.1 (E.2 a 6) 2)), u6)) (.inr (n32 (cntT tb 100))) (zt z tb) := by
  have h100 := iz.1.2.2.2.2.2.1
  have h10 := iz.1.2.2.2.2.2.2.1
  obtain ⟨S1, e1, v1, a1⟩ := vx_cR (fu := fu) L hfu vx
  obtain ⟨S2, tb2, e2, v2, A2, a2⟩ := c_atJ (fu := fu) L iz hc (cn z.1.2.2) 0 fu S1 (fun _ => none) (fun _ => False) (by omega) (by omega) v1 adp_0
  obtain ⟨S3, tb3, e3, v3, A3, a3'⟩ := c_atH (fu := fu) L hfu iz hc (chn z.1.2.2) 0 fu S2 tb2 _ (by omega) (by omega) v2 A2
  obtain ⟨S4, tb4, e4, v4, A4, a4⟩ := c_atE (fu := fu) L iz (max 1 (cn z.1.2.2) - 1) 1 fu S3 tb3 _ (by omega) (by omega) (by omega) v3 A3
  refine ⟨tb4, adp_c A4 (fun t ht => ⟨fun w => ?_, fun w => ?_⟩), ?_⟩
  · rcases w with ((w | ⟨j, _, h2, h3, h4, h5⟩) | ⟨g, _, g2, j, h2, h3, h4, h5⟩) | ⟨h1, h2, h3⟩
    · exact w.elim
    · exact ⟨j, h2, h3, Or.inl ⟨h4, h5⟩⟩
    · exact ⟨j, h2, h3, Or.inr (Or.inr ⟨g, g2, h4, h5⟩)⟩
    · exact ⟨t, h2, ht, Or.inr (Or.inl ⟨h1, h3, rfl⟩)⟩
  · obtain ⟨j, h2, h3, h4⟩ := w
    rcases h4 with ⟨w1, w2⟩ | ⟨w1, w2, w3⟩ | ⟨g, g2, g3, g4⟩
    · exact Or.inl (Or.inl (Or.inr ⟨j, Nat.zero_le j, h2, h3, w1, w2⟩))
    · rw [w3]; exact Or.inr ⟨w1, h2, w2⟩
    · exact Or.inl (Or.inr ⟨g, Nat.zero_le g, g2, j, h2, h3, g3, g4⟩)
  · have kk : S4.1 (E.2 a 6) 2 = n32 (cntT tb4 100) := v4.2.2.2.2.1.2.2
    unfold sp_X11_adoptAtJumps sp_X11_adoptAtHandlers sp_X11_adoptBehindEnds
    rw [e1, Option.bind_some, show lp_X11_adoptAtJumps_2 fu E a fu 0 S1 = some S2 from e2, Option.bind_some, show lp_X11_adoptAtHandlers_2 fu E a fu 0 S2 = some S3 from e3, Option.bind_some, show lp_X11_adoptBehindEnds_2 fu E a fu 1 S3 = some S4 from e4, Option.bind_some, kk]
    have n6 := nrf_pt Lm (lx_R L)
    exact ⟨S4, rfl, v4, Ag_trans (Ag_mono a1 n6) (Ag_trans (Ag_mono a2 n6) (Ag_trans (Ag_mono a3' n6) (Ag_mono a4 n6)))⟩
end AD3
