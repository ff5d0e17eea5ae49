def Adp (ti : Nat → Option Fr) (P : Nat → Prop) (tb : Nat → Option Fr) : Prop := ∀ i, (P i → tb i = ti i) ∧ (¬ P i → tb i = none)
section ADP
variable {ti tb tb' : Nat → Option Fr} {P P' : Nat → Prop}
theorem adp_0 : Adp ti (fun _ => False) (fun _ => none) := fun _ => ⟨fun e => e.elim, fun _ => rfl⟩
theorem adp_c (h : Adp ti P tb) (e : ∀ i, (ti i).isSome = true → (P i ↔ P' i)) : Adp ti P' tb := fun i => by
  by_cases n : (ti i).isSome = true
  · exact ⟨fun p => (h i).1 ((e i n).mpr p), fun p => (h i).2 (fun q => p ((e i n).mp q))⟩
  · have t0 : ti i = none := by
      cases q : ti i with
      | none => rfl
      | some x => rw [q] at n; exact absurd rfl n
    have b0 : tb i = none := by
      by_cases p : P i
      · rw [(h i).1 p, t0]
      · exact (h i).2 p
    exact ⟨fun _ => by rw [b0, t0], fun _ => b0⟩
theorem adp_n (h : Adp ti P tb) {q : Nat} (n : ti q = none) : Adp ti (fun t => P t ∨ t = q) tb := adp_c h (fun i hi => ⟨Or.inl, fun w => w.resolve_right (fun e => by rw [e, n] at hi; cases hi)⟩)
theorem adp_s (h : Adp ti P tb) {q : Nat} {x : Fr} (n : ti q = some x) : Adp ti (fun t => P t ∨ t = q) (upT tb q x) := fun i => by
  by_cases c : i = q
  · have e1 : upT tb q x i = some x := if_pos c
    exact ⟨fun _ => by rw [e1, c, n], fun w => absurd (Or.inr c) w⟩
  · have e1 : upT tb q x i = tb i := if_neg c
    rw [e1]
    exact ⟨fun w => (h i).1 (w.resolve_right c), fun w => (h i).2 (fun p => w (Or.inl p))⟩
end ADP
section ADC
variable {E : Ev} {S : St} {a m a3 fu : Nat} {z : Zs} {tb : Nat → Option Fr} {P : Nat → Prop}
def zt (z : Zs) (tb : Nat → Option Fr) : Zs := (z.1, z.2.1, (zI z, tb), zE z, zV z)
theorem c_at (L : LX E a) (vx : VX E S a (zt z tb)) (h : Adp (zI z) P tb) {q : Nat} (hq : q < 100) : ∃ S' tb', sp_X11_adoptAt fu E S a (n32 q) = some S' ∧ VX E S' a (zt z tb') ∧ Adp (zI z) (fun t => P t ∨ t = q) tb' ∧ Ag (PT E (E.2 a 6)) S S' := by
  have vI : VTb E S (E.2 a 5) (zI z) := vx.2.2.2.1
  have vR : VTb E S (E.2 a 6) tb := vx.2.2.2.2.1
  unfold sp_X11_adoptAt
  rw [t_has vI hq, Option.bind_some, b2_if]
  dsimp only
  cases e : zI z q with
  | none =>
    rw [if_neg (show ¬ (none : Option Fr).isSome = true by decide)]
    exact ⟨S, tb, rfl, vx, adp_n h e, Ag_refl⟩
  | some x =>
    rw [if_pos (show (some x).isSome = true from rfl), if_pos (show inb (n32 q) 100 = true by rw [z_inb (by omega)]; exact hq), z_nat (show q < 2 ^ 31 by omega)]
    have vf := vI.2.1 q x hq e
    have hf := tb_f L.1 (lx_I L) hq
    have nf : ∀ j, j < 100 → frA E (E.2 a 5) q ≠ frA E (E.2 a 6) j := fun j hj w => pt_dis L.1 L.2.1 (lx_I L) (lx_R L) L.2.2.2.2.2.2.2.2.2.2 (frA E (E.2 a 5) q) (Or.inr (Or.inr ⟨q, hq, Or.inl rfl⟩)) (Or.inr (Or.inr ⟨j, hj, Or.inl w⟩))
    obtain ⟨S1, e1, v1, a1⟩ := t_put (fu := fu) L.1 L.2.1 (lx_R L) vR hq hf nf vf.1 vf.2
    rw [show E.2 (E.2 (E.2 a 5) 0) q = frA E (E.2 a 5) q from rfl, e1, Option.bind_some]
    exact ⟨S1, upT tb q x, rfl, vx_R (z := zt z tb) L vx a1 v1, adp_s h e, a1⟩
theorem c_atJ (L : LX E a) (iz : IZ z) (hc : CloT z.1.2.2 (zI z)) : ∀ (k i F : Nat) (S : St) (tb : Nat → Option Fr) (P : Nat → Prop), i + k = cn z.1.2.2 → k + 1 ≤ F → VX E S a (zt z tb) → Adp (zI z) P tb → ∃ S' tb', lp_X11_adoptAtJumps_2 fu E a F (n32 i) S = some S' ∧ VX E S' a (zt z tb') ∧ Adp (zI z) (fun t => P t ∨ ∃ j, i ≤ j ∧ j < cn z.1.2.2 ∧ (zI z j).isSome = true ∧ jmp (cop z.1.2.2 j) = true ∧ t = (cx z.1.2.2 j).toNatClampNeg) tb' ∧ Ag (PT E (E.2 a 6)) S S' := by
  have h100 := iz.1.2.2.2.2.2.1
  intro k
  induction k with
  | zero =>
    intro i F S tb P hk hF vx h
    obtain ⟨F, rfl⟩ : ∃ z, F = z + 1 := ⟨F - 1, by omega⟩
    show ∃ S' tb', bd_X11_adoptAtJumps_2 fu E a _ (n32 i) S = _ ∧ _
    unfold bd_X11_adoptAtJumps_2
    rw [show S.1 (E.2 a 2) 6 = n32 (cn z.1.2.2) from vx.1.2.2.2.2.2.2.1, zi_le (by omega) (by omega), if_pos (by omega)]
    exact ⟨S, tb, rfl, vx, adp_c h (fun t _ => ⟨Or.inl, fun w => w.resolve_right (fun ⟨j, h1, h2, _⟩ => by omega)⟩), Ag_refl⟩
  | succ k ih =>
    intro i F S tb P hk hF vx h
    obtain ⟨F, rfl⟩ : ∃ z, F = z + 1 := ⟨F - 1, by omega⟩
    have hi : i < cn z.1.2.2 := by omega
    have hin : inb (n32 i) 100 = true := by rw [z_inb (by omega)]; omega
    have hop := iz.1.2.2.2.2.2.2.2.1 i hi
    show ∃ S' tb', bd_X11_adoptAtJumps_2 fu E a (lp_X11_adoptAtJumps_2 fu E a F) (n32 i) S = _ ∧ _
    unfold bd_X11_adoptAtJumps_2
    have ci := vx.1.2.2.2.2.2.2.2.2.1 i hi
    rw [show S.1 (E.2 a 2) 6 = n32 (cn z.1.2.2) from vx.1.2.2.2.2.2.2.1, zi_le (by omega) (by omega), if_neg (by omega), t_has vx.2.2.2.1 (show i < 100 by omega), Option.bind_some, b2_if, show n32 i + 1 = n32 (i + 1) from z_add i 1]
    dsimp only
    rw [if_pos hin, z_nat (show i < 2 ^ 31 by omega), show S.2.1 (E.2 (E.2 a 2) 4) i = n32 (cop z.1.2.2 i) from ci.1]
    have ej : sp_X9_jumps fu E S (n32 (cop z.1.2.2 i)) = some (b2 (jmp (cop z.1.2.2 i)), S) := jmp_ite hop
    rw [ej, Option.bind_some, b2_if]
    dsimp only
    rw [if_pos hin, show S.2.1 (E.2 (E.2 a 2) 5) i = cx z.1.2.2 i from ci.2]
    -- nothing to adopt here
    have skip : ¬ ((zI z i).isSome = true ∧ jmp (cop z.1.2.2 i) = true) → ∃ S' tb', lp_X11_adoptAtJumps_2 fu E a F (n32 (i + 1)) S = some S' ∧ VX E S' a (zt z tb') ∧ Adp (zI z) (fun t => P t ∨ ∃ j, i ≤ j ∧ j < cn z.1.2.2 ∧ (zI z j).isSome = true ∧ jmp (cop z.1.2.2 j) = true ∧ t = (cx z.1.2.2 j).toNatClampNeg) tb' ∧ Ag (PT E (E.2 a 6)) S S' := by
      intro hno
      obtain ⟨S', tb', e, v, h', ag⟩ := ih (i + 1) F S tb P (by omega) (by omega) vx h
      refine ⟨S', tb', e, v, adp_c h' (fun t _ => ⟨fun w => w.imp id (fun ⟨j, h1, h2⟩ => ⟨j, by omega, h2⟩), fun w => w.imp id (fun ⟨j, h1, h2, h3, h4, h5⟩ => ⟨j, ?_, h2, h3, h4, h5⟩)⟩), ag⟩
      by_cases c : j = i
      · rw [c] at h3 h4; exact absurd ⟨h3, h4⟩ hno
      · omega
    by_cases c1 : (zI z i).isSome = true
    rotate_left
    · rw [show zI (zt z tb) = zI z from rfl, if_neg c1]
      exact skip (fun w => c1 w.1)
    rw [show zI (zt z tb) = zI z from rfl, if_pos c1]
    by_cases c2 : jmp (cop z.1.2.2 i) = true
    rotate_left
    · rw [if_neg c2]; exact skip (fun w => c2 w.2)
    rw [if_pos c2]
    obtain ⟨_, t2, t3⟩ := (hc i hi c1).1 c2
    rw [t3]
    obtain ⟨S1, tb1, e1, v1, h1, a1⟩ := c_at (fu := fu) L vx h (show (cx z.1.2.2 i).toNatClampNeg < 100 by omega)
    rw [e1, Option.bind_some]
    obtain ⟨S', tb', e, v, h', ag⟩ := ih (i + 1) F S1 tb1 _ (by omega) (by omega) v1 h1
    refine ⟨S', tb', e, v, adp_c h' (fun t _ => ⟨fun w => ?_, fun w => ?_⟩), Ag_trans a1 ag⟩
    · rcases w with (w | w) | ⟨j, h1, h2⟩
      · exact Or.inl w
      · exact Or.inr ⟨i, Nat.le_refl i, hi, c1, c2, w⟩
      · exact Or.inr ⟨j, by omega, h2⟩
    · rcases w with w | ⟨j, h1, h2, h3, h4, h5⟩
      · exact Or.inl (Or.inl w)
      · by_cases c : j = i
        · exact Or.inl (Or.inr (by rw [← c]; exact h5))
        · exact Or.inr ⟨j, by omega, h2, h3, h4, h5⟩
theorem c_atH1 (L : LX E a) (iz : IZ z) (hc : CloT z.1.2.2 (zI z)) {h : Nat} (hh : h < chn z.1.2.2) {rc2 : Int32 → St → Option St} : ∀ (k i F : Nat) (S : St) (tb : Nat → Option Fr) (P : Nat → Prop), i + k = cn z.1.2.2 → k + 1 ≤ F → VX E S a (zt z tb) → Adp (zI z) P tb → ∃ S' tb', lp_X11_adoptAtHandlers_15 fu E a rc2 F (n32 h) (n32 i) S = rc2 (n32 (h + 1)) S' ∧ VX E S' a (zt z tb') ∧ Adp (zI z) (fun t => P t ∨ ∃ j, i ≤ j ∧ j < cn z.1.2.2 ∧ (zI z j).isSome = true ∧ prot z.1.2.2 h j = true ∧ t = tgt z.1.2.2 h) tb' ∧ Ag (PT E (E.2 a 6)) S S' := by
  have h100 := iz.1.2.2.2.2.2.1
  have h10 := iz.1.2.2.2.2.2.2.1
  intro k
  induction k with
  | zero =>
    intro i F S tb P hk hF vx hA
    obtain ⟨F, rfl⟩ : ∃ z, F = z + 1 := ⟨F - 1, by omega⟩
    show ∃ S' tb', bd_X11_adoptAtHandlers_15 fu E a rc2 _ (n32 h) (n32 i) S = _ ∧ _
    unfold bd_X11_adoptAtHandlers_15
    rw [show S.1 (E.2 a 2) 6 = n32 (cn z.1.2.2) from vx.1.2.2.2.2.2.2.1, zi_le (by omega) (by omega), if_pos (by omega), show n32 h + 1 = n32 (h + 1) from z_add h 1]
    exact ⟨S, tb, rfl, vx, adp_c hA (fun t _ => ⟨Or.inl, fun w => w.resolve_right (fun ⟨j, h1, h2, _⟩ => by omega)⟩), Ag_refl⟩
  | succ k ih =>
    intro i F S tb P hk hF vx hA
    obtain ⟨F, rfl⟩ : ∃ z, F = z + 1 := ⟨F - 1, by omega⟩
    have hi : i < cn z.1.2.2 := by omega
    have hinh : inb (n32 h) 10 = true := by rw [z_inb (by omega)]; omega
    show ∃ S' tb', bd_X11_adoptAtHandlers_15 fu E a rc2 (lp_X11_adoptAtHandlers_15 fu E a rc2 F) (n32 h) (n32 i) S = _ ∧ _
    unfold bd_X11_adoptAtHandlers_15
    have ch := (vx.1.2.2.2.2.2.2.2.2.2 h hh).2.2.1
    rw [show S.1 (E.2 a 2) 6 = n32 (cn z.1.2.2) from vx.1.2.2.2.2.2.2.1, zi_le (by omega) (by omega), if_neg (by omega), t_prot (c := z.1.2.2) vx.1.2.2 h10 hh, Option.bind_some, b2_if, show n32 i + 1 = n32 (i + 1) from z_add i 1]
    dsimp only
    rw [t_has vx.2.2.2.1 (show i < 100 by omega), Option.bind_some, b2_if]
    dsimp only
    rw [if_pos hinh, z_nat (show h < 2 ^ 31 by omega), show S.2.1 (E.2 (E.2 a 2) 9) h = cht z.1.2.2 h from ch]
    have skip : ¬ ((zI z i).isSome = true ∧ prot z.1.2.2 h i = true) → ∃ S' tb', lp_X11_adoptAtHandlers_15 fu E a rc2 F (n32 h) (n32 (i + 1)) S = rc2 (n32 (h + 1)) S' ∧ VX E S' a (zt z tb') ∧ Adp (zI z) (fun t => P t ∨ ∃ j, i ≤ j ∧ j < cn z.1.2.2 ∧ (zI z j).isSome = true ∧ prot z.1.2.2 h j = true ∧ t = tgt z.1.2.2 h) tb' ∧ Ag (PT E (E.2 a 6)) S S' := by
      intro hno
      obtain ⟨S', tb', e, v, h', ag⟩ := ih (i + 1) F S tb P (by omega) (by omega) vx hA
      refine ⟨S', tb', e, v, adp_c h' (fun t _ => ⟨fun w => w.imp id (fun ⟨j, h1, h2⟩ => ⟨j, by omega, h2⟩), fun w => w.imp id (fun ⟨j, h1, h2, h3, h4, h5⟩ => ⟨j, ?_, h2, h3, h4, h5⟩)⟩), ag⟩
      by_cases c : j = i
      · rw [c] at h3 h4; exact absurd ⟨h3, h4⟩ hno
      · omega
    by_cases c2 : prot z.1.2.2 h i = true
    rotate_left
    · rw [if_neg c2]; exact skip (fun w => c2 w.2)
    rw [if_pos c2]
    by_cases c1 : (zI z i).isSome = true
    rotate_left
    · rw [show zI (zt z tb) = zI z from rfl, if_neg c1]
      exact skip (fun w => c1 w.1)
    rw [show zI (zt z tb) = zI z from rfl, if_pos c1]
    obtain ⟨_, t2, t3⟩ := (hc i hi c1).2 h hh c2
    rw [t3]
    obtain ⟨S1, tb1, e1, v1, h1, a1⟩ := c_at (fu := fu) L vx hA (show tgt z.1.2.2 h < 100 by omega)
    rw [e1, Option.bind_some]
    obtain ⟨S', tb', e, v, h', ag⟩ := ih (i + 1) F S1 tb1 _ (by omega) (by omega) v1 h1
    refine ⟨S', tb', e, v, adp_c h' (fun t _ => ⟨fun w => ?_, fun w => ?_⟩), Ag_trans a1 ag⟩
    · rcases w with (w | w) | ⟨j, h1, h2⟩
      · exact Or.inl w
      · exact Or.inr ⟨i, Nat.le_refl i, hi, c1, c2, w⟩
      · exact Or.inr ⟨j, by omega, h2⟩
    · rcases w with w | ⟨j, h1, h2, h3, h4, h5⟩
      · exact Or.inl (Or.inl w)
      · by_cases c : j = i
        · exact Or.inl (Or.inr h5)
        · exact Or.inr ⟨j, by omega, h2, h3, h4, h5⟩
theorem c_atH (L : LX E a) (hfu : 200 ≤ fu) (iz : IZ z) (hc : CloT z.1.2.2 (zI z)) : ∀ (k h F : Nat) (S : St) (tb : Nat → Option Fr) (P : Nat → Prop), h + k = chn z.1.2.2 → k + 1 ≤ F → VX E S a (zt z tb) → Adp (zI z) P tb → ∃ S' tb', lp_X11_adoptAtHandlers_2 fu E a F (n32 h) S = some S' ∧ VX E S' a (zt z tb') ∧ Adp (zI z) (fun t => P t ∨ ∃ g, h ≤ g ∧ g < chn z.1.2.2 ∧ ∃ j, j < cn z.1.2.2 ∧ (zI z j).isSome = true ∧ prot z.1.2.2 g j = true ∧ t = tgt z.1.2.2 g) tb' ∧ Ag (PT E (E.2 a 6)) S S' := by
  have h100 := iz.1.2.2.2.2.2.1
  have h10 := iz.1.2.2.2.2.2.2.1
  intro k
  induction k with
  | zero =>
    intro h F S tb P hk hF vx hA
    obtain ⟨F, rfl⟩ : ∃ z, F = z + 1 := ⟨F - 1, by omega⟩
    show ∃ S' tb', bd_X11_adoptAtHandlers_2 fu E a _ (n32 h) S = _ ∧ _
    unfold bd_X11_adoptAtHandlers_2
    rw [show S.1 (E.2 a 2) 11 = n32 (chn z.1.2.2) from vx.1.2.2.2.2.2.2.2.1, zi_le (by omega) (by omega), if_pos (by omega)]
    exact ⟨S, tb, rfl, vx, adp_c hA (fun t _ => ⟨Or.inl, fun w => w.resolve_right (fun ⟨j, h1, h2, _⟩ => by omega)⟩), Ag_refl⟩
  | succ k ih =>
    intro h F S tb P hk hF vx hA
    obtain ⟨F, rfl⟩ : ∃ z, F = z + 1 := ⟨F - 1, by omega⟩
    show ∃ S' tb', bd_X11_adoptAtHandlers_2 fu E a (lp_X11_adoptAtHandlers_2 fu E a F) (n32 h) S = _ ∧ _
    unfold bd_X11_adoptAtHandlers_2
    rw [show S.1 (E.2 a 2) 11 = n32 (chn z.1.2.2) from vx.1.2.2.2.2.2.2.2.1, zi_le (by omega) (by omega), if_neg (by omega)]
    obtain ⟨S1, tb1, e1, v1, h1, a1⟩ := c_atH1 (fu := fu) (rc2 := lp_X11_adoptAtHandlers_2 fu E a F) L iz hc (show h < chn z.1.2.2 by omega) (cn z.1.2.2) 0 fu S tb P (by omega) (by omega) vx hA
    obtain ⟨S', tb', e, v, h', ag⟩ := ih (h + 1) F S1 tb1 _ (by omega) (by omega) v1 h1
    refine ⟨S', tb', e1.trans e, v, adp_c h' (fun t _ => ⟨fun w => ?_, fun w => ?_⟩), Ag_trans a1 ag⟩
    · rcases w with (w | ⟨j, h1, h2⟩) | ⟨g, h1, h2⟩
      · exact Or.inl w
      · exact Or.inr ⟨h, Nat.le_refl h, by omega, j, h2⟩
      · exact Or.inr ⟨g, by omega, h2⟩
    · rcases w with w | ⟨g, h1, h2, j, h3⟩
      · exact Or.inl (Or.inl w)
      · by_cases c : g = h
        · rw [c] at h3
          exact Or.inl (Or.inr ⟨j, Nat.zero_le j, h3⟩)
        · exact Or.inr ⟨g, by omega, h2, j, h3⟩
theorem c_atE (L : LX E a) (iz : IZ z) : ∀ (k i F : Nat) (S : St) (tb : Nat → Option Fr) (P : Nat → Prop), 1 ≤ i → i + k = max 1 (cn z.1.2.2) → k + 1 ≤ F → VX E S a (zt z tb) → Adp (zI z) P tb → ∃ S' tb', lp_X11_adoptBehindEnds_2 fu E a F (n32 i) S = some S' ∧ VX E S' a (zt z tb') ∧ Adp (zI z) (fun t => P t ∨ (i ≤ t ∧ t < cn z.1.2.2 ∧ fal (cop z.1.2.2 (t - 1)) = false)) tb' ∧ Ag (PT E (E.2 a 6)) S S' := by
  have h100 := iz.1.2.2.2.2.2.1
  intro k
  induction k with
  | zero =>
    intro i F S tb P h1 hk hF vx hA
    obtain ⟨F, rfl⟩ : ∃ z, F = z + 1 := ⟨F - 1, by omega⟩
    show ∃ S' tb', bd_X11_adoptBehindEnds_2 fu E a _ (n32 i) S = _ ∧ _
    unfold bd_X11_adoptBehindEnds_2
    rw [show S.1 (E.2 a 2) 6 = n32 (cn z.1.2.2) from vx.1.2.2.2.2.2.2.1, zi_le (by omega) (by omega), if_pos (by omega)]
    exact ⟨S, tb, rfl, vx, adp_c hA (fun t _ => ⟨Or.inl, fun w => w.resolve_right (fun ⟨h1, h2, _⟩ => by omega)⟩), Ag_refl⟩
  | succ k ih =>
    intro i F S tb P h1 hk hF vx hA
    obtain ⟨F, rfl⟩ : ∃ z, F = z + 1 := ⟨F - 1, by omega⟩
    have hi : i < cn z.1.2.2 := by omega
    have hin : inb (n32 (i - 1)) 100 = true := by rw [z_inb (by omega)]; omega
    have hop := iz.1.2.2.2.2.2.2.2.1 (i - 1) (by omega)
    have ci := (vx.1.2.2.2.2.2.2.2.2.1 (i - 1) (show i - 1 < cn z.1.2.2 by omega)).1
    show ∃ S' tb', bd_X11_adoptBehindEnds_2 fu E a (lp_X11_adoptBehindEnds_2 fu E a F) (n32 i) S = _ ∧ _
    unfold bd_X11_adoptBehindEnds_2
    rw [show S.1 (E.2 a 2) 6 = n32 (cn z.1.2.2) from vx.1.2.2.2.2.2.2.1, zi_le (by omega) (by omega), if_neg (by omega), show n32 i - 1 = n32 (i - 1) from z_sub h1, if_pos hin, z_nat (show i - 1 < 2 ^ 31 by omega), show S.2.1 (E.2 (E.2 a 2) 4) (i - 1) = n32 (cop z.1.2.2 (i - 1)) from ci]
    have ef : sp_X9_fallsThrough fu E S (n32 (cop z.1.2.2 (i - 1))) = some (b2 (fal (cop z.1.2.2 (i - 1))), S) := fal_ite hop
    rw [ef, Option.bind_some, b2_if, show n32 i + 1 = n32 (i + 1) from z_add i 1]
    dsimp only
    by_cases c : fal (cop z.1.2.2 (i - 1)) = true
    · rw [if_pos c]
      obtain ⟨S', tb', e, v, h', ag⟩ := ih (i + 1) F S tb P (by omega) (by omega) (by omega) vx hA
      refine ⟨S', tb', e, v, adp_c h' (fun t _ => ⟨fun w => w.imp id (fun ⟨h1, h2⟩ => ⟨by omega, h2⟩), fun w => w.imp id (fun ⟨h1, h2, h3⟩ => ⟨?_, h2, h3⟩)⟩), ag⟩
      by_cases d : t = i
      · rw [d, c] at h3; cases h3
      · omega
    · rw [if_neg c]
      obtain ⟨S1, tb1, e1, v1, h1', a1⟩ := c_at (fu := fu) L vx hA (show i < 100 by omega)
      rw [e1, Option.bind_some]
      obtain ⟨S', tb', e, v, h', ag⟩ := ih (i + 1) F S1 tb1 _ (by omega) (by omega) (by omega) v1 h1'
      have cf : fal (cop z.1.2.2 (i - 1)) = false := by
        cases q : fal (cop z.1.2.2 (i - 1)) with
        | false => rfl
        | true => exact absurd q c
      refine ⟨S', tb', e, v, adp_c h' (fun t _ => ⟨fun w => ?_, fun w => ?_⟩), Ag_trans a1 ag⟩
      · rcases w with (w | w) | ⟨h1, h2⟩
        · exact Or.inl w
        · rw [w]; exact Or.inr ⟨Nat.le_refl i, hi, cf⟩
        · exact Or.inr ⟨by omega, h2⟩
      · rcases w with w | ⟨h1, h2, h3⟩
        · exact Or.inl (Or.inl w)
        · by_cases d : t = i
          · exact Or.inl (Or.inr d)
          · exact Or.inr ⟨by omega, h2, h3⟩
end ADC
