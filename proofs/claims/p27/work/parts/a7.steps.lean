/-! the law's steps, from its end back -/
theorem lg_sm (x : Int64) : lg_cmp x x = 0 := by
  unfold lg_cmp
  simp
section LAW
variable {E : Ev} {S : St} {a fu : Nat} {z : Zs} {xs : Nat → Int32} {N : Nat}
theorem aAll_f {p : Nat → Bool} {q : Nat} (hp : p q = false) : ∀ (k i : Nat), i ≤ q → q < i + k → aAll p i k = false
  | 0, i, h1, h2 => absurd h2 (by omega)
  | k + 1, i, h1, h2 => by
    show (p i && aAll p (i + 1) k) = false
    by_cases c : i = q
    · rw [c, hp]; rfl
    · rw [aAll_f hp k (i + 1) (by omega) (by omega), Bool.and_false]
theorem t_397 (L : LX E a) (hfu : 1000000 ≤ fu) (iz : IZ z) (vx : VX E S a z) (hA : LW z.1) (hI : zI z = lft (aInf z.1)) : ∃ S', jb_L_law_397 fu E xs N a (n32 (cn z.1.2.2)) (aInf z.1).1.1 (b2 (aAll (fun j => (zI z j).isSome) 0 (cn z.1.2.2))) S = some (1, S') := by
  have h100 := iz.1.2.2.2.2.2.1
  have hf : 200 ≤ fu := Nat.le_trans (by decide) hfu
  obtain ⟨-, -, -, fx⟩ := inf_fix hA iz.1
  unfold jb_L_law_397
  by_cases k0 : (aInf z.1).1.1 = 0
  · rw [if_pos k0]
    obtain ⟨hT, h0⟩ := fx k0
    rw [← hI] at hT h0
    have hs0 : (zI z 0).isSome = true := by obtain ⟨x, e, -⟩ := h0; rw [e]; rfl
    obtain ⟨tb, hP, ⟨S1, e1, v1⟩, iz1, c1⟩ := m_ad (fu := fu) L hf iz vx hs0
    rw [hc e1, zi_nlt (by omega), zi_le (by omega) (by omega), if_pos c1]
    obtain ⟨S2, e2, v2⟩ := m_ck (fu := fu) L hf iz1 v1 (show cst z.1.2.2 = true from hA.2.1.1)
    have e2 : sp_X11_check fu E S1 a = some (.inr (aChk z.1 tb).1, S2) := e2
    rw [hc e2]
    rcases chk_ok hA hT h0 hP with ⟨ha, q0, q1, q2⟩ | ⟨q, hq, hn, q0, q1⟩
    · rw [aAll_of _ _ (fun j _ hj => ha j (by omega)), if_neg (show ¬ b2 true = 0 by decide), q0, if_pos rfl, m_vis v2, Option.bind_some]
      dsimp only
      rw [if_pos (show n32 (zV (zCk (zt z tb))) = n32 (cn z.1.2.2) from congrArg n32 q1), m_pos v2, Option.bind_some]
      dsimp only
      rw [if_pos (show zE (zCk (zt z tb)) = -1 from q2)]
      exact ⟨S2, rfl⟩
    · have hn' : (fun j => (zI z j).isSome) q = false := by
        show (zI z q).isSome = false
        rw [hn]; rfl
      rw [aAll_f hn' _ _ (Nat.zero_le _) (by omega), if_pos (show b2 false = 0 from rfl), q0, if_pos rfl, m_pos v2, Option.bind_some]
      dsimp only
      have eh : sp_X11_hasFrame fu E S2 a (n32 q) = some (.inr (b2 (zI z q).isSome), S2) := m_has (z := zCk (zt z tb)) iz1 v2 hq
      rw [show zE (zCk (zt z tb)) = n32 q from q1, hc eh, hn, if_pos (show b2 (none : Option Fr).isSome = 0 from rfl)]
      exact ⟨S2, rfl⟩
  · rw [if_neg k0]
    exact ⟨S, rfl⟩
theorem t_325 (iz : IZ z) (vx : VX E S a z) (hA : LW z.1) (hI : zI z = lft (aInf z.1)) : ∀ (k i F : Nat) (b : Bool), i + k = cn z.1.2.2 → k + 1 ≤ F → lp_L_law_325 fu E xs N a F (n32 (cn z.1.2.2)) (aInf z.1).1.1 (b2 b) (n32 i) S = jb_L_law_397 fu E xs N a (n32 (cn z.1.2.2)) (aInf z.1).1.1 (b2 (b && aAll (fun j => (zI z j).isSome) i k)) S := by
  have h100 := iz.1.2.2.2.2.2.1
  obtain ⟨-, -, -, fx⟩ := inf_fix hA iz.1
  have n10 : ¬ (1 : Int32) = 0 := by decide
  intro k
  induction k with
  | zero =>
    intro i F b hk hF
    obtain ⟨F, rfl⟩ : ∃ z, F = z + 1 := ⟨F - 1, by omega⟩
    show bd_L_law_325 fu E xs N a _ _ _ (b2 b) (n32 i) S = _
    unfold bd_L_law_325
    rw [zi_le (by omega) (by omega), if_pos (by omega)]
    show _ = jb_L_law_397 fu E xs N a (n32 (cn z.1.2.2)) (aInf z.1).1.1 (b2 (b && true)) S
    rw [Bool.and_true]
  | succ k ih =>
    intro i F b hk hF
    obtain ⟨F, rfl⟩ : ∃ z, F = z + 1 := ⟨F - 1, by omega⟩
    have hi : i < cn z.1.2.2 := by omega
    have next := fun b => ih (i + 1) F b (by omega) (by omega)
    have eh := m_has (fu := fu) iz vx hi
    have go : aAll (fun j => (zI z j).isSome) i (k + 1) = ((zI z i).isSome && aAll (fun j => (zI z j).isSome) (i + 1) k) := rfl
    show bd_L_law_325 fu E xs N a (lp_L_law_325 fu E xs N a F) _ _ (b2 b) (n32 i) S = _
    unfold bd_L_law_325
    rw [zi_le (by omega) (by omega), if_neg (by omega), show n32 i + 1 = n32 (i + 1) from z_add i 1, go]
    have nxF : lp_L_law_325 fu E xs N a F (n32 (cn z.1.2.2)) (aInf z.1).1.1 0 (n32 (i + 1)) S = jb_L_law_397 fu E xs N a (n32 (cn z.1.2.2)) (aInf z.1).1.1 (b2 false) S := next false
    have nxT : lp_L_law_325 fu E xs N a F (n32 (cn z.1.2.2)) (aInf z.1).1.1 1 (n32 (i + 1)) S = jb_L_law_397 fu E xs N a (n32 (cn z.1.2.2)) (aInf z.1).1.1 (b2 (aAll (fun j => (zI z j).isSome) (i + 1) k)) S := by
      have := next true
      rw [Bool.true_and] at this
      exact this
    by_cases k0 : (aInf z.1).1.1 = 0
    · rw [if_pos k0, if_pos k0, hc eh]
      cases hz : zI z i with
      | none =>
        rw [hz] at eh
        rw [if_pos (show b2 (none : Option Fr).isSome = 0 from rfl), show (none : Option Fr).isSome = false from rfl, Bool.false_and, Bool.and_false]
        cases b with
        | false => rw [if_pos (show b2 false = 0 from rfl)]; exact nxF
        | true => rw [if_neg (show ¬ b2 true = 0 by decide), hc eh, if_pos (show b2 (none : Option Fr).isSome = 0 from rfl)]; exact nxF
      | some y =>
        rw [hz] at eh
        have hy := ((fx k0).1 i y (by rw [← hI]; exact hz)).2.1
        have ew := l_wh (fu := fu) iz vx hA.2.1.2.2.2 hA.2.1.2.2.1 hi hz hy
        rw [if_neg (show ¬ b2 (some y).isSome = 0 from (show ¬ b2 true = 0 by decide)), ew, Option.bind_some]
        dsimp only
        rw [if_neg n10, show (some y).isSome = true from rfl, Bool.true_and]
        cases b with
        | false => rw [if_pos (show b2 false = 0 from rfl), Bool.false_and]; exact nxF
        | true => rw [if_neg (show ¬ b2 true = 0 by decide), hc eh, if_neg (show ¬ b2 (some y).isSome = 0 from (show ¬ b2 true = 0 by decide)), Bool.true_and]; exact nxT
    · have hz : zI z i = none := by
        rw [hI]
        unfold lft
        rw [if_neg k0]
      rw [hz] at eh
      rw [if_neg k0, hc eh, if_pos (show b2 (none : Option Fr).isSome = 0 from rfl), if_neg k0, hz, show (none : Option Fr).isSome = false from rfl, Bool.false_and, Bool.and_false]
      cases b with
      | false => rw [if_pos (show b2 false = 0 from rfl)]; exact nxF
      | true => rw [if_neg (show ¬ b2 true = 0 by decide), hc eh, if_pos (show b2 (none : Option Fr).isSome = 0 from rfl)]; exact nxF
theorem t_219 (L : LX E a) (hfu : 1000000 ≤ fu) (iz : IZ z) (vx : VX E S a z) (hA : LW z.1) : ∃ S', jb_L_law_219 fu E xs N a (n32 (cn z.1.2.2)) S = some (1, S') := by
  have hf : 200 ≤ fu := Nat.le_trans (by decide) hfu
  have hs := hA.2.1.1
  obtain ⟨⟨S1, e1, v1⟩, iz1⟩ := m_in (fu := fu) L hfu iz vx hs
  obtain ⟨kk, p0, p1, -⟩ := inf_fix hA iz.1
  have t289 : ∃ S', jb_L_law_289 fu E xs N a (n32 (cn z.1.2.2)) (aInf z.1).1.1 (aInf z.1).2.2 (dgZ (zIn z)) S1 = some (1, S') := by
    obtain ⟨⟨S2, e2, v2⟩, iz2⟩ := m_in (fu := fu) L hfu iz1 v1 (show cst z.1.2.2 = true from hs)
    have e2 : sp_X11_infer fu E S1 a = some (.inr (aInf z.1).1.1, S2) := e2
    have v2 : VX E S2 a (zIn z) := v2
    unfold jb_L_law_289
    rw [hc e2, if_pos rfl, m_pos v2, Option.bind_some]
    dsimp only
    rw [if_pos (show zE (zIn z) = (aInf z.1).2.2 from rfl), c_dig hf iz1 v2, Option.bind_some]
    dsimp only
    rw [if_pos (lg_sm _)]
    obtain ⟨S3, e3⟩ := t_397 (xs := xs) (N := N) (z := zIn z) L hfu iz1 v2 hA rfl
    refine ⟨S3, ?_⟩
    refine (t_325 (xs := xs) (N := N) (fu := fu) (z := zIn z) iz1 v2 hA rfl (cn z.1.2.2) 0 14 true (by show 0 + cn z.1.2.2 = cn z.1.2.2; omega) (by have := hA.2.2.1.2.1; omega)).trans ?_
    rw [Bool.true_and]
    exact e3
  have t258 : ∀ y : Int32, jb_L_law_258 fu E xs N a (n32 (cn z.1.2.2)) (aInf z.1).1.1 (aInf z.1).2.2 (dgZ (zIn z)) y y S1 = jb_L_law_289 fu E xs N a (n32 (cn z.1.2.2)) (aInf z.1).1.1 (aInf z.1).2.2 (dgZ (zIn z)) S1 := fun y => by
    have n1 : ¬ (aInf z.1).1.1 = 1 := by rcases kk with h | h | h | h | h | h | h <;> rw [h] <;> decide
    have n2 : ¬ (aInf z.1).1.1 = 2 := by rcases kk with h | h | h | h | h | h | h <;> rw [h] <;> decide
    have n7 : ¬ (aInf z.1).1.1 = 7 := by rcases kk with h | h | h | h | h | h | h <;> rw [h] <;> decide
    have l10 : (aInf z.1).1.1 ≤ 10 := by rcases kk with h | h | h | h | h | h | h <;> rw [h] <;> decide
    unfold jb_L_law_258
    rw [if_pos rfl, if_neg n1, if_neg n2, if_neg n7, if_pos l10]
  unfold jb_L_law_219
  rw [hc e1, m_pos v1, Option.bind_some]
  dsimp only
  rw [c_dig hf iz1 v1, Option.bind_some]
  dsimp only
  rw [show zE (zIn z) = (aInf z.1).2.2 from rfl]
  by_cases k0 : (aInf z.1).1.1 = 0
  · rw [if_pos k0, if_pos (p0 k0), t258]; exact t289
  · rw [if_neg k0, if_neg (p1 k0), t258]; exact t289
/-- the code as far as it is emitted -/
def LWp (n : Nat) (A : Enw) : Prop := (A.1 = d0 ∧ A.2.1 = b0) ∧ (cst A.2.2 = true ∧ cme A.2.2 = 0 ∧ cmost A.2.2 = 4 ∧ cloc A.2.2 = 3) ∧ (∀ i, i < cn A.2.2 → LwO n (cop A.2.2 i) (cx A.2.2 i)) ∧ chn A.2.2 = 0
theorem lwp_em {n op : Nat} {x : Int32} (h : LWp n z.1) (ho : LwO n op x) : LWp n (zEm z op x).1 := by
  refine ⟨h.1, h.2.1, fun i hi => ?_, h.2.2.2⟩
  have hi : i < cn z.1.2.2 + 1 := hi
  show LwO n (if i = cn z.1.2.2 then op else cop z.1.2.2 i) (up1 (cx z.1.2.2) (cn z.1.2.2) x i)
  by_cases c : i = cn z.1.2.2
  · rw [if_pos c, c, up1_s]; exact ho
  · rw [if_neg c, up1_n _ _ c]; exact h.2.2.1 i (by omega)
theorem lw_em {n : Nat} (h : LWp n z.1) (hn : cn z.1.2.2 + 1 = n) (h3 : 3 ≤ n) (h12 : n ≤ 12) : LW (zEm z 30 0).1 := by
  have p := lwp_em (op := 30) (x := 0) h (Or.inl (by decide))
  have e : cn (zEm z 30 0).1.2.2 = n := hn
  refine ⟨p.1, p.2.1, ⟨by rw [e]; exact h3, by rw [e]; exact h12, fun i hi => by rw [e]; exact p.2.2.1 i hi, ?_⟩, by rw [p.2.2.2]; decide, fun q hq => absurd hq (by rw [p.2.2.2]; exact Nat.not_lt_zero q)⟩
  show (if cn z.1.2.2 + 1 - 1 = cn z.1.2.2 then 30 else cop z.1.2.2 (cn z.1.2.2 + 1 - 1)) = 30
  rw [if_pos (by omega)]
theorem lw_ha {A : Zs} {f t g : Nat} (h : LW A.1) (h0 : chn A.1.2.2 = 0) (hf : f < t) (ht : t ≤ cn A.1.2.2) (hg : g < cn A.1.2.2) : LW (zHa A (n32 f) (n32 t) (n32 g) 3).1 := by
  have h12 := h.2.2.1.2.1
  refine ⟨h.1, h.2.1, h.2.2.1, by show chn A.1.2.2 + 1 ≤ 1; omega, fun q hq => ?_⟩
  have hq : q < chn A.1.2.2 + 1 := hq
  have q0 : q = 0 := by omega
  subst q0
  have es : chs (cH A.1.2.2 (n32 f) (n32 t) (n32 g) 3) 0 = n32 f := by
    show up1 (chs A.1.2.2) (chn A.1.2.2) (n32 f) 0 = _
    rw [h0, up1_s]
  have ee : che (cH A.1.2.2 (n32 f) (n32 t) (n32 g) 3) 0 = n32 t := by
    show up1 (che A.1.2.2) (chn A.1.2.2) (n32 t) 0 = _
    rw [h0, up1_s]
  have et : cht (cH A.1.2.2 (n32 f) (n32 t) (n32 g) 3) 0 = n32 g := by
    show up1 (cht A.1.2.2) (chn A.1.2.2) (n32 g) 0 = _
    rw [h0, up1_s]
  refine ⟨?_, ?_⟩
  · show hBase (cH A.1.2.2 (n32 f) (n32 t) (n32 g) 3) 0 = true
    unfold hBase
    rw [es, ee, et, n32_ge (by omega), zd_le (by omega) (by omega), decide_eq_false (show ¬ t ≤ f by omega), show cn (cH A.1.2.2 (n32 f) (n32 t) (n32 g) 3) = cn A.1.2.2 from rfl, zd_le (by omega) (by omega), decide_eq_true ht]
    unfold idx
    rw [z_nat (by omega), n32_ge (by omega), show cn (cH A.1.2.2 (n32 f) (n32 t) (n32 g) 3) = cn A.1.2.2 from rfl, decide_eq_true hg]
    rfl
  · show (if 0 = chn A.1.2.2 then 3 else chc A.1.2.2 0) = 3
    rw [if_pos h0.symm]
theorem t_140 (L : LX E a) (hfu : 1000000 ≤ fu) (hN : N ≤ 260) (iz : IZ z) (vx : VX E S a z) {n : Nat} (h3 : 3 ≤ n) (h12 : n ≤ 12) (hp : LWp n z.1) (hn : cn z.1.2.2 + 1 = n) : ∃ S', jb_L_law_140 fu E xs N a (n32 n) S = some (1, S') := by
  have hf : 200 ≤ fu := Nat.le_trans (by decide) hfu
  obtain ⟨S1, e1, v1⟩ := m_em (fu := fu) (op := 30) (x := 0) L hf iz vx hp.2.1.1 (by decide) (show cn z.1.2.2 < 100 by omega)
  have iz1 : IZ (zEm z 30 0) := iz_Em iz (by decide) (by omega)
  have lw := lw_em hp hn h3 h12
  have cn1 : cn (zEm z 30 0).1.2.2 = n := hn
  have ch1 : chn (zEm z 30 0).1.2.2 = 0 := hp.2.2.2
  unfold jb_L_law_140
  rw [show sp_X11_emit fu E S a 30 0 = sp_X11_emit fu E S a (n32 30) 0 from rfl, hc e1, if_pos (show n32 (cn z.1.2.2) = n32 n - 1 by rw [← hn]; exact (n32_p _).symm)]
  obtain ⟨c20, w20⟩ := l_cel (xs := xs) hN (q := 20) (by decide)
  obtain ⟨c21, w21⟩ := l_cel (xs := xs) hN (q := 21) (by decide)
  obtain ⟨c22, w22⟩ := l_cel (xs := xs) hN (q := 22) (by decide)
  obtain ⟨c23, w23⟩ := l_cel (xs := xs) hN (q := 23) (by decide)
  obtain ⟨f, hf1, ef⟩ := l_bel (fu := fu) (E := E) (S := S1) c20 (show 0 < n by omega) (by omega)
  obtain ⟨t, ht1, et⟩ := l_bel (fu := fu) (E := E) (S := S1) c21 (show 0 < n - f by omega) (by omega)
  obtain ⟨g, hg1, eg⟩ := l_bel (fu := fu) (E := E) (S := S1) c23 (show 0 < n by omega) (by omega)
  rw [show sp_L_cell xs N 20 = some c20 from w20, Option.bind_some, ef, Option.bind_some]
  dsimp only
  rw [show sp_L_cell xs N 21 = some c21 from w21, Option.bind_some, z_sub (by omega), et, Option.bind_some]
  unfold bnd
  dsimp only
  rw [show n32 f + 1 = n32 (f + 1) from z_add f 1, z_add, show sp_L_cell xs N 22 = some c22 from w22, Option.bind_some]
  by_cases c : (c22 &&& 1) = 1
  · rw [if_pos c, show sp_L_cell xs N 23 = some c23 from w23, Option.bind_some, eg, Option.bind_some]
    dsimp only
    have hk : cls (zEm z 30 0).1.1 3 = true := by
      rw [lw.1.1]
      decide
    obtain ⟨S2, e2, v2⟩ := m_ha (fu := fu) (s := n32 f) (e := n32 (f + 1 + t)) (t := n32 g) (k := 3) L hf iz1 v1 lw.2.1.1 hk (by decide) (by rw [ch1]; decide)
    have iz2 : IZ (zHa (zEm z 30 0) (n32 f) (n32 (f + 1 + t)) (n32 g) 3) := iz_Ha iz1 hk (by rw [ch1]; decide)
    have lw2 := lw_ha (A := zEm z 30 0) (f := f) (t := f + 1 + t) (g := g) lw ch1 (by omega) (by rw [cn1]; omega) (by rw [cn1]; exact hg1)
    rw [show sp_X11_addHandler fu E S1 a (n32 f) (n32 (f + 1 + t)) (n32 g) 3 = sp_X11_addHandler fu E S1 a (n32 f) (n32 (f + 1 + t)) (n32 g) (n32 3) from rfl, hc e2, if_pos (show n32 (chn (zEm z 30 0).1.2.2) = 0 by rw [ch1]; rfl)]
    have r := t_219 (xs := xs) (N := N) L hfu iz2 v2 lw2
    rw [show cn (zHa (zEm z 30 0) (n32 f) (n32 (f + 1 + t)) (n32 g) 3).1.2.2 = n from hn] at r
    exact r
  · rw [if_neg c]
    have r := t_219 (xs := xs) (N := N) L hfu iz1 v1 lw
    rw [cn1] at r
    exact r
theorem t_109 (L : LX E a) (hfu : 1000000 ≤ fu) (hN : N ≤ 260) {n : Nat} (h3 : 3 ≤ n) (h12 : n ≤ 12) : ∀ (k F : Nat) (S : St) (z : Zs), IZ z → VX E S a z → LWp n z.1 → cn z.1.2.2 + k + 1 = n → k + 1 ≤ F → ∃ S', lp_L_law_109 fu E xs N a F (n32 n) (n32 (cn z.1.2.2)) S = some (1, S') := by
  have hf : 200 ≤ fu := Nat.le_trans (by decide) hfu
  intro k
  induction k with
  | zero =>
    intro F S z iz vx hp hk hF
    obtain ⟨F, rfl⟩ : ∃ z, F = z + 1 := ⟨F - 1, by omega⟩
    show ∃ S', bd_L_law_109 fu E xs N a _ (n32 n) (n32 (cn z.1.2.2)) S = _
    unfold bd_L_law_109
    rw [show n32 n - 1 = n32 (n - 1) from z_sub (b := 1) (by omega), zi_le (by omega) (by omega), if_pos (by omega)]
    exact t_140 L hfu hN iz vx h3 h12 hp (by omega)
  | succ k ih =>
    intro F S z iz vx hp hk hF
    obtain ⟨F, rfl⟩ : ∃ z, F = z + 1 := ⟨F - 1, by omega⟩
    show ∃ S', bd_L_law_109 fu E xs N a (lp_L_law_109 fu E xs N a F) (n32 n) (n32 (cn z.1.2.2)) S = _
    unfold bd_L_law_109
    obtain ⟨v, ev⟩ := l_cel (xs := xs) hN (q := cn z.1.2.2 + 1) (by omega)
    obtain ⟨op, x, hop, ho, S1, e1, v1⟩ := l_em (fu := fu) L hf iz vx hp.2.1.1 (show cn z.1.2.2 < 100 by omega) (show 0 < n by omega) h12 v
    rw [show n32 n - 1 = n32 (n - 1) from z_sub (b := 1) (by omega), zi_le (by omega) (by omega), if_neg (by omega), show n32 (cn z.1.2.2) + 1 = n32 (cn z.1.2.2 + 1) from z_add _ 1, ev, Option.bind_some, e1, Option.bind_some]
    dsimp only
    rw [if_pos rfl]
    exact ih F S1 (zEm z op x) (iz_Em iz hop (by omega)) v1 (lwp_em hp ho) (by show cn z.1.2.2 + 1 + k + 1 = n; omega) (by omega)
/-- the law from pc 8 on answers 1 -/
theorem t_8 (L : LX E a) (hfu : 1000000 ≤ fu) (hN : N ≤ 260) (vx : VX E S a z00) : ∃ S', jb_L_law_8 fu E xs N a S = some (1, S') := by
  have hf : 200 ≤ fu := Nat.le_trans (by decide) hfu
  have iz0 := iz_00
  obtain ⟨S1, e1, v1⟩ := m_cl (fu := fu) (k := 2) L iz0 vx (by decide) (by decide) (by decide)
  have iz1 : IZ (zCl z00 2 false) := iz_Cl iz0 (by decide) (fun h => by cases h) (by decide)
  obtain ⟨S2, e2, v2⟩ := m_cl (fu := fu) (k := 3) L iz1 v1 (by decide) (by decide) (by decide)
  have iz2 : IZ (zCl (zCl z00 2 false) 3 false) := iz_Cl iz1 (by decide) (fun h => by cases h) (by decide)
  obtain ⟨S3, e3, v3⟩ := m_pm (fu := fu) (t := 0) L iz2 v2 (by decide) (by decide) (by decide)
  have iz3 := iz_Pm (t := 0) iz2 (by decide) (by decide)
  obtain ⟨S4, e4, v4⟩ := m_pm (fu := fu) (t := 24) L iz3 v3 (by decide) (by decide) (by decide)
  have iz4 := iz_Pm (t := 24) iz3 (by decide) (by decide)
  obtain ⟨S5, e5, v5⟩ := m_mt (fu := fu) (k := 2) (kd := 1) (r := -1) L iz4 v4 (by decide) (by decide)
  have iz5 := iz_Mt (k := 2) (kd := 1) (r := -1) iz4 (by decide) (by decide) (Or.inl rfl) (by decide)
  obtain ⟨S6, e6, v6⟩ := m_mt (fu := fu) (k := 3) (kd := 2) (r := -1) L iz5 v5 (by decide) (by decide)
  have iz6 := iz_Mt (k := 3) (kd := 2) (r := -1) iz5 (by decide) (by decide) (Or.inl rfl) (by decide)
  obtain ⟨S7, e7, v7⟩ := m_mt (fu := fu) (k := 4) (kd := 2) (r := -1) L iz6 v6 (by decide) (by decide)
  have iz7 := iz_Mt (k := 4) (kd := 2) (r := -1) iz6 (by decide) (by decide) (Or.inl rfl) (by decide)
  obtain ⟨S8, e8, v8⟩ := m_bg (fu := fu) (q := 0) (s := 4) (l := 3) L hf iz7 v7 (by decide) (by decide) (by decide) (by decide)
  have iz8 : IZ z8 := iz_Bg (q := 0) (s := 4) (l := 3) iz7 (by decide) (by decide) (by decide)
  unfold jb_L_law_8
  rw [show sp_X11_declareClass fu E S a 2 0 = some (.inr 3, S1) from e1, hc rfl, if_pos rfl]
  rw [show sp_X11_declareClass fu E S1 a 3 0 = some (.inr 4, S2) from e2, hc rfl, if_pos rfl]
  rw [show sp_X11_parameter fu E S2 a 0 = some (.inr 1, S3) from e3, hc rfl, if_pos rfl]
  rw [show sp_X11_parameter fu E S3 a 24 = some (.inr 2, S4) from e4, hc rfl, if_pos rfl]
  rw [show sp_X11_declareMethod fu E S4 a 2 1 (-1) = some (.inr 0, S5) from e5, hc rfl, if_pos rfl]
  rw [show sp_X11_declareMethod fu E S5 a 3 2 (-1) = some (.inr 1, S6) from e6, hc rfl, if_pos rfl]
  rw [show sp_X11_declareMethod fu E S6 a 4 2 (-1) = some (.inr 2, S7) from e7, hc rfl, if_pos rfl]
  rw [show sp_X11_begin fu E S7 a 0 4 3 = some (.inr 2, S8) from e8, hc rfl, if_pos rfl]
  obtain ⟨c0, w0⟩ := l_cel (xs := xs) hN (q := 0) (by decide)
  obtain ⟨t, ht, et⟩ := l_bel (fu := fu) (E := E) (S := S8) c0 (n := 10) (by decide) (by decide)
  rw [show sp_L_cell xs N 0 = some c0 from w0, Option.bind_some, show sp_L_below fu E S8 c0 10 = some (n32 t, S8) from et, Option.bind_some]
  unfold bnd
  dsimp only
  rw [show (3 : Int32) + n32 t = n32 (3 + t) from z_add 3 t]
  exact t_109 (xs := xs) (N := N) L hfu hN (n := 3 + t) (by omega) (by omega) (2 + t) 14 S8 z8 iz8 v8 ⟨⟨rfl, rfl⟩, ⟨rfl, rfl, rfl, rfl⟩, fun i hi => absurd hi (Nat.not_lt_zero i), rfl⟩ (by show 0 + (2 + t) + 1 = 3 + t; omega) (by omega)
end LAW
