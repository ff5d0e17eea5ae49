/-! the reference's objects; its execute -/
section RO
variable {E : Ev} {m fu i k : Nat} {A : Enw} {S : St} {y : Ms}
theorem n6_pars {d : Dcl} {f : Nat → Nat} : ∀ (k : Nat) {y : Ms}, y.2 ≠ 6 → (aPars d f k y).2 ≠ 6
  | 0, _, h => h
  | k + 1, _, h => n6_pars k (n6_popT h)
theorem sv_rep {d : Dcl} {old new : Int32} {l : Nat → Int32} {n : Nat} (h : ∀ j, j < n → svA d (l j)) (hn : svA d new) : ∀ j, j < n → svA d (rep old new l j) := by
  intro j hj
  unfold rep
  split
  · exact hn
  · exact h j hj
theorem rx_argL (hfu : 30 ≤ fu) (L : LR E m) (hA : EI A) {q : Nat} (hq : q < mcnt A.2.1) : ∀ (k F : Nat) (S : St) (y : Ms), k ≤ mpcn A.2.1 q → k + 1 ≤ F → y.2 ≠ 6 → RM E S m A i 0 y → Rv E m A i 0 S (lp_X12_popArguments_9 fu E m F (n32 q) (pm k) S) (aPars A.1 (mpty A.2.1 q) k y) := by
  have h30 := hA.2.1.2.1
  have mo := hA.2.1.2.2.2 q hq
  intro k
  induction k with
  | zero =>
    intro F S y _ hF h6 v
    obtain ⟨F, rfl⟩ : ∃ z, F = z + 1 := ⟨F - 1, by omega⟩
    show Rv E m A i 0 S (bd_X12_popArguments_9 fu E m _ (n32 q) (-1) S) y
    unfold bd_X12_popArguments_9
    rw [if_pos (by decide)]
    exact rv_some v
  | succ k ih =>
    intro F S y hk hF h6 v
    obtain ⟨F, rfl⟩ : ∃ z, F = z + 1 := ⟨F - 1, by omega⟩
    show Rv E m A i 0 S (bd_X12_popArguments_9 fu E m (lp_X12_popArguments_9 fu E m F) (n32 q) (n32 (k + 1 - 1)) S) (aPars A.1 (mpty A.2.1 q) k (aPopT A.1 (n32 (mpty A.2.1 q k)) y))
    unfold bd_X12_popArguments_9
    rw [Nat.add_sub_cancel, zi_nlt (by omega), show (6 : Int32) * n32 q + n32 k = n32 (6 * q + k) from by rw [show (6 : Int32) * n32 q = n32 (6 * q) from z_mul 6 q, z_add], if_pos (by rw [z_inb (by omega)]; omega), z_nat (by omega), (v.1.2.1.2.2.2 q hq).2.2.2.2 k (by omega)]
    refine rv_bind (rx_popT hfu L hA.1 v h6 (sv_n (mo.2.2.2.2.2.2 k (by omega)))) (fun S1 v1 => ?_)
    rw [pm_add]
    exact ih F S1 _ (by omega) (by omega) (n6_popT h6) v1
theorem rx_args (hfu : 30 ≤ fu) (L : LR E m) (hA : EI A) {q : Nat} (hq : q < mcnt A.2.1) (h6 : y.2 ≠ 6) (v : RM E S m A i 0 y) : Rv E m A i 0 S (sp_X12_popArguments fu E S m (n32 q)) (aPars A.1 (mpty A.2.1 q) (mpcn A.2.1 q) y) := by
  have h30 := hA.2.1.2.1
  have mo := hA.2.1.2.2.2 q hq
  unfold sp_X12_popArguments bnd
  rw [if_pos (by rw [z_inb (by omega)]; omega), z_nat (by omega), (v.1.2.1.2.2.2 q hq).2.2.2.1, pm_sub]
  exact rx_argL hfu L hA hq _ fu S y (Nat.le_refl _) (by omega) h6 v
theorem r_toC (hA : EI A) (hs : cst A.2.2 = true) (v : VRe E S m A) {o : Int32} (ho : svA A.1 o) {q : Nat} (hq : q < mcnt A.2.1) : sp_X12_isToConstruct fu E S m o (n32 q) = some (b2 (if o = -4 then mown A.2.1 q == mown A.2.1 (cme A.2.2) || (decide (3 ≤ mown A.2.1 (cme A.2.2)) && mown A.2.1 q == A.1.2.1 (mown A.2.1 (cme A.2.2))) else decide (o ≤ -10) && isCre A.2.2 (-10 - o) (mown A.2.1 q)), S) := by
  have h20 := hA.1.2.1
  have h30 := hA.2.1.2.1
  have h100 := hA.2.2.2.2.2.1
  have hme := hA.2.2.1 hs
  have mo := hA.2.1.2.2.2 _ hme
  have mq := hA.2.1.2.2.2 q hq
  have eo := v.2.1.2.2.2 _ hme
  have eq := v.2.1.2.2.2 q hq
  unfold sp_X12_isToConstruct bnd
  rw [v.2.2.2.1, if_pos (by rw [z_inb (by omega)]; omega), z_nat (show cme A.2.2 < 2 ^ 31 by omega), eo.1]
  dsimp only
  by_cases h4 : o = -4
  · rw [if_pos h4, if_pos h4, if_pos (by rw [z_inb (by omega)]; omega), z_nat (show q < 2 ^ 31 by omega), eq.1, zi_eq (by omega) (by omega), show (2 : Int32) = n32 2 from rfl, zi_eq (by omega) (by decide)]
    by_cases h5 : mown A.2.1 q = mown A.2.1 (cme A.2.2)
    · rw [if_pos h5, show (mown A.2.1 q == mown A.2.1 (cme A.2.2)) = true from by rw [beq_iff_eq]; exact h5]; rfl
    · rw [if_neg h5, show (mown A.2.1 q == mown A.2.1 (cme A.2.2)) = false from beq_eq_false_iff_ne.mpr h5, Bool.false_or]
      by_cases h3 : mown A.2.1 (cme A.2.2) = 2
      · rw [if_pos h3, decide_eq_false (by omega)]; rfl
      · rw [if_neg h3, if_pos (by rw [z_inb (by omega)]; omega), if_pos (by rw [z_inb (by omega)]; omega), z_nat (show mown A.2.1 (cme A.2.2) < 2 ^ 31 by omega)]
        have h3' : 3 ≤ mown A.2.1 (cme A.2.2) := by omega
        have hs3 := hA.1.2.2.1 _ h3' mo.2.1
        rw [v.1.2.1 _ h3' mo.2.1, zi_eq (by omega) (by omega), decide_eq_true h3', Bool.true_and]
        by_cases h6 : mown A.2.1 q = A.1.2.1 (mown A.2.1 (cme A.2.2))
        · rw [if_pos h6, show (mown A.2.1 q == A.1.2.1 (mown A.2.1 (cme A.2.2))) = true from by rw [beq_iff_eq]; exact h6]; rfl
        · rw [if_neg h6, show (mown A.2.1 q == A.1.2.1 (mown A.2.1 (cme A.2.2))) = false from beq_eq_false_iff_ne.mpr h6]; rfl
  · rw [if_neg h4, if_neg h4]
    by_cases h5 : (-10 : Int32) < o
    · rw [if_pos h5, show decide (o ≤ -10) = false from decide_eq_false (by rw [z_l32]; rw [z_i32] at h5; omega), Bool.false_and]; rfl
    · rw [if_neg h5, show decide (o ≤ -10) = true from decide_eq_true (by rw [z_l32]; rw [z_i32] at h5; omega), Bool.true_and]
      have h10 : (-10 : Int32).toInt = -10 := by decide
      have hor : -110 < o.toInt ∧ o.toInt ≤ -10 := by
        rw [z_i32, h10] at h5
        rcases ho with ⟨n, e, hn⟩ | h | h
        · have := isT_lt hA.1 hn
          rw [e, z_int (by omega)] at h5
          omega
        · omega
        · exact h
      have en : (-10 - o : Int32) = n32 (-10 - o.toInt).toNat := by
        rw [z_e32, z_int (by omega), Int32.toInt_sub, h10]
        show (-10 - o.toInt).bmod (2 ^ 32) = _
        rw [Int.bmod_eq_of_le (by omega) (by omega)]
        omega
      rw [en]
      have hn100 : (-10 - o.toInt).toNat < 100 := by omega
      generalize (-10 - o.toInt).toNat = n at hn100
      unfold isCre
      rw [v.2.2.2.2.2.2.1, zi_le (by omega) (by omega), n32_ge (by omega), zd_lt (by omega) (by omega), z_nat (by omega), Bool.true_and]
      by_cases h6 : cn A.2.2 ≤ n
      · rw [if_pos h6, decide_eq_false (by omega)]; rfl
      · have h7 : n < cn A.2.2 := by omega
        have hop := hA.2.2.2.2.2.2.2.1 n h7
        rw [if_neg h6, if_pos (by rw [z_inb (by omega)]; omega), (v.2.2.2.2.2.2.2.2.1 n h7).1, decide_eq_true h7, Bool.true_and, show (34 : Int32) = n32 34 from rfl, zi_eq (by omega) (by decide)]
        by_cases h8 : cop A.2.2 n = 34
        · rw [if_pos h8, if_pos (by rw [z_inb (by omega)]; omega), if_pos (by rw [z_inb (by omega)]; omega), (v.2.2.2.2.2.2.2.2.1 n h7).2, z_nat (show q < 2 ^ 31 by omega), eq.1, beq_ite, show (cop A.2.2 n == 34) = true from by rw [beq_iff_eq]; exact h8, Bool.true_and]
          cases (cx A.2.2 n == n32 (mown A.2.1 q)) <;> rfl
        · rw [if_neg h8, show (cop A.2.2 n == 34) = false from beq_eq_false_iff_ne.mpr h8]; rfl
theorem rx_con (hfu : 30 ≤ fu) (L : LR E m) (hA : EI A) (hs : cst A.2.2 = true) {q : Nat} (hq : q < mcnt A.2.1) (h6 : y.2 ≠ 6) (v : RM E S m A i 0 y) : Rv E m A i 0 S (sp_X12_construct fu E S m (n32 q)) (aInit A (mown A.2.1 q) (aPars A.1 (mpty A.2.1 q) (mpcn A.2.1 q) y)) := by
  have h20 := hA.1.2.1
  have h30 := hA.2.1.2.1
  have hme := hA.2.2.1 hs
  have mo := hA.2.1.2.2.2 _ hme
  have mq := hA.2.1.2.2.2 q hq
  unfold sp_X12_construct
  refine rv_bind (rx_args hfu L hA hq h6 v) (fun S0 v0 => ?_)
  have h60 := n6_pars (d := A.1) (f := mpty A.2.1 q) (mpcn A.2.1 q) h6
  generalize aPars A.1 (mpty A.2.1 q) (mpcn A.2.1 q) y = z at v0 h60 ⊢
  unfold jb_X12_construct_27
  obtain ⟨S1, r', e, v1, a1, hr, hsr⟩ := rx_pop hfu L v0 h60 (fun o => if o = -4 then mown A.2.1 q == mown A.2.1 (cme A.2.2) || (decide (3 ≤ mown A.2.1 (cme A.2.2)) && mown A.2.1 q == A.1.2.1 (mown A.2.1 (cme A.2.2))) else decide (o ≤ -10) && isCre A.2.2 (-10 - o) (mown A.2.1 q)) (fun u3 => (sp_X12_isWell fu E u3.2 m).bind fun u4 => if u4.1 = 0 then some u4.2 else (if u3.1 = (-4) then (bnd (sG u4.2 (E.2 m 39) ((25 : Int32).toNatClampNeg) 0) fun S13 => jb_X12_construct_55 fu E m (n32 q) u3.1 S13) else jb_X12_construct_55 fu E m (n32 q) u3.1 u4.2)) (fun u2 => if u2.1 = 0 then ((sp_X12_drop fu E u2.2 m 1).bind fun u3 => (sp_X12_isWell fu E u3.2 m).bind fun u4 => if u4.1 = 0 then some u4.2 else (if u3.1 = (-4) then (bnd (sG u4.2 (E.2 m 39) ((25 : Int32).toNatClampNeg) 0) fun S13 => jb_X12_construct_55 fu E m (n32 q) u3.1 S13) else jb_X12_construct_55 fu E m (n32 q) u3.1 u4.2)) else ((sp_X12_top fu E u2.2 m 0).bind fun u16 => (sp_X12_isToConstruct fu E u16.2 m u16.1 (n32 q)).bind fun u17 => (sp_X12_require fu E u17.2 m u17.1).bind fun u18 => (sp_X12_drop fu E u18 m 1).bind fun u3 => (sp_X12_isWell fu E u3.2 m).bind fun u4 => if u4.1 = 0 then some u4.2 else (if u3.1 = (-4) then (bnd (sG u4.2 (E.2 m 39) ((25 : Int32).toNatClampNeg) 0) fun S13 => jb_X12_construct_55 fu E m (n32 q) u3.1 S13) else jb_X12_construct_55 fu E m (n32 q) u3.1 u4.2))) (fun _ => rfl) (fun h hh => by
    obtain ⟨vn, w⟩ := v0.2.2.2.1 h
    dsimp only
    rw [if_neg (by decide), rx_top0 vn w.2.2 hh, Option.bind_some]
    dsimp only
    rw [r_toC hA hs v0.1 (w.2.1 _ (by omega)) hq, Option.bind_some])
  refine Exists.elim ?_ (fun S2 (h2 : _ ∧ RM E S2 m A i 0 _ ∧ AgL E m [35, 36] [39] S1 S2) => ⟨S2, e.trans h2.1, h2.2.1, agl_trans a1 h2.2.2⟩)
  unfold aInit
  dsimp only
  have eC : (aPopC (fun o => if o = -4 then mown A.2.1 q == mown A.2.1 (cme A.2.2) || (decide (3 ≤ mown A.2.1 (cme A.2.2)) && mown A.2.1 q == A.1.2.1 (mown A.2.1 (cme A.2.2))) else decide (o ≤ -10) && isCre A.2.2 (-10 - o) (mown A.2.1 q)) z) = ((aPop z).1, aReq (if (aPop z).1 = -4 then mown A.2.1 q == mown A.2.1 (cme A.2.2) || (decide (3 ≤ mown A.2.1 (cme A.2.2)) && mown A.2.1 q == A.1.2.1 (mown A.2.1 (cme A.2.2))) else decide ((aPop z).1 ≤ -10) && isCre A.2.2 (-10 - (aPop z).1) (mown A.2.1 q)) 4 (aPop z).2) := rfl
  rw [eC] at v1 hr
  dsimp only at v1 hr
  have n6w := n6_req (c := if (aPop z).1 = -4 then mown A.2.1 q == mown A.2.1 (cme A.2.2) || (decide (3 ≤ mown A.2.1 (cme A.2.2)) && mown A.2.1 q == A.1.2.1 (mown A.2.1 (cme A.2.2))) else decide ((aPop z).1 ≤ -10) && isCre A.2.2 (-10 - (aPop z).1) (mown A.2.1 q)) (q := 4) (n6_pop h60) (by decide)
  generalize aReq (if (aPop z).1 = -4 then mown A.2.1 q == mown A.2.1 (cme A.2.2) || (decide (3 ≤ mown A.2.1 (cme A.2.2)) && mown A.2.1 q == A.1.2.1 (mown A.2.1 (cme A.2.2))) else decide ((aPop z).1 ≤ -10) && isCre A.2.2 (-10 - (aPop z).1) (mown A.2.1 q)) 4 (aPop z).2 = w at v1 hr n6w ⊢
  generalize (aPop z).1 = o at hr ⊢
  by_cases h0 : w.2 = 0
  · have hro := hr h0
    subst hro
    rw [if_pos h0]
    obtain ⟨vn, wf⟩ := v1.2.2.2.1 h0
    have h35 := rm_0 v1 h0
    rw [rx_well, h35, Option.bind_some, b2_if, if_pos (by decide)]
    dsimp only
    unfold bnd jb_X12_construct_55
    by_cases h4 : r' = -4
    · rw [if_pos h4, c25]
      dsimp only
      rw [if_pos h4, if_pos h4]
      have v25 : VN E (sG S1 (E.2 m 39) 25 0) m (w.1.1, w.1.2.1, w.1.2.2.1, false) := ⟨fun j hj => (up2_n _ _ (fun e => by have := e.2; omega)).trans (vn.1 j hj), fun j hj => (up2_n _ _ (fun e => by have := e.2; have h12 := wf.2.2; have : j < w.1.2.2.1 := hj; omega)).trans (vn.2.1 j hj), (up2_n _ _ (fun e => by have := e.2; omega)).trans vn.2.2.1, up2_s _ _⟩
      have a25 : AgL E m [] [39] S1 (sG S1 (E.2 m 39) 25 0) := agl_sG (by decide)
      have ve := vre_ag L v1.1 (agl_mono a25 (fun _ z => absurd z List.not_mem_nil) (by decide))
      rw [ve.2.2.2.1, if_pos (by rw [z_inb (by omega)]; omega), z_nat (by omega), (ve.2.1.2.2.2 _ hme).1, show (8 : Int32) * n32 (mown A.2.1 (cme A.2.2)) = n32 (8 * mown A.2.1 (cme A.2.2)) from z_mul 8 _]
      obtain ⟨S2, e2, a2, v2⟩ := rx_rep (fu := fu) hfu (old := r') (new := n32 (8 * mown A.2.1 (cme A.2.2))) v25 wf.2.2
      have K := rm_now (k2 := 0) (x := (rep r' (n32 (8 * mown A.2.1 (cme A.2.2))) w.1.1, rep r' (n32 (8 * mown A.2.1 (cme A.2.2))) w.1.2.1, w.1.2.2.1, w.1.2.2.2 && !(r' == -4))) L v1 h0 (agl_trans a25 a2) (by rw [show (r' == -4) = true from by rw [h4]; rfl, Bool.not_true, Bool.and_false]; exact v2) ⟨sv_rep wf.1 (sv_n (isTb mo.2.1)), sv_rep wf.2.1 (sv_n (isTb mo.2.1)), wf.2.2⟩
      refine ⟨S2, ?_, ?_, K.2⟩
      · rw [e2, Option.bind_some]
      · exact K.1
    · rw [if_neg h4, if_neg h4, if_neg h4, if_pos (by rw [z_inb (by omega)]; omega), z_nat (by omega), (v1.1.2.1.2.2.2 q hq).1, show (8 : Int32) * n32 (mown A.2.1 q) = n32 (8 * mown A.2.1 q) from z_mul 8 _]
      obtain ⟨S2, e2, a2, v2⟩ := rx_rep (fu := fu) hfu (old := r') (new := n32 (8 * mown A.2.1 q)) vn wf.2.2
      have K := rm_now (k2 := 0) (x := (rep r' (n32 (8 * mown A.2.1 q)) w.1.1, rep r' (n32 (8 * mown A.2.1 q)) w.1.2.1, w.1.2.2.1, w.1.2.2.2 && !(r' == -4))) L v1 h0 a2 (by rw [show (r' == -4) = false from beq_eq_false_iff_ne.mpr h4, Bool.not_false, Bool.and_true]; exact v2) ⟨sv_rep wf.1 (sv_n (isTb mq.2.1)), sv_rep wf.2.1 (sv_n (isTb mq.2.1)), wf.2.2⟩
      refine ⟨S2, ?_, ?_, K.2⟩
      · rw [e2, Option.bind_some]
      · exact K.1
  · rw [if_neg h0, rx_well, Option.bind_some, b2_if, show (S1.1 m 35 == 0) = false from beq_eq_false_iff_ne.mpr (rm_e v1 n6w h0).2, if_neg (by decide)]
    exact ⟨S1, rfl, v1, agl_refl⟩
end RO
