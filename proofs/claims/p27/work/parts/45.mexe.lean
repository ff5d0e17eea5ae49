theorem dec_beq (x y : Int32) : decide (x = y) = (x == y) := by rw [Bool.eq_iff_iff, decide_eq_true_eq, beq_iff_eq]
theorem op_ne {op k : Nat} (h : op ≤ 45) (hk : k ≤ 45) (hne : op ≠ k) : ¬ n32 op = (OfNat.ofNat k : Int32) := by rw [show (OfNat.ofNat k : Int32) = n32 k from rfl, z_eq (by omega) (by omega)]; exact hne
section MX
variable {E : Ev} {M f fu : Nat} {A : Enw}
theorem m_reqC {S : St} {y y2 : Ms} (L : LM E M f) (v : VM E S M f A y) (c : Prop) [Decidable c] (k : Int32) {g : St → Option St} (hk : ∀ S1, VM E S1 M f A (aReq (decide c) k y) → Hv E M f A S1 (g S1) y2) : Hv E M f A S (if c then (sp_X7_require fu E S M 1 k).bind g else (sp_X7_require fu E S M 0 k).bind g) y2 := by
  by_cases hc : c
  · rw [if_pos hc]
    rw [decide_eq_true hc] at hk
    exact hv_bind (m_req L v true k) hk
  · rw [if_neg hc]
    rw [decide_eq_false hc] at hk
    exact hv_bind (m_req L v false k) hk
theorem m_setL {S : St} {y : Ms} {i : Nat} {x : Int32} (L : LM E M f) (v : VM E S M f A y) (hx : svA A.1 x) : VM E (sG S (E.2 f 0) i x) M f A ((up1 y.1.1 i x, y.1.2), y.2) ∧ Ag (PM E M f) S (sG S (E.2 f 0) i x) := by
  have vf := v.2.2.2.1
  refine vm_fr L v (Ag_mono sG_ag (fun q z => Or.inr (Or.inl z))) ⟨fun j hj => ?_, fun j hj => ?_, vf.2.2.1, vf.2.2.2⟩ ⟨sv_up1 v.2.2.2.2.1 hx, v.2.2.2.2.2⟩
  · show up2 S.2.1 (E.2 f 0) i x (E.2 f 0) j = up1 y.1.1 i x j
    by_cases e : j = i
    · rw [e, up2_s, up1_s]
    · rw [up2_n _ _ (fun z => e z.2), up1_n _ _ e]
      exact vf.1 j hj
  · exact (up2_n _ _ (fun z => L.a01 z.1.symm)).trans (vf.2.1 j hj)
theorem m_brk31 {S : St} {y : Ms} {n : Nat} (L : LM E M f) (hn : n < 12) (v : VM E S M f A y) : Hv E M f A S (jb_X7_breakLong_31 fu E M (n32 n) S) (((if y.1.1 n = 8 ∧ n < 11 then up1 y.1.1 (n + 1) (-2) else y.1.1), y.1.2), y.2) := by
  have vf := v.2.2.2.1
  unfold jb_X7_breakLong_31 bnd
  rw [v.2.1, if_pos L.2.2.2, if_pos (by rw [z_inb (by omega)]; exact hn), z_nat (by omega), vf.1 n hn, if_pos L.2.2.2, show n32 n + 1 = n32 (n + 1) from z_add n 1, z_nat (show n + 1 < 2 ^ 31 by omega), show (11 : Int32) = n32 11 from rfl, zi_le (by decide) (by omega)]
  by_cases h1 : y.1.1 n = 8
  · rw [if_pos h1]
    by_cases h2 : 11 ≤ n
    · rw [if_pos h2, if_neg (fun z => by omega)]
      exact hv_some v
    · rw [if_neg h2, if_pos (by rw [z_inb (by omega)]; omega), if_pos ⟨h1, by omega⟩]
      exact ⟨_, rfl, m_setL L v sv_top⟩
  · rw [if_neg h1, if_neg (fun z => h1 z.1)]
    exact hv_some v
theorem m_brk {S : St} {y : Ms} {n : Nat} (L : LM E M f) (hn : n < 12) (v : VM E S M f A y) : Hv E M f A S (sp_X7_breakLong fu E S M (n32 n)) ((brk n y.1.1, y.1.2), y.2) := by
  have vf := v.2.2.2.1
  unfold sp_X7_breakLong bnd brk
  dsimp only
  rw [v.2.1, if_pos L.2.2.2, if_pos (by rw [z_inb (by omega)]; exact hn), z_nat (by omega), vf.1 n hn, if_pos L.2.2.2, show (0 : Int32) = n32 0 from rfl, zi_le (show n < 2 ^ 31 by omega) (by decide)]
  by_cases h1 : y.1.1 n = -3
  · rw [if_pos h1]
    by_cases h2 : n ≤ 0
    · rw [if_pos h2, if_neg (show ¬ (y.1.1 n = -3 ∧ 0 < n) from fun z => by omega)]
      exact m_brk31 L hn v
    · rw [if_neg h2, if_pos (show y.1.1 n = -3 ∧ 0 < n from ⟨h1, by omega⟩), show n32 n - 1 = n32 (n - 1) from z_sub (b := 1) (by omega), if_pos (by rw [z_inb (by omega)]; omega), z_nat (show n - 1 < 2 ^ 31 by omega)]
      have K := m_setL (i := n - 1) (x := -2) L v sv_top
      obtain ⟨S2, e2, v2, a2⟩ := m_brk31 (fu := fu) L hn K.1
      exact ⟨S2, e2, v2, Ag_trans K.2 a2⟩
  · rw [if_neg h1, if_neg (show ¬ (y.1.1 n = -3 ∧ 0 < n) from fun z => h1 z.1)]
    exact m_brk31 L hn v
theorem m_store {S : St} {y : Ms} {n : Nat} {x : Int32} (L : LM E M f) (hn : n < 12) (v : VM E S M f A y) (hx : svA A.1 x) : Hv E M f A S (sp_X7_store fu E S M (n32 n) x) (aStore n x y) := by
  unfold sp_X7_store bnd aStore
  refine hv_bind (m_brk L hn v) (fun S1 v1 => ?_)
  rw [v1.2.1, if_pos L.2.2.2, if_pos (by rw [z_inb (by omega)]; exact hn), z_nat (by omega)]
  exact ⟨_, rfl, m_setL L v1 hx⟩
theorem hv_id {S : St} {o : Option St} {y : Ms} (h : Hv E M f A S o y) : Hv E M f A S (o.bind fun u => some u) y := hv_bind h (fun _ v => hv_some v)
theorem m_local {S : St} {y : Ms} {op : Nat} {x : Int32} (L : LM E M f) (hA : EI A) (hfu : 30 ≤ fu) (hop : op ≤ 45) (hx : okX A op x) (v : VM E S M f A y) : Hv E M f A S (sp_X7_executeLocal fu E S M (n32 op) x) (aLocal A op x y) := by
  have hm := hA.2.2.2.1
  have hl := hA.2.2.2.2.1
  have hd := hA.1
  have vf := v.2.2.2.1
  unfold sp_X7_executeLocal aLocal
  dsimp only
  by_cases h1 : op = 1
  · subst h1
    rw [if_pos (show n32 1 = 1 from rfl), if_pos rfl]
    exact hv_id (m_push L hm v (sv_0 hd))
  rw [if_neg (op_ne (k := 1) hop (by decide) h1), if_neg h1]
  by_cases h1 : op = 2
  · subst h1
    rw [if_pos (show n32 2 = 2 from rfl), if_pos rfl]
    exact hv_id (m_pushT L hm v (sv_8 hd))
  rw [if_neg (op_ne (k := 2) hop (by decide) h1), if_neg h1]
  by_cases h1 : op = 3
  · subst h1
    rw [if_pos (show n32 3 = 3 from rfl), if_pos rfl]
    exact hv_id (m_push L hm v sv_null)
  rw [if_neg (op_ne (k := 3) hop (by decide) h1), if_neg h1]
  by_cases h1 : op = 4
  · subst h1
    obtain ⟨n, rfl, hn⟩ := hx.1 (Or.inl rfl)
    rw [if_pos (show n32 4 = 4 from rfl), if_pos rfl, v.2.1, if_pos L.2.2.2, if_pos (by rw [z_inb (by omega)]; omega), z_nat (by omega), vf.1 n (by omega), ← dec_beq]
    exact m_reqC L v _ 5 (fun S1 v1 => hv_id (m_push L hm v1 (sv_0 hd)))
  rw [if_neg (op_ne (k := 4) hop (by decide) h1), if_neg h1]
  by_cases h1 : op = 5
  · subst h1
    obtain ⟨n, rfl, hn⟩ := hx.2.1 (Or.inl rfl)
    rw [if_pos (show n32 5 = 5 from rfl), if_pos rfl, v.2.1, if_pos L.2.2.2, if_pos (by rw [z_inb (by omega)]; omega), z_nat (by omega), vf.1 n (by omega), ← dec_beq]
    exact m_reqC L v _ 5 (fun S1 v1 => hv_id (m_pushT L hm v1 (sv_8 hd)))
  rw [if_neg (op_ne (k := 5) hop (by decide) h1), if_neg h1]
  by_cases h1 : op = 6
  · subst h1
    obtain ⟨n, rfl, hn⟩ := hx.1 (Or.inr (Or.inl rfl))
    rw [if_pos (show n32 6 = 6 from rfl), if_pos rfl, v.2.1, if_pos L.2.2.2, if_pos (by rw [z_inb (by omega)]; omega), z_nat (by omega), vf.1 n (by omega), m_any, Option.bind_some]
    refine hv_bind (m_req L v _ 5) (fun S1 v1 => ?_)
    have e1 : (aReq (anyR (y.1.1 n)) 5 y).1 = y.1 := by unfold aReq; split <;> rfl
    rw [v1.2.1, if_pos L.2.2.2, if_pos (by rw [z_inb (by omega)]; omega), v1.2.2.2.1.1 n (by omega), e1]
    exact hv_id (m_push L hm v1 (v.2.2.2.2.1 n (by omega)))
  rw [if_neg (op_ne (k := 6) hop (by decide) h1), if_neg h1]
  by_cases h1 : op = 7
  · subst h1
    obtain ⟨n, rfl, hn⟩ := hx.1 (Or.inr (Or.inr (Or.inl rfl)))
    rw [if_pos (show n32 7 = 7 from rfl), if_pos rfl, z_nat (by omega)]
    exact hv_bind (m_popT L hd hfu v (sv_0 hd)) (fun S1 v1 => hv_id (m_store L (by omega) v1 (sv_0 hd)))
  rw [if_neg (op_ne (k := 7) hop (by decide) h1), if_neg h1]
  by_cases h1 : op = 8
  · subst h1
    obtain ⟨n, rfl, hn⟩ := hx.2.1 (Or.inr rfl)
    rw [if_pos (show n32 8 = 8 from rfl), if_pos rfl, z_nat (by omega), show n32 n + 1 = n32 (n + 1) from z_add n 1]
    exact hv_bind (m_popT L hd hfu v (sv_8 hd)) (fun S1 v1 => hv_bind (m_store L (by omega) v1 (sv_8 hd)) (fun S2 v2 => hv_id (m_store L (by omega) v2 sv_high)))
  rw [if_neg (op_ne (k := 8) hop (by decide) h1), if_neg h1]
  by_cases h1 : op = 9
  · subst h1
    obtain ⟨n, rfl, hn⟩ := hx.1 (Or.inr (Or.inr (Or.inr (Or.inl rfl))))
    rw [if_pos (show n32 9 = 9 from rfl), if_pos rfl, z_nat (by omega)]
    exact hw_bind (m_popA L v) (fun S1 v1 => hv_id (m_store L (by omega) v1 (wf_popC (c := anyR) v.2.2.2.2).2))
  rw [if_neg (op_ne (k := 9) hop (by decide) h1), if_neg h1]
  by_cases h1 : op = 21
  · subst h1
    obtain ⟨n, rfl, hn⟩ := hx.1 (Or.inr (Or.inr (Or.inr (Or.inr rfl))))
    rw [if_pos (show n32 21 = 21 from rfl), if_pos rfl, v.2.1, if_pos L.2.2.2, if_pos (by rw [z_inb (by omega)]; omega), z_nat (by omega), vf.1 n (by omega), ← dec_beq]
    exact m_reqC L v _ 5 (fun S1 v1 => hv_some v1)
  rw [if_neg (op_ne (k := 21) hop (by decide) h1), if_neg h1]
  exact hv_some v
theorem m_pair {S : St} {y : Ms} {op : Nat} (L : LM E M f) (hA : EI A) (hop : op ≤ 45) (v : VM E S M f A y) : Hv E M f A S (sp_X7_movePair fu E S M (n32 op)) (aPair (cmost A.2.2) op y) := by
  have hm := hA.2.2.2.1
  unfold sp_X7_movePair aPair
  dsimp only
  refine hw_bind (m_pop L v) (fun S1 v1 => ?_)
  refine hw_bind (m_pop L v1) (fun S2 v2 => ?_)
  dsimp only
  have s1 := (wf_pop (d := A.1) v.2.2.2.2).2
  have s2 := (wf_pop (d := A.1) v1.2.2.2.2).2
  unfold jb_X7_movePair_36
  generalize (aPop (aPop y).2).1 = l at s2 ⊢
  generalize (aPop y).1 = u at s1 ⊢
  have key : ∀ c : Bool, Hv E M f A S2 ((sp_X7_require fu E S2 M (b2 c) 4).bind fun u3 => if n32 op = 14 then (sp_X7_push fu E u3 M l).bind fun u4 => (sp_X7_push fu E u4 M u).bind fun u5 => (sp_X7_push fu E u5 M l).bind fun u6 => (sp_X7_push fu E u6 M u).bind fun u7 => some u7 else some u3) (if op = 14 then aPush (cmost A.2.2) u (aPush (cmost A.2.2) l (aPush (cmost A.2.2) u (aPush (cmost A.2.2) l (aReq c 4 (aPop (aPop y).2).2)))) else aReq c 4 (aPop (aPop y).2).2) := by
    intro c
    refine hv_bind (m_req L v2 c 4) (fun S3 v3 => ?_)
    by_cases h1 : op = 14
    · subst h1
      rw [if_pos (show n32 14 = 14 from rfl), if_pos rfl]
      exact hv_bind (m_push L hm v3 s2) (fun S4 v4 => hv_bind (m_push L hm v4 s1) (fun S5 v5 => hv_bind (m_push L hm v5 s2) (fun S6 v6 => hv_id (m_push L hm v6 s1))))
    · rw [if_neg (op_ne (k := 14) hop (by decide) h1), if_neg h1]
      exact hv_some v3
  by_cases h1 : l = 8
  · rw [if_pos h1, show (l == 8 || (whole l && whole u)) = true from by rw [h1]; rfl]
    exact key true
  · rw [if_neg h1, show (l == 8) = false from beq_eq_false_iff_ne.mpr h1, Bool.false_or, m_whole, Option.bind_some, b2_if]
    cases whole l with
    | false => rw [if_neg (by decide)]; exact key false
    | true =>
      rw [if_pos rfl, m_whole, Option.bind_some, b2_if]
      cases whole u with
      | false => rw [if_neg (by decide)]; exact key false
      | true => rw [if_pos rfl]; exact key true
theorem m_move {S : St} {y : Ms} {op : Nat} (L : LM E M f) (hA : EI A) (hop : op ≤ 45) (v : VM E S M f A y) : Hv E M f A S (sp_X7_executeMove fu E S M (n32 op)) (aMove A op y) := by
  have hm := hA.2.2.2.1
  unfold sp_X7_executeMove aMove
  dsimp only
  by_cases h1 : op = 11
  · subst h1
    rw [if_pos (show n32 11 = 11 from rfl), if_pos (Or.inl rfl)]
    exact hv_id (m_pair L hA hop v)
  rw [if_neg (op_ne (k := 11) hop (by decide) h1)]
  by_cases h2 : op = 14
  · subst h2
    rw [if_pos (show n32 14 = 14 from rfl), if_pos (Or.inr rfl)]
    exact hv_id (m_pair L hA hop v)
  rw [if_neg (op_ne (k := 14) hop (by decide) h2), if_neg (fun z => z.elim h1 h2)]
  refine hw_bind (m_popW L v) (fun S1 v1 => ?_)
  have s1 := (wf_popC (d := A.1) (c := whole) v.2.2.2.2).2
  dsimp only
  by_cases h3 : op = 12
  · subst h3
    rw [if_pos (show n32 12 = 12 from rfl), if_pos rfl]
    exact hv_bind (m_push L hm v1 s1) (fun S2 v2 => hv_id (m_push L hm v2 s1))
  rw [if_neg (op_ne (k := 12) hop (by decide) h3), if_neg h3]
  by_cases h4 : op = 13
  · subst h4
    rw [if_pos (show n32 13 = 13 from rfl), if_pos rfl]
    refine hw_bind (m_popW L v1) (fun S2 v2 => ?_)
    have s2 := (wf_popC (d := A.1) (c := whole) v1.2.2.2.2).2
    exact hv_bind (m_push L hm v2 s1) (fun S3 v3 => hv_bind (m_push L hm v3 s2) (fun S4 v4 => hv_id (m_push L hm v4 s1)))
  rw [if_neg (op_ne (k := 13) hop (by decide) h4), if_neg h4]
  by_cases h5 : op = 15
  · subst h5
    rw [if_pos (show n32 15 = 15 from rfl), if_pos rfl]
    refine hw_bind (m_popW L v1) (fun S2 v2 => ?_)
    have s2 := (wf_popC (d := A.1) (c := whole) v1.2.2.2.2).2
    exact hv_bind (m_push L hm v2 s1) (fun S3 v3 => hv_id (m_push L hm v3 s2))
  rw [if_neg (op_ne (k := 15) hop (by decide) h5), if_neg h5]
  exact hv_some v1
theorem m_num {S : St} {y : Ms} {op : Nat} (L : LM E M f) (hA : EI A) (hfu : 30 ≤ fu) (hop : op ≤ 45) (v : VM E S M f A y) : Hv E M f A S (sp_X7_executeNumber fu E S M (n32 op)) (aNum A op y) := by
  have hm := hA.2.2.2.1
  have hd := hA.1
  have s0 := sv_0 hd
  have s8 := sv_8 hd
  unfold sp_X7_executeNumber aNum
  dsimp only
  by_cases h1 : op = 16
  · subst h1
    rw [if_pos (show n32 16 = 16 from rfl), if_pos rfl]
    exact hv_bind (m_popT L hd hfu v s0) (fun S1 v1 => hv_bind (m_popT L hd hfu v1 s0) (fun S2 v2 => hv_id (m_push L hm v2 s0)))
  rw [if_neg (op_ne (k := 16) hop (by decide) h1), if_neg h1]
  by_cases h1 : op = 17
  · subst h1
    rw [if_pos (show n32 17 = 17 from rfl), if_pos rfl]
    exact hv_bind (m_popT L hd hfu v s8) (fun S1 v1 => hv_bind (m_popT L hd hfu v1 s8) (fun S2 v2 => hv_id (m_pushT L hm v2 s8)))
  rw [if_neg (op_ne (k := 17) hop (by decide) h1), if_neg h1]
  by_cases h1 : op = 18
  · subst h1
    rw [if_pos (show n32 18 = 18 from rfl), if_pos rfl]
    exact hv_bind (m_popT L hd hfu v s0) (fun S1 v1 => hv_id (m_pushT L hm v1 s8))
  rw [if_neg (op_ne (k := 18) hop (by decide) h1), if_neg h1]
  by_cases h1 : op = 19
  · subst h1
    rw [if_pos (show n32 19 = 19 from rfl), if_pos rfl]
    exact hv_bind (m_popT L hd hfu v s8) (fun S1 v1 => hv_id (m_push L hm v1 s0))
  rw [if_neg (op_ne (k := 19) hop (by decide) h1), if_neg h1]
  by_cases h1 : op = 20
  · subst h1
    rw [if_pos (show n32 20 = 20 from rfl), if_pos rfl]
    exact hv_bind (m_popT L hd hfu v s8) (fun S1 v1 => hv_bind (m_popT L hd hfu v1 s8) (fun S2 v2 => hv_id (m_push L hm v2 s0)))
  rw [if_neg (op_ne (k := 20) hop (by decide) h1), if_neg h1]
  by_cases h1 : op = 23
  · subst h1
    rw [if_pos (show n32 23 = 23 from rfl), if_pos rfl]
    exact hv_id (m_popT L hd hfu v s0)
  rw [if_neg (op_ne (k := 23) hop (by decide) h1), if_neg h1]
  by_cases h1 : op = 24
  · subst h1
    rw [if_pos (show n32 24 = 24 from rfl), if_pos rfl]
    exact hv_bind (m_popT L hd hfu v s0) (fun S1 v1 => hv_id (m_popT L hd hfu v1 s0))
  rw [if_neg (op_ne (k := 24) hop (by decide) h1), if_neg h1]
  by_cases h1 : op = 25
  · subst h1
    rw [if_pos (show n32 25 = 25 from rfl), if_pos rfl]
    exact hw_bind (m_popA L v) (fun S1 v1 => hv_some v1)
  rw [if_neg (op_ne (k := 25) hop (by decide) h1), if_neg h1]
  by_cases h1 : op = 26
  · subst h1
    rw [if_pos (show n32 26 = 26 from rfl), if_pos rfl]
    exact hw_bind (m_popA L v) (fun S1 v1 => hw_bind (m_popA L v1) (fun S2 v2 => hv_some v2))
  rw [if_neg (op_ne (k := 26) hop (by decide) h1), if_neg h1]
  exact hv_some v
theorem sv_res (hA : EI A) (hs : cst A.2.2 = true) : svA A.1 (mres A.2.1 (cme A.2.2)) := by
  rcases (hA.2.1.2.2.2 _ (hA.2.2.1 hs)).2.2.2.1 with h | ⟨n, h, hn⟩
  · rw [h]; exact sv_null
  · rw [h]; exact sv_n hn
theorem m_end {S : St} {y : Ms} {op : Nat} (L : LM E M f) (hA : EI A) (hs : cst A.2.2 = true) (hfu : 30 ≤ fu) (hop : op ≤ 45) (v : VM E S M f A y) : Hv E M f A S (sp_X7_executeEnd fu E S M (n32 op)) (aEnd A op y) := by
  have hm := hA.2.2.2.1
  have hd := hA.1
  have s0 := sv_0 hd
  have s8 := sv_8 hd
  have hme := hA.2.2.1 hs
  have h30 := hA.2.1.2.1
  have sr := sv_res hA hs
  unfold sp_X7_executeEnd aEnd bnd
  dsimp only
  rw [v.1.2.2.2.1, if_pos (by rw [z_inb (by omega)]; omega), z_nat (by omega), (v.1.2.1.2.2.2 _ hme).2.2.1]
  generalize mres A.2.1 (cme A.2.2) = r at sr
  by_cases h1 : op = 27
  · subst h1
    rw [if_pos (show n32 27 = 27 from rfl), if_pos rfl, ← dec_beq]
    exact hv_bind (m_popT L hd hfu v s0) (fun S1 v1 => m_reqC L v1 _ 9 (fun S2 v2 => hv_some v2))
  rw [if_neg (op_ne (k := 27) hop (by decide) h1), if_neg h1]
  by_cases h1 : op = 28
  · subst h1
    rw [if_pos (show n32 28 = 28 from rfl), if_pos rfl, ← dec_beq]
    exact hv_bind (m_popT L hd hfu v s8) (fun S1 v1 => m_reqC L v1 _ 9 (fun S2 v2 => hv_some v2))
  rw [if_neg (op_ne (k := 28) hop (by decide) h1), if_neg h1]
  by_cases h1 : op = 29
  · subst h1
    rw [if_pos (show n32 29 = 29 from rfl), if_pos rfl]
    refine hw_bind (m_popR L v) (fun S1 v1 => ?_)
    dsimp only
    rw [t_rfT, Option.bind_some, b2_if]
    cases rfT r with
    | false =>
      rw [if_neg (by decide), Bool.false_and]
      exact hv_id (m_req L v1 false 9)
    | true =>
      rw [if_pos rfl, Bool.true_and, t_fits hd v1.1.1 hfu (wf_popC (d := A.1) (c := rfV) v.2.2.2.2).2 sr, Option.bind_some, b2_if]
      cases fitsA A.1 (aPopC rfV y).1 r with
      | false => rw [if_neg (by decide)]; exact hv_id (m_req L v1 false 9)
      | true => rw [if_pos rfl]; exact hv_id (m_req L v1 true 9)
  rw [if_neg (op_ne (k := 29) hop (by decide) h1), if_neg h1]
  by_cases h1 : op = 30
  · subst h1
    rw [if_pos (show n32 30 = 30 from rfl), if_pos rfl]
    by_cases h2 : r = -1
    · rw [if_pos h2, v.2.1, if_pos L.2.2.2, v.2.2.2.1.2.2.2, b2_if, show (r == -1) = true from by rw [h2]; rfl, Bool.true_and]
      cases y.1.2.2.2 with
      | false => rw [if_neg (by decide)]; exact hv_id (m_req L v true 9)
      | true => rw [if_pos rfl]; exact hv_id (m_req L v false 9)
    · rw [if_neg h2, show (r == -1) = false from beq_eq_false_iff_ne.mpr h2, Bool.false_and]
      exact hv_id (m_req L v false 9)
  rw [if_neg (op_ne (k := 30) hop (by decide) h1), if_neg h1]
  exact hw_bind (m_popR L v) (fun S1 v1 => hv_some v1)
theorem m_field {S : St} {y : Ms} {b : Nat} (L : LM E M f) (hA : EI A) (hs : cst A.2.2 = true) (hfu : 30 ≤ fu) (hb : b < A.1.1) (v : VM E S M f A y) : Hv E M f A S (sp_X7_popFieldObject fu E S M (n32 b)) (aReq (((aPop y).1 == -4 && b == mown A.2.1 (cme A.2.2)) || fitsA A.1 (aPop y).1 (n32 (8 * b))) 4 (aPop y).2) := by
  have hd := hA.1
  have hme := hA.2.2.1 hs
  have h30 := hA.2.1.2.1
  have h20 := hd.2.1
  have mo := hA.2.1.2.2.2 _ hme
  unfold sp_X7_popFieldObject
  refine hw_bind (m_pop L v) (fun S1 v1 => ?_)
  have s1 := (wf_pop (d := A.1) v.2.2.2.2).2
  dsimp only
  have k0 : Hv E M f A S1 (jb_X7_popFieldObject_35 fu E M (n32 b) (aPop y).1 0 S1) (aReq (fitsA A.1 (aPop y).1 (n32 (8 * b))) 4 (aPop y).2) := by
    unfold jb_X7_popFieldObject_35
    rw [if_pos rfl, show (8 : Int32) * n32 b = n32 (8 * b) from z_mul 8 b, t_fits hd v1.1.1 hfu s1 (sv_n (isTb hb)), Option.bind_some, b2_if]
    cases fitsA A.1 (aPop y).1 (n32 (8 * b)) with
    | false => rw [if_neg (by decide)]; exact hv_id (m_req L v1 false 4)
    | true => rw [if_pos rfl]; exact hv_id (m_req L v1 true 4)
  have k1 : Hv E M f A S1 (jb_X7_popFieldObject_35 fu E M (n32 b) (aPop y).1 1 S1) (aReq true 4 (aPop y).2) := by
    unfold jb_X7_popFieldObject_35
    rw [if_neg (by decide)]
    exact hv_id (m_req L v1 true 4)
  by_cases h1 : (aPop y).1 = -4
  · rw [if_pos h1, show ((aPop y).1 == -4) = true from by rw [h1]; rfl, Bool.true_and, v1.1.2.2.2.1, if_pos (by rw [z_inb (by omega)]; omega), z_nat (by omega), (v1.1.2.1.2.2.2 _ hme).1, zi_eq (by omega) (by omega)]
    by_cases h2 : b = mown A.2.1 (cme A.2.2)
    · rw [if_pos h2, show (b == mown A.2.1 (cme A.2.2)) = true from by rw [beq_iff_eq]; exact h2, Bool.true_or]
      exact k1
    · rw [if_neg h2, show (b == mown A.2.1 (cme A.2.2)) = false from beq_eq_false_iff_ne.mpr h2, Bool.false_or]
      exact k0
  · rw [if_neg h1, show ((aPop y).1 == -4) = false from beq_eq_false_iff_ne.mpr h1, Bool.false_and, Bool.false_or]
    exact k0
theorem m_obj {S : St} {y : Ms} {op : Nat} {x : Int32} (L : LM E M f) (hA : EI A) (hs : cst A.2.2 = true) (hfu : 30 ≤ fu) (hop : op ≤ 45) (hx : okX A op x) (hr : op = 32 ∨ op = 33 ∨ op = 44 ∨ op = 45) (v : VM E S M f A y) : Hv E M f A S (sp_X7_executeObject fu E S M (n32 op) x) (aObj A op x y) := by
  have hm := hA.2.2.2.1
  have hd := hA.1
  have h30 := hA.2.1.1
  have h20 := hd.2.1
  unfold sp_X7_executeObject aObj
  dsimp only
  by_cases h1 : op = 32
  · subst h1
    obtain ⟨n, rfl, hn⟩ := hx.2.2.2.1 (Or.inl rfl)
    have fo := hA.2.1.2.2.1 n hn
    have hb : fown A.2.1 n < A.1.1 := by
      have := fo.1
      simp only [cls, Bool.and_eq_true, decide_eq_true_eq] at this
      exact this.1.2
    rw [if_pos (show n32 32 = 32 from rfl), if_pos rfl, if_pos (by rw [z_inb (by omega)]; omega), z_nat (by omega), (v.1.2.1.2.2.1 n hn).1, show (8 : Int32) * n32 (fown A.2.1 n) = n32 (8 * fown A.2.1 n) from z_mul 8 _]
    refine hv_bind (m_popT L hd hfu v (sv_n (isTb hb))) (fun S1 v1 => ?_)
    rw [if_pos (by rw [z_inb (by omega)]; omega), (v1.1.2.1.2.2.1 n hn).2]
    exact hv_id (m_pushT L hm v1 (sv_n fo.2))
  rw [if_neg (op_ne (k := 32) hop (by decide) h1), if_neg h1]
  by_cases h1 : op = 33
  · subst h1
    obtain ⟨n, rfl, hn⟩ := hx.2.2.2.1 (Or.inr rfl)
    have fo := hA.2.1.2.2.1 n hn
    have hb : fown A.2.1 n < A.1.1 := by
      have := fo.1
      simp only [cls, Bool.and_eq_true, decide_eq_true_eq] at this
      exact this.1.2
    rw [if_pos (show n32 33 = 33 from rfl), if_pos rfl, if_pos (by rw [z_inb (by omega)]; omega), z_nat (by omega), (v.1.2.1.2.2.1 n hn).2]
    refine hv_bind (m_popT L hd hfu v (sv_n fo.2)) (fun S1 v1 => ?_)
    rw [if_pos (by rw [z_inb (by omega)]; omega), (v1.1.2.1.2.2.1 n hn).1]
    exact hv_id (m_field L hA hs hfu hb v1)
  rw [if_neg (op_ne (k := 33) hop (by decide) h1), if_neg h1]
  by_cases h1 : op = 44
  · subst h1
    obtain ⟨n, rfl, hn, rn⟩ := hx.2.2.2.2.2.2.2 (Or.inl rfl)
    rw [if_pos (show n32 44 = 44 from rfl), if_pos rfl]
    exact hw_bind (m_popR L v) (fun S1 v1 => hv_id (m_push L hm v1 (sv_n hn)))
  rw [if_neg (op_ne (k := 44) hop (by decide) h1), if_neg h1]
  exact hw_bind (m_popR L v) (fun S1 v1 => hv_id (m_push L hm v1 (sv_0 hd)))
theorem sv_dec (hd : DI A.1) {x : Int32} (hx : svA A.1 x) (h : rowV x = true) (h1 : x ≠ -1) : svA A.1 (x - 1) := by
  unfold rowV at h
  rw [show (x == -1) = false from beq_eq_false_iff_ne.mpr h1, Bool.false_or, Bool.and_eq_true, decide_eq_true_eq, decide_eq_true_eq] at h
  rcases hx with ⟨n, rfl, hn⟩ | hx | hx
  · have h160 := isT_lt hd hn
    rw [z_nat (by omega)] at h
    have := lev_le n
    rw [show n32 n - 1 = n32 (n - 1) from z_sub (b := 1) (by omega)]
    exact sv_n (isT_sub (d := A.1) hn (by omega))
  · have := h.1
    rw [z_l32] at this
    have e0 : (0 : Int32).toInt = 0 := by decide
    omega
  · have := h.1
    rw [z_l32] at this
    have e0 : (0 : Int32).toInt = 0 := by decide
    omega
theorem req_ok {c : Bool} {k : Int32} {y : Ms} (hk : k ≠ 0) (h : (aReq c k y).2 = 0) : y.2 = 0 ∧ c = true := by
  unfold aReq at h
  by_cases hy : y.2 = 0
  · cases c with
    | true => exact ⟨hy, rfl⟩
    | false => rw [if_pos ⟨hy, rfl⟩] at h; exact absurd h hk
  · rw [if_neg (fun z => hy z.1)] at h; exact absurd h hy
theorem m_arr {S : St} {y : Ms} {op : Nat} {x : Int32} (L : LM E M f) (hA : EI A) (hfu : 30 ≤ fu) (hop : op ≤ 45) (hx : okX A op x) (v : VM E S M f A y) : Hv E M f A S (sp_X7_executeArray fu E S M (n32 op) x) (aArr A op x y) := by
  have hm := hA.2.2.2.1
  have hd := hA.1
  have s0 := sv_0 hd
  have s1' : svA A.1 1 := sv_n (n := 1) (isT1 hd)
  unfold sp_X7_executeArray aArr
  dsimp only
  by_cases h1 : op = 38
  · subst h1
    obtain ⟨n, rfl, hn, h4⟩ := hx.2.2.2.2.2.2.1 rfl
    have h160 := isT_lt hd hn
    rw [if_pos (show n32 38 = 38 from rfl), if_pos rfl, show n32 n + 1 = n32 (n + 1) from z_add n 1]
    have hn1 : isT A.1 (n + 1) = true := by
      rw [isT_iff] at hn ⊢
      omega
    exact hv_bind (m_popT L hd hfu v s0) (fun S1 v1 => hv_id (m_push L hm v1 (sv_n hn1)))
  rw [if_neg (op_ne (k := 38) hop (by decide) h1), if_neg h1]
  by_cases h1 : op = 39
  · subst h1
    rw [if_pos (show n32 39 = 39 from rfl), if_pos rfl]
    exact hv_bind (m_popT L hd hfu v s0) (fun S1 v1 => hv_bind (m_popT L hd hfu v1 s1') (fun S2 v2 => hv_id (m_push L hm v2 s0)))
  rw [if_neg (op_ne (k := 39) hop (by decide) h1), if_neg h1]
  by_cases h1 : op = 40
  · subst h1
    rw [if_pos (show n32 40 = 40 from rfl), if_pos rfl]
    exact hv_bind (m_popT L hd hfu v s0) (fun S1 v1 => hv_bind (m_popT L hd hfu v1 s0) (fun S2 v2 => hv_id (m_popT L hd hfu v2 s1')))
  rw [if_neg (op_ne (k := 40) hop (by decide) h1), if_neg h1]
  by_cases h1 : op = 41
  · subst h1
    rw [if_pos (show n32 41 = 41 from rfl), if_pos rfl]
    refine hv_bind (m_popT L hd hfu v s0) (fun S1 v1 => ?_)
    refine hw_bind (m_popRA L v1) (fun S2 v2 => ?_)
    dsimp only
    by_cases h2 : (aPopC rowV (aPopT A.1 0 y)).1 = -1
    · rw [if_pos h2, if_pos h2]
      exact hv_id (m_push L hm v2 sv_null)
    · rw [if_neg h2, if_neg h2]
      exact hv_id (m_push0 L hm v2 (fun e => sv_dec hd (wf_popC (d := A.1) (c := rowV) v1.2.2.2.2).2 (req_ok (by decide) e).2 h2))
  rw [if_neg (op_ne (k := 41) hop (by decide) h1), if_neg h1]
  by_cases h1 : op = 42
  · subst h1
    rw [if_pos (show n32 42 = 42 from rfl), if_pos rfl]
    exact hw_bind (m_popR L v) (fun S1 v1 => hv_bind (m_popT L hd hfu v1 s0) (fun S2 v2 => hw_bind (m_popRA L v2) (fun S3 v3 => hv_some v3)))
  rw [if_neg (op_ne (k := 42) hop (by decide) h1), if_neg h1]
  refine hw_bind (m_pop L v) (fun S1 v1 => ?_)
  unfold aPopC jb_X7_executeArray_155
  dsimp only
  by_cases h2 : (aPop y).1 = -1
  · rw [if_pos h2, show ((aPop y).1 == -1) = true from by rw [h2]; rfl, Bool.true_or]
    exact hv_bind (m_req L v1 true 4) (fun S2 v2 => hv_id (m_push L hm v2 s0))
  · rw [if_neg h2, show ((aPop y).1 == -1) = false from beq_eq_false_iff_ne.mpr h2, Bool.false_or, m_arrT, Option.bind_some, b2_if]
    cases arrT (aPop y).1 with
    | false => rw [if_neg (by decide)]; exact hv_bind (m_req L v1 false 4) (fun S2 v2 => hv_id (m_push L hm v2 s0))
    | true => rw [if_pos rfl]; exact hv_bind (m_req L v1 true 4) (fun S2 v2 => hv_id (m_push L hm v2 s0))
end MX
