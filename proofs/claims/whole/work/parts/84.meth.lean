/-! slot values; how an operation is compared -/
def svB (d : Dcl) (x : Int32) : Bool := (decide (0 ≤ x) && isT d x.toNatClampNeg) || ((decide (x ≤ -1) && decide (-4 ≤ x)) || (decide (x ≤ -10) && decide (-110 < x)))
theorem svB_iff {d : Dcl} {x : Int32} (h : svB d x = true) : svA d x := by
  unfold svB at h
  simp only [Bool.or_eq_true, Bool.and_eq_true, decide_eq_true_eq] at h
  rcases h with h | h | h
  · obtain ⟨n, hn, e⟩ := ge0_n (decide_eq_true h.1)
    refine Or.inl ⟨n, e, ?_⟩
    have := h.2
    rw [e, z_nat hn] at this
    exact this
  · refine Or.inr (Or.inl ?_)
    rw [z_l32, z_l32] at h
    exact ⟨h.2, h.1⟩
  · refine Or.inr (Or.inr ?_)
    rw [z_l32, z_i32] at h
    exact ⟨h.2, h.1⟩
theorem sv_ite {S : St} {x : Int32} : (if (-1 : Int32) < x then (if (-10 : Int32) < x then some ((0 : Int32), S) else if x ≤ -110 then some (0, S) else some (1, S)) else if (-4 : Int32) ≤ x then some (1, S) else (if (-10 : Int32) < x then some ((0 : Int32), S) else if x ≤ -110 then some (0, S) else some (1, S))) = some (b2 ((decide (x ≤ -1) && decide (-4 ≤ x)) || (decide (x ≤ -10) && decide (-110 < x))), S) := by
  by_cases c1 : (-1 : Int32) < x
  · have n1 : ¬ x ≤ -1 := Int32.not_le.mpr c1
    have c2 : (-10 : Int32) < x := by
      rw [z_i32] at c1 ⊢
      exact Int.lt_trans (by decide) c1
    have n2 : ¬ x ≤ -10 := Int32.not_le.mpr c2
    rw [if_pos c1, if_pos c2, decide_eq_false n1, decide_eq_false n2]; rfl
  · have p1 : x ≤ -1 := Int32.not_lt.mp c1
    rw [if_neg c1, decide_eq_true p1, Bool.true_and]
    by_cases c3 : (-4 : Int32) ≤ x
    · rw [if_pos c3, decide_eq_true c3]; rfl
    · rw [if_neg c3, decide_eq_false c3, Bool.false_or]
      by_cases c2 : (-10 : Int32) < x
      · rw [if_pos c2, decide_eq_false (Int32.not_le.mpr c2)]; rfl
      · rw [if_neg c2, decide_eq_true (Int32.not_lt.mp c2), Bool.true_and]
        by_cases c4 : x ≤ -110
        · rw [if_pos c4, decide_eq_false (Int32.not_lt.mpr c4)]; rfl
        · rw [if_neg c4, decide_eq_true (Int32.not_le.mp c4)]; rfl
section SVS
variable {E : Ev} {S : St} {T m fu : Nat} {d : Dcl}
theorem t_sv (hd : DI d) (v : VT E S T d) (x : Int32) : sp_X10_isSlotValue fu E S T x = some (b2 (svB d x), S) := by
  unfold sp_X10_isSlotValue jb_X10_isSlotValue_19 svB
  rw [t_typ hd v, Option.bind_some, b2_if]
  dsimp only
  rw [sv_ite]
  cases (decide (0 ≤ x) && isT d x.toNatClampNeg) <;> rfl
theorem r_sv (hd : DI d) (v : VRt E S m d) (x : Int32) : sp_X12_isSlotValue fu E S m x = some (b2 (svB d x), S) := by
  unfold sp_X12_isSlotValue jb_X12_isSlotValue_19 svB
  rw [r_typ hd v, Option.bind_some, b2_if]
  dsimp only
  rw [sv_ite]
  cases (decide (0 ≤ x) && isT d x.toNatClampNeg) <;> rfl
end SVS
/-- the class's side of an operation: exception number, value -/
def CO (E : Ev) (S : St) (a m : Nat) (o : Option ((String ⊕ Int32) × St)) (c : String ⊕ Int32) (z : Zs) : Prop := ∃ S', o = some (c, S') ∧ VX E S' a z ∧ Ag (NRf E m) S S'
/-- the reference's side -/
def RO (E : Ev) (S : St) (m : Nat) (o : Option (Int32 × St)) (c w : Int32) (z : Zs) : Prop := ∃ S', o = some (w, S') ∧ S'.1 m 0 = c ∧ VY E S' m z ∧ Ag (RFc E m) S S'
/-- an exception's number -/
def eNo (l : List (String × Int32)) : String ⊕ Int32 → Option Int32
  | .inl e => (l.find? (fun q => q.1 == e)).map (fun q => q.2)
  | .inr _ => some 0
section GLU
variable {E : Ev} {S : St} {a m a3 fu : Nat} {z z' : Zs}
theorem lg_same (x : Int64) : lg_cmp x x = 0 := by
  unfold lg_cmp
  simp
theorem nrf_l (Lm : LR E m) (h3 : E.1 a3 = some (1, 2, 1)) : NRf E m a3 := by
  refine ⟨fun e => ne_ty h3 Lm.2.2 (by decide) e, fun j hj e => ?_⟩
  obtain ⟨u, hu, h1⟩ := isA10_u hj
  have := Lm.1.2.1 m 10 j u Lm.2.2 hu
  rw [← e, h3] at this
  have : u = (1, 2, 1) := (Option.some.inj this).symm
  rw [this] at hu
  have hh : ∀ j : Nat, (ftab 10)[j]? ≠ some (some (1, 2, 1)) := by
    intro j hj2
    have hm := List.mem_of_getElem? hj2
    revert hm
    decide
  exact hh j hu
theorem law_go {o1 : Option ((String ⊕ Int32) × St)} {c : String ⊕ Int32} {l : List (String × Int32)} {g : St → Option (Int32 × St)} {n w : Int32} {rc : Int32 → St → Option (Int32 × St)} {x4 : Int32} (L : LX E a) (Lm : LR E m) (h3 : E.1 a3 = some (1, 2, 1)) (vy : VY E S m z) (h1 : CO E S a m o1 c z') (hn : eNo l c = some n) (hw : ∀ r, c = .inr r → w = r) (hn0 : ∀ e, c = .inl e → n ≠ 0) (h2 : ∀ S1, VX E S1 a z' → VY E S1 m z → RO E S1 m (g S1) n w z') : ∃ S', ((o1.bind fun u1 => hcat u1 l fun r2 S3 => bnd (sL S3 a3 ((0 : Int32).toNatClampNeg) r2.toInt64) fun S4 => some (0, S4)).bind fun u6 => (g u6.2).bind fun u9 => (sp_X12_thrown fu E u9.2 m).bind fun u10 => if u10.1 = u6.1 then (if u6.1 = 0 then (if (lg_cmp (u10.2.2.2.2 a3 (0 : Int32).toNatClampNeg) u9.1.toInt64) = 0 then rc (x4 + 5) u10.2 else some (0, u10.2)) else rc (x4 + 5) u10.2) else some (0, u10.2)) = rc (x4 + 5) S' ∧ VX E S' a z' ∧ VY E S' m z' := by
  obtain ⟨S1, rfl, vx1, a1⟩ := h1
  have vy1 := vy_ag a1 Lm vy
  rw [Option.bind_some]
  cases c with
  | inl e =>
    have hn : (l.find? (fun q => q.1 == e)).map (fun q => q.2) = some n := hn
    have e1 : hcat (.inl e, S1) l (fun r2 S3 => bnd (sL S3 a3 ((0 : Int32).toNatClampNeg) r2.toInt64) fun S4 => some (0, S4)) = some (n, S1) := by
      show (l.find? (fun q => q.1 == e)).map (fun q => (q.2, S1)) = some (n, S1)
      cases hf : l.find? (fun q => q.1 == e) with
      | none => rw [hf] at hn; cases hn
      | some q =>
        rw [hf] at hn
        have hn : some q.2 = some n := hn
        cases hn
        rfl
    obtain ⟨S2, e2, c2, vy2, a2⟩ := h2 S1 vx1 vy1
    rw [e1, Option.bind_some]
    dsimp only
    rw [e2, Option.bind_some]
    unfold sp_X12_thrown
    rw [Option.bind_some]
    dsimp only
    rw [c2, if_pos rfl]
    have vx2 := vx_rf L Lm vx1 a2
    rw [if_neg (hn0 e rfl)]
    exact ⟨S2, rfl, vx2, vy2⟩
  | inr r =>
    have hn : some (0 : Int32) = some n := hn
    cases hn
    have er := hw r rfl
    subst er
    have e1 : hcat (.inr w, S1) l (fun r2 S3 => bnd (sL S3 a3 ((0 : Int32).toNatClampNeg) r2.toInt64) fun S4 => some (0, S4)) = some (0, sL S1 a3 ((0 : Int32).toNatClampNeg) w.toInt64) := rfl
    obtain ⟨S2, e2, c2, vy2, a2⟩ := h2 (sL S1 a3 ((0 : Int32).toNatClampNeg) w.toInt64) vx1 vy1
    rw [e1, Option.bind_some]
    dsimp only
    rw [e2, Option.bind_some]
    unfold sp_X12_thrown
    rw [Option.bind_some]
    dsimp only
    have el : S2.2.2.2 a3 (0 : Int32).toNatClampNeg = w.toInt64 := by
      rw [(a2 a3 (nrf_n (nrf_l Lm h3))).2.2.2]
      exact up2_s _ _
    rw [c2, if_pos rfl, if_pos rfl, el, if_pos (lg_same _)]
    exact ⟨S2, rfl, vx_rf L Lm (show VX E (sL S1 a3 ((0 : Int32).toNatClampNeg) w.toInt64) a z' from vx1) a2, vy2⟩
end GLU
