section FR3
variable {E : Ev} {f fu : Nat} {S : St}
theorem f_hasL {x : Fr} (vf : VF E S f x) (h12 : x.2.2.1 ≤ 12) (v : Int32) : ∀ (j i F : Nat), i + j = x.2.2.1 → j + 1 ≤ F → lp_X3_hasOnStack_2 fu E f F v (n32 i) S = some (b2 (hasR v x.2.1 i j), S) := by
  intro j
  induction j with
  | zero =>
    intro i F hi hF
    obtain ⟨F, rfl⟩ : ∃ z, F = z + 1 := ⟨F - 1, by omega⟩
    show bd_X3_hasOnStack_2 fu E f _ v (n32 i) S = _
    unfold bd_X3_hasOnStack_2
    rw [vf.2.2.1, zi_le (by omega) (by omega), if_pos (by omega)]
    rfl
  | succ j ih =>
    intro i F hi hF
    obtain ⟨F, rfl⟩ : ∃ z, F = z + 1 := ⟨F - 1, by omega⟩
    show bd_X3_hasOnStack_2 fu E f _ v (n32 i) S = _
    unfold bd_X3_hasOnStack_2
    rw [vf.2.2.1, zi_le (by omega) (by omega), if_neg (by omega), if_pos (by rw [z_inb (by omega)]; omega), z_nat (by omega), vf.2.1 i (by omega), show n32 i + 1 = n32 (i + 1) from z_add i 1]
    show _ = some (b2 (x.2.1 i == v || hasR v x.2.1 (i + 1) j), S)
    by_cases h : x.2.1 i = v
    · rw [if_pos h, show (x.2.1 i == v) = true from by rw [h]; exact beq_self_eq_true v, Bool.true_or]; rfl
    · rw [if_neg h, show (x.2.1 i == v) = false from beq_eq_false_iff_ne.mpr h, Bool.false_or]
      exact ih (i + 1) F (by omega) (by omega)
theorem f_has {x : Fr} (vf : VF E S f x) (h12 : x.2.2.1 ≤ 12) (hfu : 30 ≤ fu) (v : Int32) : sp_X3_hasOnStack fu E S f v = some (b2 (hasS v x.2.1 x.2.2.1), S) := f_hasL vf h12 v x.2.2.1 0 fu (by omega) (by omega)
end FR3
section MC
variable {E : Ev} {M f fu : Nat} {A : Enw}
theorem vm_eqL {S : St} {l1 l2 s1 s2 : Nat → Int32} {h : Nat} {k : Bool} {e : Int32} (v : VM E S M f A ((l1, s1, h, k), e)) (hl : ∀ i, i < 12 → l1 i = l2 i) (hs : ∀ i, i < h → s1 i = s2 i) : VM E S M f A ((l2, s2, h, k), e) := by
  obtain ⟨v1, v2, v3, vf, w⟩ := v
  exact ⟨v1, v2, v3, ⟨fun i hi => (vf.1 i hi).trans (hl i hi), fun i hi => (vf.2.1 i hi).trans (hs i hi), vf.2.2.1, vf.2.2.2⟩, ⟨fun i hi => by show svA _ (l2 i); rw [← hl i hi]; exact w.1 i hi, fun i hi => by show svA _ (s2 i); rw [← hs i hi]; exact w.2.1 i hi, w.2.2⟩⟩
theorem m_setS {S : St} {y : Ms} {i : Nat} {x : Int32} (L : LM E M f) (v : VM E S M f A y) (hx : svA A.1 x) : VM E (sG S (E.2 f 1) i x) M f A ((y.1.1, up1 y.1.2.1 i x, y.1.2.2), y.2) ∧ Ag (PM E M f) S (sG S (E.2 f 1) i x) := by
  have vf := v.2.2.2.1
  refine vm_fr L v (Ag_mono sG_ag (fun q z => Or.inr (Or.inr z))) ⟨fun j hj => ?_, fun j hj => ?_, vf.2.2.1, vf.2.2.2⟩ ⟨v.2.2.2.2.1, fun j hj => ?_, v.2.2.2.2.2.2⟩
  · exact (up2_n _ _ (fun z => L.a01 z.1)).trans (vf.1 j hj)
  · show up2 S.2.1 (E.2 f 1) i x (E.2 f 1) j = up1 y.1.2.1 i x j
    by_cases e : j = i
    · rw [e, up2_s, up1_s]
    · rw [up2_n _ _ (fun z => e z.2), up1_n _ _ e]
      exact vf.2.1 j hj
  · show svA _ (up1 y.1.2.1 i x j)
    by_cases e : j = i
    · rw [e, up1_s]; exact hx
    · rw [up1_n _ _ e]; exact v.2.2.2.2.2.1 j hj
theorem m_repLL (L : LM E M f) {old new : Int32} (hn : svA A.1 new) {l s : Nat → Int32} {h : Nat} {k : Bool} {e : Int32} : ∀ (j i F : Nat) (S : St), i + j = 12 → j + 1 ≤ F → VM E S M f A ((fun q => if q < i then rep old new l q else l q, s, h, k), e) → Hv E M f A S (lp_X3_replaceLocals_2 fu E f F old new (n32 i) S) ((rep old new l, s, h, k), e) := by
  intro j
  induction j with
  | zero =>
    intro i F S hi hF v
    obtain ⟨F, rfl⟩ : ∃ z, F = z + 1 := ⟨F - 1, by omega⟩
    show Hv E M f A S (bd_X3_replaceLocals_2 fu E f _ old new (n32 i) S) _
    unfold bd_X3_replaceLocals_2
    rw [show (12 : Int32) = n32 12 from rfl, zi_le (by decide) (by omega), if_pos (by omega)]
    exact hv_some (vm_eqL v (fun q hq => if_pos (by omega)) (fun _ _ => rfl))
  | succ j ih =>
    intro i F S hi hF v
    obtain ⟨F, rfl⟩ : ∃ z, F = z + 1 := ⟨F - 1, by omega⟩
    show Hv E M f A S (bd_X3_replaceLocals_2 fu E f _ old new (n32 i) S) _
    unfold bd_X3_replaceLocals_2 bnd
    have e1 : S.2.1 (E.2 f 0) i = l i := by
      rw [v.2.2.2.1.1 i (by omega)]
      exact if_neg (by omega)
    rw [show (12 : Int32) = n32 12 from rfl, zi_le (by decide) (by omega), if_neg (by omega), if_pos (by rw [z_inb (by omega)]; omega), z_nat (by omega), e1, show n32 i + 1 = n32 (i + 1) from z_add i 1]
    by_cases hh : l i = old
    · rw [if_pos hh, if_pos (by rw [z_inb (by omega)]; omega)]
      have K := m_setL (i := i) (x := new) L v hn
      have K1 := vm_eqL (l2 := fun q => if q < i + 1 then rep old new l q else l q) (s2 := s) K.1 (fun q hq => by
        show up1 _ i new q = _
        by_cases e : q = i
        · rw [e, up1_s, if_pos (by omega)]
          exact (if_pos hh).symm
        · rw [up1_n _ _ e]
          show (if q < i then _ else _) = (if q < i + 1 then _ else _)
          by_cases e2 : q < i
          · rw [if_pos e2, if_pos (by omega)]
          · rw [if_neg e2, if_neg (by omega)]) (fun _ _ => rfl)
      obtain ⟨S2, e2, v2, a2⟩ := ih (i + 1) F _ (by omega) (by omega) K1
      exact ⟨S2, e2, v2, Ag_trans K.2 a2⟩
    · rw [if_neg hh]
      refine ih (i + 1) F S (by omega) (by omega) (vm_eqL v (fun q hq => ?_) (fun _ _ => rfl))
      by_cases e : q = i
      · rw [e, if_neg (by omega), if_pos (by omega)]
        exact (if_neg hh).symm
      · by_cases e2 : q < i
        · rw [if_pos e2, if_pos (by omega)]
        · rw [if_neg e2, if_neg (by omega)]
theorem m_repL {S : St} {y : Ms} (L : LM E M f) (hfu : 30 ≤ fu) {old new : Int32} (hn : svA A.1 new) (v : VM E S M f A y) : Hv E M f A S (sp_X3_replaceLocals fu E S f old new) ((rep old new y.1.1, y.1.2), y.2) := by
  refine m_repLL L hn 12 0 fu S rfl (by omega) ?_
  exact vm_eqL (l1 := y.1.1) (s1 := y.1.2.1) v (fun q _ => (if_neg (Nat.not_lt_zero q)).symm) (fun _ _ => rfl)
theorem m_repSL (L : LM E M f) {old new : Int32} (hn : svA A.1 new) {l s : Nat → Int32} {h : Nat} (h12 : h ≤ 12) {k : Bool} {e : Int32} : ∀ (j i F : Nat) (S : St), i + j = h → j + 1 ≤ F → VM E S M f A ((l, fun q => if q < i then rep old new s q else s q, h, k), e) → Hv E M f A S (lp_X3_replaceStack_2 fu E f F old new (n32 i) S) ((l, rep old new s, h, k), e) := by
  intro j
  induction j with
  | zero =>
    intro i F S hi hF v
    obtain ⟨F, rfl⟩ : ∃ z, F = z + 1 := ⟨F - 1, by omega⟩
    show Hv E M f A S (bd_X3_replaceStack_2 fu E f _ old new (n32 i) S) _
    unfold bd_X3_replaceStack_2
    rw [v.2.2.2.1.2.2.1, zi_le (by show h < _; omega) (by omega), if_pos (by show h ≤ i; omega)]
    exact hv_some (vm_eqL v (fun _ _ => rfl) (fun q hq => if_pos (by omega)))
  | succ j ih =>
    intro i F S hi hF v
    obtain ⟨F, rfl⟩ : ∃ z, F = z + 1 := ⟨F - 1, by omega⟩
    show Hv E M f A S (bd_X3_replaceStack_2 fu E f _ old new (n32 i) S) _
    unfold bd_X3_replaceStack_2 bnd
    have e1 : S.2.1 (E.2 f 1) i = s i := by
      rw [v.2.2.2.1.2.1 i (by show i < h; omega)]
      exact if_neg (by omega)
    rw [v.2.2.2.1.2.2.1, zi_le (by show h < _; omega) (by omega), if_neg (by show ¬ h ≤ i; omega), if_pos (by rw [z_inb (by omega)]; omega), z_nat (by omega), e1, show n32 i + 1 = n32 (i + 1) from z_add i 1]
    by_cases hh : s i = old
    · rw [if_pos hh, if_pos (by rw [z_inb (by omega)]; omega)]
      have K := m_setS (i := i) (x := new) L v hn
      have K1 := vm_eqL (l2 := l) (s2 := fun q => if q < i + 1 then rep old new s q else s q) K.1 (fun _ _ => rfl) (fun q hq => by
        show up1 _ i new q = _
        by_cases e : q = i
        · rw [e, up1_s, if_pos (by omega)]
          exact (if_pos hh).symm
        · rw [up1_n _ _ e]
          show (if q < i then _ else _) = (if q < i + 1 then _ else _)
          by_cases e2 : q < i
          · rw [if_pos e2, if_pos (by omega)]
          · rw [if_neg e2, if_neg (by omega)])
      obtain ⟨S2, e2, v2, a2⟩ := ih (i + 1) F _ (by omega) (by omega) K1
      exact ⟨S2, e2, v2, Ag_trans K.2 a2⟩
    · rw [if_neg hh]
      refine ih (i + 1) F S (by omega) (by omega) (vm_eqL v (fun _ _ => rfl) (fun q hq => ?_))
      by_cases e : q = i
      · rw [e, if_neg (by omega), if_pos (by omega)]
        exact (if_neg hh).symm
      · by_cases e2 : q < i
        · rw [if_pos e2, if_pos (by omega)]
        · rw [if_neg e2, if_neg (by omega)]
theorem m_repS {S : St} {y : Ms} (L : LM E M f) (hfu : 30 ≤ fu) {old new : Int32} (hn : svA A.1 new) (v : VM E S M f A y) : Hv E M f A S (sp_X3_replaceStack fu E S f old new) ((y.1.1, rep old new y.1.2.1, y.1.2.2), y.2) := by
  have h12 := v.2.2.2.2.2.2
  refine m_repSL L hn h12 y.1.2.2.1 0 fu S (by omega) (by omega) ?_
  exact vm_eqL (l1 := y.1.1) (s1 := y.1.2.1) v (fun _ _ => rfl) (fun q _ => (if_neg (Nat.not_lt_zero q)).symm)
theorem m_new {S : St} {y : Ms} (L : LM E M f) (hA : EI A) (hfu : 30 ≤ fu) {x : Int32} (hx : svA A.1 x) (v : VM E S M f A y) : Hv E M f A S (sp_X7_create fu E S M x) (aNew A x y) := by
  have hm := hA.2.2.2.1
  unfold sp_X7_create aNew
  dsimp only
  rw [v.2.1, if_pos L.2.2.2, f_has v.2.2.2.1 v.2.2.2.2.2.2 hfu, Option.bind_some, b2_if]
  have key : ∀ c : Bool, Hv E M f A S (jb_X7_create_17 fu E M M x (b2 c) S) (aPush (cmost A.2.2) x ((rep x (-2) (aReq c 4 y).1.1, (aReq c 4 y).1.2), (aReq c 4 y).2)) := by
    intro c
    unfold jb_X7_create_17
    refine hv_bind (m_req L v c 4) (fun S1 v1 => ?_)
    rw [v1.2.1, if_pos L.2.2.2]
    exact hv_bind (m_repL L hfu sv_top v1) (fun S2 v2 => hv_id (m_push L hm v2 hx))
  cases hasS x y.1.2.1 y.1.2.2.1 with
  | true => rw [if_pos rfl]; exact key false
  | false => rw [if_neg (by decide)]; exact key true
theorem m_ini121 {S : St} {y : Ms} (L : LM E M f) (hfu : 30 ≤ fu) (he : y.2 = 0) {o : Int32} {w : Nat} {t : Bool} (hw : isT A.1 (8 * w) = true) (v : VM E S M f A y) : Hv E M f A S (jb_X7_initialize_121 fu E M o (b2 t) 8 (n32 w) S) ((rep o (n32 (8 * w)) y.1.1, rep o (n32 (8 * w)) y.1.2.1, y.1.2.2.1, y.1.2.2.2 && !t), 0) := by
  unfold jb_X7_initialize_121 bnd
  rw [show (8 : Int32) * n32 w = n32 (8 * w) from z_mul 8 w, v.2.1]
  dsimp only
  rw [if_pos L.2.2.2]
  refine hv_bind (m_repL L hfu (sv_n hw) v) (fun S1 v1 => ?_)
  rw [v1.2.1, if_pos L.2.2.2]
  refine hv_bind (m_repS L hfu (sv_n hw) v1) (fun S2 v2 => ?_)
  rw [v2.2.1, if_pos L.2.2.2, if_pos L.2.2.2, v2.2.2.2.1.2.2.2, b2_if]
  have fin : ∀ b : Bool, VM E (sF S2 f 3 (b2 b)) M f A ((rep o (n32 (8 * w)) y.1.1, rep o (n32 (8 * w)) y.1.2.1, y.1.2.2.1, b), 0) ∧ Ag (PM E M f) S2 (sF S2 f 3 (b2 b)) := by
    intro b
    have vf := v2.2.2.2.1
    have K := vm_fr (S' := sF S2 f 3 (b2 b)) (x := (rep o (n32 (8 * w)) y.1.1, rep o (n32 (8 * w)) y.1.2.1, y.1.2.2.1, b)) L v2 (Ag_mono sF_ag (fun q z => Or.inl z)) ⟨vf.1, vf.2.1, (up2_n _ _ (fun z => by simp at z)).trans vf.2.2.1, up2_s _ _⟩ v2.2.2.2.2
    have e : (((y.1.1, y.1.2).1, (y.1.1, y.1.2).2), y.2).2 = 0 := he
    refine ⟨?_, K.2⟩
    have h2 := K.1
    dsimp only at h2
    rw [he] at h2
    exact h2
  dsimp only
  cases y.1.2.2.2 with
  | false =>
    rw [if_neg (by decide), Bool.false_and]
    exact ⟨_, rfl, fin false⟩
  | true =>
    rw [if_pos rfl, Bool.true_and, b2_if]
    cases t with
    | false => rw [if_neg (by decide)]; exact ⟨_, rfl, fin true⟩
    | true => rw [if_pos rfl]; exact ⟨_, rfl, fin false⟩
theorem m_cre {S : St} {C : Nat} {c : Cd} (hc : VCd E S C c) (hn : cn c ≤ 100) (hop : ∀ i, i < cn c → cop c i ≤ 45) {i : Int32} {b : Nat} : sp_X1_creates fu E S C i (n32 b) = some (b2 (isCre c i b), S) := by
  unfold sp_X1_creates
  have hidx : sp_X1_isIndex fu E S C i = some (b2 (decide (0 ≤ i) && decide (i < n32 (cn c))), S) := by
    unfold sp_X1_isIndex
    rw [hc.2.2.2.2.1]
    by_cases h : i < 0
    · rw [if_pos h, show decide (0 ≤ i) = false from decide_eq_false (by rw [z_l32]; rw [z_i32] at h; omega)]; rfl
    · rw [if_neg h, show decide (0 ≤ i) = true from decide_eq_true (by rw [z_l32]; rw [z_i32] at h; omega), Bool.true_and]
      by_cases h2 : n32 (cn c) ≤ i
      · rw [if_pos h2, show decide (i < n32 (cn c)) = false from decide_eq_false (by rw [z_i32]; rw [z_l32] at h2; omega)]; rfl
      · rw [if_neg h2, show decide (i < n32 (cn c)) = true from decide_eq_true (by rw [z_i32]; rw [z_l32] at h2; omega)]; rfl
  rw [hidx, Option.bind_some, b2_if]
  unfold isCre
  rcases z_sgn i with h | ⟨n, hn0, rfl⟩
  · have h0 : decide (0 ≤ i) = false := by
      rw [decide_eq_false_iff_not, z_l32]
      rw [z_i32] at h
      omega
    rw [h0]; rfl
  · rw [n32_ge hn0, Bool.true_and, zd_lt hn0 (by omega), z_nat hn0]
    by_cases h : n < cn c
    · rw [decide_eq_true h, if_pos rfl, Bool.true_and, if_pos (by rw [z_inb hn0]; omega), (hc.2.2.2.2.2.2.1 n h).1, (hc.2.2.2.2.2.2.1 n h).2, show (34 : Int32) = n32 34 from rfl, zi_eq (by have := hop n h; omega) (by decide)]
      by_cases h1 : cop c n = 34
      · rw [if_pos h1, show (cop c n == 34) = true from by rw [beq_iff_eq]; exact h1, Bool.true_and, if_pos (by rw [z_inb hn0]; omega)]
        by_cases h2 : cx c n = n32 b
        · rw [if_pos h2, show (cx c n == n32 b) = true from by rw [beq_iff_eq]; exact h2]; rfl
        · rw [if_neg h2, show (cx c n == n32 b) = false from beq_eq_false_iff_ne.mpr h2]; rfl
      · rw [if_neg h1, show (cop c n == 34) = false from beq_eq_false_iff_ne.mpr h1, Bool.false_and]; rfl
    · rw [decide_eq_false h, if_neg (by decide), Bool.false_and, Bool.false_and]; rfl
theorem m_init {S : St} {y : Ms} {b : Nat} (L : LM E M f) (hA : EI A) (hs : cst A.2.2 = true) (hfu : 30 ≤ fu) (hb : b < A.1.1) (hb2 : 2 ≤ b) (v : VM E S M f A y) : Hv E M f A S (sp_X7_initialize fu E S M (n32 b)) (aInit A b y) := by
  have hd := hA.1
  have hme := hA.2.2.1 hs
  have h30 := hA.2.1.2.1
  have h20 := hd.2.1
  have mo := hA.2.1.2.2.2 _ hme
  unfold sp_X7_initialize aInit bnd
  dsimp only
  rw [v.1.2.2.2.1, if_pos (by rw [z_inb (by omega)]; omega), z_nat (by omega), (v.1.2.1.2.2.2 _ hme).1]
  refine hw_bind (m_pop L v) (fun S1 v1 => ?_)
  dsimp only
  generalize hown : mown A.2.1 (cme A.2.2) = own at mo
  generalize (aPop y).1 = o
  -- behind the test
  have fin : ∀ (t c : Bool), (t = (o == -4)) → Hv E M f A S1 (jb_X7_initialize_95 fu E M (n32 b) (n32 own) o (b2 t) (b2 c) S1) (if (aReq c 4 (aPop y).2).2 = 0 then ((rep o (n32 (8 * (if o = -4 then own else b))) (aReq c 4 (aPop y).2).1.1, rep o (n32 (8 * (if o = -4 then own else b))) (aReq c 4 (aPop y).2).1.2.1, (aReq c 4 (aPop y).2).1.2.2.1, (aReq c 4 (aPop y).2).1.2.2.2 && !(o == -4)), 0) else aReq c 4 (aPop y).2) := by
    intro t c ht
    unfold jb_X7_initialize_95
    refine hv_bind (m_req L v1 c 4) (fun S2 v2 => ?_)
    rw [v2.2.2.1]
    by_cases he : (aReq c 4 (aPop y).2).2 = 0
    · rw [if_pos he, if_pos he, b2_if, ← ht]
      cases t with
      | true =>
        have e4 : o = -4 := by
          have := ht.symm
          rw [beq_iff_eq] at this
          exact this
        rw [if_pos rfl, if_pos e4]
        exact m_ini121 (t := true) L hfu he (isTb (by omega)) v2
      | false =>
        have e4 : ¬ o = -4 := beq_eq_false_iff_ne.mp ht.symm
        rw [if_neg (by decide), if_neg e4]
        exact m_ini121 (t := false) L hfu he (isTb hb) v2
    · rw [if_neg he, if_neg he]
      exact hv_some v2
  by_cases h4 : o = -4
  · rw [if_pos h4, if_pos h4, if_pos h4]
    unfold jb_X7_initialize_32
    rw [if_neg (by decide), zi_eq (by omega) (by omega)]
    have ht : true = (o == -4) := by rw [h4]; rfl
    by_cases h5 : b = own
    · rw [if_pos h5, show (b == own || (decide (3 ≤ own) && b == A.1.2.1 own)) = true from by rw [h5]; simp]
      have := fin true true ht
      rw [if_pos h4] at this
      exact this
    · rw [if_neg h5, if_pos (by rw [z_inb (by omega)]; omega), z_nat (by omega), show (b == own) = false from beq_eq_false_iff_ne.mpr h5, Bool.false_or]
      by_cases h3 : 3 ≤ own
      · have hs3 := hd.2.2.1 own h3 mo.2.1
        rw [v1.1.1.2.2.1 own h3 mo.2.1, zi_eq (by omega) (by omega), decide_eq_true h3, Bool.true_and]
        by_cases h6 : b = A.1.2.1 own
        · rw [if_pos h6, show (b == A.1.2.1 own) = true from by rw [beq_iff_eq]; exact h6]
          have := fin true true ht
          rw [if_pos h4] at this
          exact this
        · rw [if_neg h6, show (b == A.1.2.1 own) = false from beq_eq_false_iff_ne.mpr h6]
          have := fin true false ht
          rw [if_pos h4] at this
          exact this
      · rw [v1.1.1.2.1 own (by omega), zi_ne1 (by omega), decide_eq_false h3, Bool.false_and]
        have := fin true false ht
        rw [if_pos h4] at this
        exact this
  · rw [if_neg h4, if_neg h4, if_neg h4]
    unfold jb_X7_initialize_32
    have ht : false = (o == -4) := (beq_eq_false_iff_ne.mpr h4).symm
    rw [if_pos rfl]
    by_cases h5 : (-10 : Int32) < o
    · rw [if_pos h5, show decide (o ≤ -10) = false from decide_eq_false (by rw [z_l32]; rw [z_i32] at h5; omega), Bool.false_and]
      have := fin false false ht
      rw [if_neg h4] at this
      exact this
    · rw [if_neg h5, show decide (o ≤ -10) = true from decide_eq_true (by rw [z_l32]; rw [z_i32] at h5; omega), Bool.true_and, m_cre v1.1.2.2 hA.2.2.2.2.2.1 hA.2.2.2.2.2.2.2.1, Option.bind_some, b2_if]
      cases isCre A.2.2 (-10 - o) b with
      | false =>
        rw [if_neg (by decide)]
        have := fin false false ht
        rw [if_neg h4] at this
        exact this
      | true =>
        rw [if_pos rfl]
        have := fin false true ht
        rw [if_neg h4] at this
        exact this
def pm (k : Nat) : Int32 := if k = 0 then -1 else n32 (k - 1)
theorem pm_sub {k : Nat} : n32 k - 1 = pm k := by
  unfold pm
  by_cases h : k = 0
  · rw [if_pos h, h]; decide
  · rw [if_neg h]; exact z_sub (b := 1) (by omega)
theorem pm_add {k : Nat} : n32 k + -1 = pm k := by rw [← pm_sub, Int32.sub_eq_add_neg]
theorem m_callL (L : LM E M f) (hA : EI A) (hs : cst A.2.2 = true) (hfu : 30 ≤ fu) {op m : Nat} (hop : op ≤ 45) (hm : m < mcnt A.2.1) (h35 : op = 35 → True) : ∀ (k F : Nat) (S : St) (y : Ms), k ≤ mpcn A.2.1 m → k + 1 ≤ F → VM E S M f A y → Hv E M f A S (lp_X7_call_12 fu E M F (n32 op) (n32 m) (pm k) S) (if op = 35 then aInit A (mown A.2.1 m) (aPars A.1 (mpty A.2.1 m) k y) else if mres A.2.1 m = -1 then (if op = 36 then aPopT A.1 (n32 (8 * mown A.2.1 m)) (aPars A.1 (mpty A.2.1 m) k y) else aPars A.1 (mpty A.2.1 m) k y) else aPushT (cmost A.2.2) (mres A.2.1 m) (if op = 36 then aPopT A.1 (n32 (8 * mown A.2.1 m)) (aPars A.1 (mpty A.2.1 m) k y) else aPars A.1 (mpty A.2.1 m) k y)) := by
  have hd := hA.1
  have h30 := hA.2.1.2.1
  have h20 := hd.2.1
  have hmx := hA.2.2.2.1
  have mo := hA.2.1.2.2.2 m hm
  intro k
  induction k with
  | zero =>
    intro F S y hk hF v
    obtain ⟨F, rfl⟩ : ∃ z, F = z + 1 := ⟨F - 1, by omega⟩
    show Hv E M f A S (bd_X7_call_12 fu E M _ (n32 op) (n32 m) (pm 0) S) _
    unfold bd_X7_call_12
    have tail : ∀ (S1 : St) (w : Ms), VM E S1 M f A w → Hv E M f A S1 (jb_X7_call_77 fu E M (n32 m) S1) (if mres A.2.1 m = -1 then w else aPushT (cmost A.2.2) (mres A.2.1 m) w) := by
      intro S1 w v1
      unfold jb_X7_call_77
      rw [if_pos (by rw [z_inb (by omega)]; omega), z_nat (by omega), (v1.1.2.1.2.2.2 m hm).2.2.1]
      by_cases h : mres A.2.1 m = -1
      · rw [if_pos h, if_pos h]
        exact hv_some v1
      · rw [if_neg h, if_neg h, if_pos (by rw [z_inb (by omega)]; omega)]
        refine hv_id (m_pushT L hmx v1 ?_)
        rcases mo.2.2.2.1 with e | ⟨n, e, hn⟩
        · exact absurd e h
        · rw [e]; exact sv_n hn
    show Hv E M f A S (if (-1 : Int32) < 0 then _ else _) _
    rw [if_pos (show (-1 : Int32) < 0 by decide)]
    by_cases h1 : op = 35
    · subst h1
      rw [if_pos (show n32 35 = 35 from rfl), if_pos rfl, if_pos (by rw [z_inb (by omega)]; omega), z_nat (by omega), (v.1.2.1.2.2.2 m hm).1]
      exact hv_id (m_init L hA hs hfu mo.2.1 mo.1 v)
    rw [if_neg (op_ne (k := 35) hop (by decide) h1), if_neg h1]
    by_cases h2 : op = 36
    · subst h2
      rw [if_pos (show n32 36 = 36 from rfl), if_pos rfl, if_pos (by rw [z_inb (by omega)]; omega), z_nat (by omega), (v.1.2.1.2.2.2 m hm).1, show (8 : Int32) * n32 (mown A.2.1 m) = n32 (8 * mown A.2.1 m) from z_mul 8 _]
      exact hv_bind (m_popT L hd hfu v (sv_n (isTb mo.2.1))) (fun S1 v1 => tail S1 _ v1)
    rw [if_neg (op_ne (k := 36) hop (by decide) h2), if_neg h2]
    exact tail S _ v
  | succ k ih =>
    intro F S y hk hF v
    obtain ⟨F, rfl⟩ : ∃ z, F = z + 1 := ⟨F - 1, by omega⟩
    show Hv E M f A S (bd_X7_call_12 fu E M _ (n32 op) (n32 m) (n32 k) S) _
    unfold bd_X7_call_12
    have hp : sp_X8_parameterType fu E S (E.2 M 1) (n32 m) (n32 k) = some (n32 (mpty A.2.1 m k), S) := by
      unfold sp_X8_parameterType
      rw [show n32 m * 6 + n32 k = n32 (6 * m + k) from by rw [show n32 m * 6 = n32 (m * 6) from z_mul m 6, z_add, Nat.mul_comm], if_pos (by rw [z_inb (by omega)]; omega), z_nat (by omega), (v.1.2.1.2.2.2 m hm).2.2.2.2.2 k (by omega)]
    rw [zi_nlt (by omega), hp, Option.bind_some, pm_add]
    refine hv_bind (m_popT L hd hfu v (sv_n (mo.2.2.2.2.2.2 k (by omega)))) (fun S1 v1 => ?_)
    exact ih F S1 _ (by omega) (by omega) v1
theorem m_call {S : St} {y : Ms} (L : LM E M f) (hA : EI A) (hs : cst A.2.2 = true) (hfu : 30 ≤ fu) {op m : Nat} (hop : op ≤ 45) (hm : m < mcnt A.2.1) (v : VM E S M f A y) : Hv E M f A S (sp_X7_call fu E S M (n32 op) (n32 m)) (aCall A op m y) := by
  have h30 := hA.2.1.2.1
  have mo := hA.2.1.2.2.2 m hm
  unfold sp_X7_call aCall bnd
  dsimp only
  rw [if_pos (by rw [z_inb (by omega)]; omega), z_nat (by omega), (v.1.2.1.2.2.2 m hm).2.2.2.1, pm_sub]
  exact m_callL L hA hs hfu hop hm (fun _ => trivial) _ fu S y (Nat.le_refl _) (by omega) v
theorem m_exec {S : St} {x : Fr} {i : Nat} (L : LM E M f) (hA : EI A) (hs : cst A.2.2 = true) (hfu : 30 ≤ fu) (henv : VEnv E S (E.2 M 0) (E.2 M 1) (E.2 M 2) A) (vf : VF E S f x) (wf : WFr A.1 x) (hi : i < cn A.2.2) (hx : okX A (cop A.2.2 i) (cx A.2.2 i)) : Hw E M f A S (sp_X7_execute fu E S M (n32 i) f) (aExec A i x).2 (aExec A i x) := by
  have h100 := hA.2.2.2.2.2.1
  have hop := hA.2.2.2.2.2.2.2.1 i hi
  have v0 : VM E (sF (sR S M 3 f) M 4 0) M f A (x, 0) ∧ Ag (PM E M f) S (sF (sR S M 3 f) M 4 0) := by
    have ag : Ag (PM E M f) S (sF (sR S M 3 f) M 4 0) := Ag_trans (Ag_mono sR_ag (fun q z => Or.inl z)) (Ag_mono sF_ag (fun q z => Or.inl z))
    have n : ∀ a ci, E.1 a = some (0, ci, 0) → ci ≠ 2 → ci ≠ 6 → NoP E (PM E M f) a ci := fun a ci ha h2 h6 => nop_or (nop_one L.1 L.2.2.1 ha h6) (nop_PF L.1 L.2.1 L.2.2.2 ha h2)
    refine ⟨⟨venv_ag henv ag (n _ 8 L.T (by decide) (by decide)) (n _ 7 L.B (by decide) (by decide)) (n _ 0 L.C (by decide) (by decide)), up2_s _ _, up2_s _ _, ⟨vf.1, vf.2.1, ?_, ?_⟩, wf⟩, ag⟩
    · exact (up2_n _ _ (fun e => L.ne e.1)).trans vf.2.2.1
    · exact (up2_n _ _ (fun e => L.ne e.1)).trans vf.2.2.2
  unfold sp_X7_execute bnd
  dsimp only
  obtain ⟨v0, a0⟩ := v0
  revert v0 a0
  generalize sF (sR S M 3 f) M 4 0 = S2
  intro v0 a0
  rw [if_pos (by rw [z_inb (by omega)]; omega), if_pos (by rw [z_inb (by omega)]; omega), z_nat (by omega), (v0.1.2.2.2.2.2.2.2.2.1 i hi).1, (v0.1.2.2.2.2.2.2.2.2.1 i hi).2]
  have fin : ∀ {o : Option St} {y : Ms}, Hv E M f A S2 o y → Hw E M f A S (o.bind fun u => some (u.1 M 4, u)) y.2 y := by
    intro o y h
    obtain ⟨S3, rfl, v3, a3⟩ := h
    exact ⟨S3, by rw [Option.bind_some, v3.2.2.1], v3, Ag_trans a0 a3⟩
  unfold aExec
  dsimp only
  generalize hop' : cop A.2.2 i = op at hop hx
  generalize cx A.2.2 i = xx at hx
  unfold jb_X7_execute_43 jb_X7_execute_134
  have cl : ∀ k, k ≤ 45 → (n32 op ≤ n32 k) = (op ≤ k) := fun k hk => z_le (by omega) (by omega)
  have ct : ∀ k, k ≤ 45 → (n32 k < n32 op) = (k < op) := fun k hk => z_lt (by omega) (by omega)
  have cu : ∀ k, k ≤ 45 → (n32 op < n32 k) = (op < k) := fun k hk => z_lt (by omega) (by omega)
  by_cases h9 : op ≤ 9
  · rw [if_pos (show n32 op ≤ 9 from by rw [show (9 : Int32) = n32 9 from rfl, cl 9 (by decide)]; exact h9), if_pos (Or.inl h9)]
    exact fin (m_local L hA hfu hop hx v0)
  rw [if_neg (show ¬ n32 op ≤ 9 from by rw [show (9 : Int32) = n32 9 from rfl, cl 9 (by decide)]; exact h9)]
  by_cases h21 : op = 21
  · rw [if_pos (show n32 op = 21 from by rw [h21]; rfl), if_pos (Or.inr h21)]
    exact fin (m_local L hA hfu hop hx v0)
  rw [if_neg (op_ne (k := 21) hop (by decide) h21), if_neg (show ¬ (op ≤ 9 ∨ op = 21) from fun z => z.elim h9 h21)]
  by_cases h15 : 15 < op
  · rw [if_pos (show (15 : Int32) < n32 op from by rw [show (15 : Int32) = n32 15 from rfl, ct 15 (by decide)]; exact h15), if_neg (show ¬ op ≤ 15 by omega)]
    by_cases h26 : 26 < op
    · rw [if_pos (show (26 : Int32) < n32 op from by rw [show (26 : Int32) = n32 26 from rfl, ct 26 (by decide)]; exact h26), if_neg (show ¬ op ≤ 26 by omega)]
      by_cases h31 : 31 < op
      · rw [if_pos (show (31 : Int32) < n32 op from by rw [show (31 : Int32) = n32 31 from rfl, ct 31 (by decide)]; exact h31), if_neg (show ¬ op ≤ 31 by omega)]
        by_cases h34 : op = 34
        · rw [if_pos (show n32 op = 34 from by rw [h34]; rfl), if_pos h34]
          refine fin (m_new L hA hfu (Or.inr (Or.inr ?_)) v0)
          have e1 : (-10 - n32 i : Int32).toInt = -10 - i := by
            rw [Int32.toInt_sub, z_int (by omega)]
            have : (-10 : Int32).toInt = -10 := by decide
            rw [this]
            show (-10 - (i : Int)).bmod (2 ^ 32) = _
            rw [Int.bmod_eq_of_le (by omega) (by omega)]
          rw [e1]
          omega
        · rw [if_neg (op_ne (k := 34) hop (by decide) h34), if_neg h34]
          have obj : op = 32 ∨ op = 33 ∨ op = 44 ∨ op = 45 → Hw E M f A S ((sp_X7_executeObject fu E S2 M (n32 op) xx).bind fun u => some (u.1 M 4, u)) (aObj A op xx (x, 0)).2 (aObj A op xx (x, 0)) := fun h => fin (m_obj L hA hs hfu hop hx h v0)
          by_cases h35 : op < 35
          · rw [if_pos (show n32 op < 35 from by rw [show (35 : Int32) = n32 35 from rfl, cu 35 (by decide)]; exact h35), if_pos (show n32 op < 38 from by rw [show (38 : Int32) = n32 38 from rfl, cu 38 (by decide)]; omega), if_neg (show ¬ (35 ≤ op ∧ op ≤ 37) by omega), if_neg (show ¬ (38 ≤ op ∧ op ≤ 43) by omega)]
            exact obj (by omega)
          · rw [if_neg (show ¬ n32 op < 35 from by rw [show (35 : Int32) = n32 35 from rfl, cu 35 (by decide)]; exact h35)]
            by_cases h37 : 37 < op
            · rw [if_pos (show (37 : Int32) < n32 op from by rw [show (37 : Int32) = n32 37 from rfl, ct 37 (by decide)]; exact h37), if_neg (show ¬ n32 op < 38 from by rw [show (38 : Int32) = n32 38 from rfl, cu 38 (by decide)]; omega), if_neg (show ¬ (35 ≤ op ∧ op ≤ 37) by omega)]
              by_cases h43 : 43 < op
              · rw [if_pos (show (43 : Int32) < n32 op from by rw [show (43 : Int32) = n32 43 from rfl, ct 43 (by decide)]; exact h43), if_neg (show ¬ (38 ≤ op ∧ op ≤ 43) by omega)]
                exact obj (by omega)
              · rw [if_neg (show ¬ (43 : Int32) < n32 op from by rw [show (43 : Int32) = n32 43 from rfl, ct 43 (by decide)]; exact h43), if_pos (show 38 ≤ op ∧ op ≤ 43 by omega)]
                exact fin (m_arr L hA hfu hop hx v0)
            · rw [if_neg (show ¬ (37 : Int32) < n32 op from by rw [show (37 : Int32) = n32 37 from rfl, ct 37 (by decide)]; exact h37), if_pos (show 35 ≤ op ∧ op ≤ 37 by omega)]
              obtain ⟨m, rfl, hm, -⟩ := hx.2.2.2.2.2.1 (by omega)
              rw [z_nat (by have := hA.2.1.2.1; omega)]
              exact fin (m_call L hA hs hfu hop hm v0)
      · rw [if_neg (show ¬ (31 : Int32) < n32 op from by rw [show (31 : Int32) = n32 31 from rfl, ct 31 (by decide)]; exact h31), if_pos (show op ≤ 31 by omega)]
        exact fin (m_end L hA hs hfu hop v0)
    · rw [if_neg (show ¬ (26 : Int32) < n32 op from by rw [show (26 : Int32) = n32 26 from rfl, ct 26 (by decide)]; exact h26), if_pos (show op ≤ 26 by omega)]
      exact fin (m_num L hA hfu hop v0)
  · rw [if_neg (show ¬ (15 : Int32) < n32 op from by rw [show (15 : Int32) = n32 15 from rfl, ct 15 (by decide)]; exact h15), if_pos (show op ≤ 15 by omega)]
    exact fin (m_move L hA hop v0)
end MC
