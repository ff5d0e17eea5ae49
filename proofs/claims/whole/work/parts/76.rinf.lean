/-! the reference infers -/
section RIN
variable {E : Ev} {S : St} {m fu : Nat} {A : Enw}
theorem gHd_I {A : Enw} {i : Nat} {f : Fr} : ∀ (k h : Nat) (s : Ist), gHd A (flw A.1) i f h k s = aHdI A i f h k s
  | 0, _, _ => rfl
  | k + 1, h, s => by
    show (if prot A.2.2 h i = true then (if cmost A.2.2 = 0 then ((6 : Int32), s) else if (flw A.1 (cauF A.2.2 h f) (tgt A.2.2 h) s).1 = 0 then gHd A (flw A.1) i f (h + 1) k (flw A.1 (cauF A.2.2 h f) (tgt A.2.2 h) s).2 else (flw A.1 (cauF A.2.2 h f) (tgt A.2.2 h) s)) else gHd A (flw A.1) i f (h + 1) k s) = (if prot A.2.2 h i = true then (if cmost A.2.2 = 0 then ((6 : Int32), s) else if (flw A.1 (cauF A.2.2 h f) (tgt A.2.2 h) s).1 = 0 then aHdI A i f (h + 1) k (flw A.1 (cauF A.2.2 h f) (tgt A.2.2 h) s).2 else (flw A.1 (cauF A.2.2 h f) (tgt A.2.2 h) s)) else aHdI A i f (h + 1) k s)
    rw [gHd_I k (h + 1) (flw A.1 (cauF A.2.2 h f) (tgt A.2.2 h) s).2, gHd_I k (h + 1) s]
theorem gPr_I {A : Enw} {i : Nat} {f : Fr} {s : Ist} : gPr A (flw A.1) (flw A.1) i f s = aPrI A i f s := by
  unfold gPr aPrI
  rw [gHd_I]
  rfl
def QI (E : Ev) (m : Nat) (A : Enw) (S : St) (s : Ist) : Prop := VRI E S m s.1 ∧ VRP E S m s.2 ∧ TWX A s.1 ∧ S.1 m 38 = 0
theorem vri_ag (L : LR E m) {S' : St} {fs rs : List Nat} {tb : Nat → Option Fr} (v : VRI E S m tb) (h : AgL E m fs rs S S') (h0 : rs.all isA10 = true) (h1 : rs.contains 28 = false) (h2 : rs.contains 29 = false) : VRI E S' m tb := by
  have e1 := agl_a L h (j := 28) rfl h0 h1
  have e2 := agl_a L h (j := 29) rfl h0 h2
  refine ⟨fun i hi => by rw [e1]; exact v.1 i hi, fun i x hi hx => ?_⟩
  have w := v.2 i x hi hx
  exact ⟨fun q hq => by rw [e2]; exact w.1 q hq, fun q hq => by rw [e2]; exact w.2.1 q hq, by rw [e2]; exact w.2.2.1, by rw [e2]; exact w.2.2.2⟩
theorem vrp_ag (L : LR E m) {S' : St} {fs rs : List Nat} {pd : Nat → Bool} (v : VRP E S m pd) (h : AgL E m fs rs S S') (h0 : rs.all isA10 = true) (h1 : rs.contains 42 = false) : VRP E S' m pd := fun i hi => by
  rw [agl_a L h (j := 42) rfl h0 h1]; exact v i hi
theorem mrg_flw (L : LR E m) (hA : EI A) (hfu : 200 ≤ fu) {aj t : Nat} {y : Fr} {s : Ist} (ht : t < 100) (haj : aj = 39 ∨ aj = 40) (v : VRe E S m A) (q : QI E m A S s) (vy : VNj E S m aj y) (wy : WX A y) (h35 : S.1 m 35 = 0) : ∃ S', sp_X12_merge fu E S m (E.2 m aj) (n32 t) = some S' ∧ AgL E m [35, 36, 41] [28, 29, 42] S S' ∧ S'.1 m 35 = (flw A.1 y t s).1 ∧ 0 ≤ (flw A.1 y t s).1 ∧ S'.1 m 36 = (if (flw A.1 y t s).1 = 0 then S.1 m 36 else S.1 m 43) ∧ QI E m A S' (flw A.1 y t s).2 := by
  obtain ⟨S', e, a, k8, k0⟩ := r_merge (fu := fu) L hA hfu ht haj v q.1 q.2.1 q.2.2.1 vy wy h35
  refine ⟨S', e, agl_mono a (by decide) (by decide), ?_⟩
  rcases flw_8 (d := A.1) (y := y) (t := t) (s := s) with ⟨w0, ws⟩ | ⟨w8, wn⟩
  · have k := k0 _ ws
    rw [w0]
    exact ⟨k.1, Int32.le_refl _, by rw [if_pos rfl]; exact k.2.1, ⟨k.2.2.1, k.2.2.2, aFlow_wx hA.1 q.2.2.1 wy ht ws, by rw [agl_f a rfl]; exact q.2.2.2⟩⟩
  · have k := k8 wn
    rw [w8]
    refine ⟨k.1, by decide, by rw [if_neg (show ¬ (8 : Int32) = 0 by decide)]; exact k.2.1, ?_⟩
    rw [show (flw A.1 y t s).2 = s from by unfold flw; rw [wn]]
    exact ⟨k.2.2.1, k.2.2.2, q.2.2.1, by rw [agl_f a rfl]; exact q.2.2.2⟩
theorem rf1_I (L : LR E m) (hA : EI A) (hfu : 200 ≤ fu) : RF1 E m fu A (QI E m A) (flw A.1) := by
  intro S s y t aj haj v q h35 vy wy ht
  obtain ⟨S', e, r⟩ := mrg_flw (fu := fu) L hA hfu ht haj v q vy wy h35
  refine ⟨S', ?_, r⟩
  unfold sp_X12_flow
  rw [rx_well, Option.bind_some, h35, b2_if]
  dsimp only
  rw [if_pos (show ((0 : Int32) == 0) = true from rfl), if_pos q.2.2.2, e, Option.bind_some]
theorem rf2_I (L : LR E m) (hA : EI A) (hfu : 200 ≤ fu) : RF2 E m fu A (QI E m A) (flw A.1) := by
  intro S s y t k v q h35 vy wy ht
  obtain ⟨S', e, r⟩ := mrg_flw (fu := fu) L hA hfu ht (Or.inl rfl) v q vy wy h35
  refine ⟨S', ?_, r⟩
  rw [if_pos q.2.2.2, e, Option.bind_some]
theorem rf3_I (L : LR E m) : RF3 E m (QI E m A) := fun S S' s q a => ⟨vri_ag L q.1 a rfl rfl rfl, vrp_ag L q.2.1 a rfl rfl, q.2.2.1, by rw [agl_f a rfl]; exact q.2.2.2⟩
/-- the next pending -/
theorem r_nxtE (hn : cn A.2.2 ≤ 100) (v : VRe E S m A) : ∀ (k i F : Nat), i + k = cn A.2.2 → k + 1 ≤ F → ∃ x, lp_X12_nextPending_2 fu E m F (n32 i) S = some (x, S) := by
  have h19 : S.1 m 19 = n32 (cn A.2.2) := v.2.2.2.2.2.2.1
  intro k
  induction k with
  | zero =>
    intro i F hk hF
    obtain ⟨F, rfl⟩ : ∃ z, F = z + 1 := ⟨F - 1, by omega⟩
    show ∃ x, bd_X12_nextPending_2 fu E m _ (n32 i) S = some (x, S)
    unfold bd_X12_nextPending_2 jb_X12_nextPending_25
    rw [h19, zi_le (by omega) (by omega), if_pos (by omega), zi_le (by omega) (by omega), if_pos (by omega)]
    exact ⟨_, rfl⟩
  | succ k ih =>
    intro i F hk hF
    obtain ⟨F, rfl⟩ : ∃ z, F = z + 1 := ⟨F - 1, by omega⟩
    have hin : inb (n32 i) 100 = true := by rw [z_inb (by omega)]; omega
    show ∃ x, bd_X12_nextPending_2 fu E m (lp_X12_nextPending_2 fu E m F) (n32 i) S = some (x, S)
    unfold bd_X12_nextPending_2 jb_X12_nextPending_25
    rw [h19, zi_le (by omega) (by omega), if_neg (show ¬ cn A.2.2 ≤ i by omega), if_pos hin, zi_le (by omega) (by omega), if_neg (show ¬ cn A.2.2 ≤ i by omega), show n32 i + 1 = n32 (i + 1) from z_add i 1]
    split
    · exact ih (i + 1) F (by omega) (by omega)
    · exact ⟨_, rfl⟩
theorem r_nxt (hn : cn A.2.2 ≤ 100) (v : VRe E S m A) {pd : Nat → Bool} (vp : VRP E S m pd) : ∀ (k i F : Nat), i + k = cn A.2.2 → k + 1 ≤ F → lp_X12_nextPending_2 fu E m F (n32 i) S = (match fstP pd i k with | none => some (-1, S) | some t => some (n32 t, S)) := by
  have h19 : S.1 m 19 = n32 (cn A.2.2) := v.2.2.2.2.2.2.1
  intro k
  induction k with
  | zero =>
    intro i F hk hF
    obtain ⟨F, rfl⟩ : ∃ z, F = z + 1 := ⟨F - 1, by omega⟩
    show bd_X12_nextPending_2 fu E m _ (n32 i) S = some (-1, S)
    unfold bd_X12_nextPending_2 jb_X12_nextPending_25
    rw [h19, zi_le (by omega) (by omega), if_pos (by omega), zi_le (by omega) (by omega), if_pos (by omega)]
  | succ k ih =>
    intro i F hk hF
    obtain ⟨F, rfl⟩ : ∃ z, F = z + 1 := ⟨F - 1, by omega⟩
    have hin : inb (n32 i) 100 = true := by rw [z_inb (by omega)]; omega
    show bd_X12_nextPending_2 fu E m (lp_X12_nextPending_2 fu E m F) (n32 i) S = (match (if pd i = true then some i else fstP pd (i + 1) k) with | none => some (-1, S) | some t => some (n32 t, S))
    unfold bd_X12_nextPending_2 jb_X12_nextPending_25
    rw [h19, zi_le (by omega) (by omega), if_neg (show ¬ cn A.2.2 ≤ i by omega), if_pos hin, zi_le (by omega) (by omega), if_neg (show ¬ cn A.2.2 ≤ i by omega), show n32 i + 1 = n32 (i + 1) from z_add i 1, z_nat (show i < 2 ^ 31 by omega), vp i (by omega), b2_if]
    by_cases c : pd i = true
    · rw [if_pos c, if_pos c]
    · rw [if_neg c, if_neg c]; exact ih (i + 1) F (by omega) (by omega)
/-- a frame is taken from the table -/
theorem r_cpyN (L : LR E m) (rc : Int32 → St → Option St) {i : Nat} (hi : i < 100) : ∀ (j q F : Nat) (S : St), q + j = 26 → j + 1 ≤ F → (∀ z, z < q → S.2.1 (E.2 m 39) z = S.2.1 (E.2 m 29) (26 * i + z)) → ∃ S', lp_X12_run_59 fu E m rc F (n32 i) (n32 q) S = ((sp_X12_process fu E S' m (n32 i)).bind fun u9 => (sp_X12_nextPending fu E u9 m).bind fun u10 => rc u10.1 u10.2) ∧ (∀ z, z < 26 → S'.2.1 (E.2 m 39) z = S.2.1 (E.2 m 29) (26 * i + z)) ∧ AgL E m [] [39] S S' := by
  have n1 : E.2 m 29 ≠ E.2 m 39 := lr_ne L rfl rfl (by decide)
  intro j
  induction j with
  | zero =>
    intro q F S hq hF h
    obtain ⟨F, rfl⟩ : ∃ z, F = z + 1 := ⟨F - 1, by omega⟩
    show ∃ S', bd_X12_run_59 fu E m rc _ (n32 i) (n32 q) S = _ ∧ _
    unfold bd_X12_run_59
    rw [show (26 : Int32) = n32 26 from rfl, zi_le (by decide) (by omega), if_pos (by omega)]
    exact ⟨S, rfl, fun z hz => h z (by omega), agl_refl⟩
  | succ j ih =>
    intro q F S hq hF h
    obtain ⟨F, rfl⟩ : ∃ z, F = z + 1 := ⟨F - 1, by omega⟩
    show ∃ S', bd_X12_run_59 fu E m rc (lp_X12_run_59 fu E m rc F) (n32 i) (n32 q) S = _ ∧ _
    unfold bd_X12_run_59 bnd
    dsimp only
    rw [show (26 : Int32) = n32 26 from rfl, zi_le (by decide) (by omega), if_neg (by omega), show n32 26 * n32 i = n32 (26 * i) from z_mul 26 i, z_add, if_pos (by rw [z_inb (by omega)]; omega), if_pos (by rw [z_inb (by omega)]; omega), z_nat (show 26 * i + q < 2 ^ 31 by omega), z_nat (show q < 2 ^ 31 by omega), show n32 q + 1 = n32 (q + 1) from z_add q 1]
    have f29 : ∀ z, (sG S (E.2 m 39) q (S.2.1 (E.2 m 29) (26 * i + q))).2.1 (E.2 m 29) z = S.2.1 (E.2 m 29) z := fun z => up2_n _ _ (fun e => n1 e.1)
    obtain ⟨S', e, r, a⟩ := ih (q + 1) F (sG S (E.2 m 39) q (S.2.1 (E.2 m 29) (26 * i + q))) (by omega) (by omega) (fun z hz => by
      rw [f29]
      show up2 S.2.1 (E.2 m 39) q _ (E.2 m 39) z = _
      by_cases c : z = q
      · rw [c, up2_s]
      · rw [up2_n _ _ (fun u => c u.2)]; exact h z (by omega))
    exact ⟨S', e, fun z hz => (r z hz).trans (f29 _), agl_trans (agl_sG (by decide)) a⟩
/-- the reference between two instructions -/
def RS (E : Ev) (m : Nat) (A : Enw) (S : St) (y : Rst) : Prop := VRe E S m A ∧ S.1 m 35 = y.1.1 ∧ 0 ≤ y.1.1 ∧ S.1 m 36 = y.2.2 ∧ (y.1.1 = 0 → y.2.2 = -1) ∧ S.1 m 37 = n32 y.2.1 ∧ (y.1.1 = 0 → QI E m A S y.1.2)
theorem r_39E {F : Nat} {x : Int32} (h : S.1 m 35 ≠ 0) : lp_X12_run_39 fu E m (F + 1) x S = some S := by
  show bd_X12_run_39 fu E m _ x S = some S
  unfold bd_X12_run_39
  rw [rx_well, Option.bind_some, show (S.1 m 35 == 0) = false from beq_eq_false_iff_ne.mpr h]
  dsimp only
  rw [if_pos (show b2 false = 0 from rfl), ite_self]
theorem r_run (L : LR E m) (hA : EI A) (hs : cst A.2.2 = true) (hG : Good A) (hfu : 200 ≤ fu) : ∀ (n F : Nat) (S : St) (y : Rst), n + 1 ≤ F → RS E m A S y → InvI A y.1.2 n → ∃ S', ((sp_X12_nextPending fu E S m).bind fun u => lp_X12_run_39 fu E m F u.1 u.2) = some S' ∧ AgL E m [35, 36, 37, 41, 43] [28, 29, 39, 40, 42] S S' ∧ RS E m A S' (aRun A n y) := by
  have h100 := hA.2.2.2.2.2.1
  -- it stops
  have stopE : ∀ (F : Nat) (S : St) (y : Rst), 1 ≤ F → RS E m A S y → y.1.1 ≠ 0 → ((sp_X12_nextPending fu E S m).bind fun u => lp_X12_run_39 fu E m F u.1 u.2) = some S := by
    intro F S y hF v c
    obtain ⟨F, rfl⟩ : ∃ z, F = z + 1 := ⟨F - 1, by omega⟩
    obtain ⟨x, e⟩ := r_nxtE (fu := fu) h100 v.1 (cn A.2.2) 0 fu (by omega) (by omega)
    have e : sp_X12_nextPending fu E S m = some (x, S) := e
    rw [e, Option.bind_some]
    exact r_39E (by rw [v.2.1]; exact c)
  have stop0 : ∀ (F : Nat) (S : St) (y : Rst), 1 ≤ F → RS E m A S y → y.1.1 = 0 → fstP y.1.2.2 0 (cn A.2.2) = none → ((sp_X12_nextPending fu E S m).bind fun u => lp_X12_run_39 fu E m F u.1 u.2) = some S := by
    intro F S y hF v c hp
    obtain ⟨F, rfl⟩ : ∃ z, F = z + 1 := ⟨F - 1, by omega⟩
    have e := r_nxt (fu := fu) h100 v.1 (v.2.2.2.2.2.2 c).2.1 (cn A.2.2) 0 fu (by omega) (by omega)
    rw [hp] at e
    have e : sp_X12_nextPending fu E S m = some (-1, S) := e
    rw [e, Option.bind_some]
    show bd_X12_run_39 fu E m _ (-1) S = some S
    unfold bd_X12_run_39
    rw [if_pos (by decide)]
  intro n
  induction n with
  | zero =>
    intro F S y hF v iv
    show ∃ S', _ = some S' ∧ _ ∧ RS E m A S' y
    by_cases c : y.1.1 = 0
    · cases hp : fstP y.1.2.2 0 (cn A.2.2) with
      | none => exact ⟨S, stop0 F S y (by omega) v c hp, agl_refl, v⟩
      | some i =>
        have := fstP_some _ _ _ hp
        have p := phi_pos (s := y.1.2) (i := i) (by omega) this.2.2
        have := iv.2.2
        omega
    · exact ⟨S, stopE F S y (by omega) v c, agl_refl, v⟩
  | succ n ih =>
    intro F S y hF v iv
    have go : aRun A (n + 1) y = if y.1.1 = 0 then (match fstP y.1.2.2 0 (cn A.2.2) with
      | none => y
      | some i => match y.1.2.1 i with
        | none => y
        | some x => aRun A n (tak A y i x)) else y := rfl
    rw [go]
    by_cases c : y.1.1 = 0
    · rw [if_pos c]
      have q := v.2.2.2.2.2.2 c
      cases hp : fstP y.1.2.2 0 (cn A.2.2) with
      | none => exact ⟨S, stop0 F S y (by omega) v c hp, agl_refl, v⟩
      | some i =>
        obtain ⟨_, hi, hpi⟩ := fstP_some _ _ _ hp
        have hi : i < cn A.2.2 := by omega
        have hin : inb (n32 i) 100 = true := by rw [z_inb (by omega)]; omega
        have hso := iv.2.1 i (by omega) hpi
        dsimp only
        cases hx : y.1.2.1 i with
        | none => rw [hx] at hso; cases hso
        | some x =>
          dsimp only
          obtain ⟨F, rfl⟩ : ∃ z, F = z + 1 := ⟨F - 1, by omega⟩
          have e := r_nxt (fu := fu) h100 v.1 q.2.1 (cn A.2.2) 0 fu (by omega) (by omega)
          rw [hp] at e
          have e : sp_X12_nextPending fu E S m = some (n32 i, S) := e
          rw [e, Option.bind_some]
          show ∃ S', bd_X12_run_39 fu E m (lp_X12_run_39 fu E m F) (n32 i) S = some S' ∧ _
          unfold bd_X12_run_39 bnd
          rw [zi_nlt (by omega), rx_well, Option.bind_some, v.2.1, c, b2_if]
          dsimp only
          rw [if_pos (show ((0 : Int32) == 0) = true from rfl), if_pos hin, z_nat (show i < 2 ^ 31 by omega)]
          have a1 : AgL E m [] [42] S (sG S (E.2 m 42) i 0) := agl_sG (by decide)
          have ve1 : VRe E (sG S (E.2 m 42) i 0) m A := vre_ag L v.1 (agl_mono a1 (fun _ z => absurd z List.not_mem_nil) (by decide))
          have vi1 : VRI E (sG S (E.2 m 42) i 0) m y.1.2.1 := vri_ag L q.1 a1 rfl rfl rfl
          have vp1 : VRP E (sG S (E.2 m 42) i 0) m (upB y.1.2.2 i false) := fun j hj => by
            show up2 S.2.1 (E.2 m 42) i 0 (E.2 m 42) j = b2 (if j = i then false else y.1.2.2 j)
            by_cases w : j = i
            · rw [if_pos w, w, up2_s]; rfl
            · rw [if_neg w, up2_n _ _ (fun z => w z.2)]; exact q.2.1 j hj
          generalize hS1 : sG S (E.2 m 42) i 0 = S1 at a1 ve1 vi1 vp1
          have q1 : QI E m A S1 (y.1.2.1, upB y.1.2.2 i false) := ⟨vi1, vp1, q.2.2.1, by rw [agl_f a1 rfl]; exact q.2.2.2⟩
          obtain ⟨S2, e2, r2, a2⟩ := r_cpyN (fu := fu) L (lp_X12_run_39 fu E m F) (show i < 100 by omega) 26 0 fu S1 rfl (by omega) (fun z hz => absurd hz (Nat.not_lt_zero z))
          have e2 : lp_X12_run_59 fu E m (lp_X12_run_39 fu E m F) fu (n32 i) 0 S1 = _ := e2
          rw [e2]
          have vx := vi1.2 i x (by omega) hx
          have wx := iv.1 i x (by omega) hx
          have h12 := wx.1.2.2
          have vn2 : VN E S2 m x := ⟨fun z hz => (r2 z (by omega)).trans (vx.1 z hz), fun z hz => (r2 (12 + z) (by omega)).trans (vx.2.1 z hz), (r2 24 (by decide)).trans vx.2.2.1, (r2 25 (by decide)).trans vx.2.2.2⟩
          have a2' := agl_mono (fs' := fsV) (rs' := rsV) a2 (fun _ z => absurd z List.not_mem_nil) (by decide)
          obtain ⟨iv1, iv2⟩ := inv_tak hA hs hG iv hi hpi hx
          have e36 : S2.1 m 36 = -1 := by rw [agl_f a2 rfl, agl_f a1 rfl, v.2.2.2.1]; exact v.2.2.2.2.1 c
          obtain ⟨S3, e3, a3, k3, j37, _⟩ := r_pr (fl := flw A.1) (nf := flw A.1) L hA hs hG hfu (rf1_I L hA hfu) (rf2_I L hA hfu) (rf3_I L) hi wx (vre_ag L ve1 a2') vn2 (rf3_I L S1 S2 _ q1 (agl_mono a2 (fun _ z => absurd z List.not_mem_nil) (by decide))) (by rw [agl_f a2 rfl, agl_f a1 rfl, v.2.1]; exact c) e36
          rw [e3, Option.bind_some]
          rw [gPr_I] at k3
          have v3 : RS E m A S3 (tak A y i x) := by
            refine ⟨k3.1, k3.2.2.1, k3.2.2.2.1, ?_, ?_, ?_, fun _ => k3.2.2.2.2.2⟩
            · rw [k3.2.2.2.2.1]
              show _ = (if (aPrI A i x (y.1.2.1, upB y.1.2.2 i false)).1 = 0 then y.2.2 else n32 i)
              rw [v.2.2.2.2.1 c]
            · intro z
              show (if (aPrI A i x (y.1.2.1, upB y.1.2.2 i false)).1 = 0 then y.2.2 else n32 i) = -1
              rw [if_pos (show (aPrI A i x (y.1.2.1, upB y.1.2.2 i false)).1 = 0 from z)]; exact v.2.2.2.2.1 c
            · rw [j37, agl_f a2 rfl, agl_f a1 rfl, v.2.2.2.2.2.1]; exact z_add _ 1
          obtain ⟨S4, e4, a4, k4⟩ := ih F S3 (tak A y i x) (by omega) v3 iv2
          refine ⟨S4, e4, agl_trans (agl_mono a1 (fun _ z => absurd z List.not_mem_nil) (by decide)) (agl_trans (agl_mono a2 (fun _ z => absurd z List.not_mem_nil) (by decide)) (agl_trans a3 a4)), k4⟩
    · rw [if_neg c]
      exact ⟨S, stopE F S y (by omega) v c, agl_refl, v⟩
end RIN
