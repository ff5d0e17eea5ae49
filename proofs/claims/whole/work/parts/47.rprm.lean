/-! the reference's machine: its cells, and what it does with the frame at hand -/
def LR (E : Ev) (m : Nat) : Prop := WE E ∧ Inj E ∧ E.1 m = some (0, 10, 0)
def VRb (E : Ev) (S : St) (m : Nat) (b : Mb) : Prop := S.1 m 4 = n32 (fcnt b) ∧ S.1 m 7 = n32 (mcnt b) ∧ (∀ i, i < fcnt b → S.2.1 (E.2 m 5) i = n32 (fown b i) ∧ S.2.1 (E.2 m 6) i = n32 (ftyp b i)) ∧ ∀ k, k < mcnt b → S.2.1 (E.2 m 8) k = n32 (mown b k) ∧ S.2.1 (E.2 m 9) k = n32 (mkin b k) ∧ S.2.1 (E.2 m 10) k = mres b k ∧ S.2.1 (E.2 m 11) k = n32 (mpcn b k) ∧ ∀ j, j < mpcn b k → S.2.1 (E.2 m 12) (6 * k + j) = n32 (mpty b k j)
def VRc (E : Ev) (S : St) (m : Nat) (c : Cd) : Prop := S.1 m 15 = b2 (cst c) ∧ S.1 m 16 = n32 (cme c) ∧ S.1 m 17 = n32 (cmost c) ∧ S.1 m 18 = n32 (cloc c) ∧ S.1 m 19 = n32 (cn c) ∧ S.1 m 22 = n32 (chn c) ∧ (∀ i, i < cn c → S.2.1 (E.2 m 20) i = n32 (cop c i) ∧ S.2.1 (E.2 m 21) i = cx c i) ∧ ∀ h, h < chn c → S.2.1 (E.2 m 23) h = chs c h ∧ S.2.1 (E.2 m 24) h = che c h ∧ S.2.1 (E.2 m 25) h = cht c h ∧ S.2.1 (E.2 m 26) h = n32 (chc c h)
def VRe (E : Ev) (S : St) (m : Nat) (A : Enw) : Prop := VRt E S m A.1 ∧ VRb E S m A.2.1 ∧ VRc E S m A.2.2
/-- only these numbers of m and these of its arrays have changed -/
def AgL (E : Ev) (m : Nat) (fs rs : List Nat) (S S' : St) : Prop := (∀ q, q ≠ m → (∀ j ∈ rs, q ≠ E.2 m j) → sameS S' S q) ∧ ∀ j, j ∉ fs → S'.1 m j = S.1 m j
def isA10 (j : Nat) : Bool := match (ftab 10)[j]? with
  | some (some u) => u.1 == 1
  | _ => false
section AGL
variable {E : Ev} {m : Nat} {fs rs : List Nat} {S S' S1 S2 : St}
theorem agl_refl : AgL E m fs rs S S := ⟨fun q _ _ => sameS_refl S q, fun _ _ => rfl⟩
theorem agl_trans (h : AgL E m fs rs S S1) (g : AgL E m fs rs S1 S2) : AgL E m fs rs S S2 := ⟨fun q h1 h2 => sameS_trans (g.1 q h1 h2) (h.1 q h1 h2), fun j hj => (g.2 j hj).trans (h.2 j hj)⟩
theorem agl_mono {fs' rs' : List Nat} (h : AgL E m fs rs S S1) (h1 : ∀ j ∈ fs, j ∈ fs') (h2 : ∀ j ∈ rs, j ∈ rs') : AgL E m fs' rs' S S1 := ⟨fun q a b => h.1 q a (fun j hj => b j (h2 j hj)), fun j hj => h.2 j (fun z => hj (h1 j z))⟩
theorem isA10_u {j : Nat} (h : isA10 j = true) : ∃ u, (ftab 10)[j]? = some (some u) ∧ u.1 = 1 := by
  unfold isA10 at h
  split at h
  · rename_i u hu
    exact ⟨u, hu, by rwa [beq_iff_eq] at h⟩
  · cases h
theorem lr_arr (L : LR E m) {j : Nat} (h : isA10 j = true) : ∃ u, E.1 (E.2 m j) = some u ∧ u.1 = 1 := by
  obtain ⟨u, hu, h1⟩ := isA10_u h
  exact ⟨u, L.1.2.1 m 10 j u L.2.2 hu, h1⟩
theorem lr_ne (L : LR E m) {j i : Nat} (hj : isA10 j = true) (hi : isA10 i = true) (h : j ≠ i) : E.2 m j ≠ E.2 m i := by
  obtain ⟨u, hu, h1⟩ := isA10_u hj
  obtain ⟨w, hw, h2⟩ := isA10_u hi
  exact arr_ne L.1 L.2.1 L.2.2 L.2.2 hu hw h1 h2 (fun e => h e.2)
theorem lr_nm (L : LR E m) {j : Nat} (hj : isA10 j = true) : E.2 m j ≠ m := by
  obtain ⟨u, hu, h1⟩ := lr_arr L hj
  refine ne_ty hu L.2.2 ?_
  intro e; rw [e] at h1; cases h1
theorem agl_a (L : LR E m) (h : AgL E m fs rs S S') {j : Nat} (hj : isA10 j = true) (hr : rs.all isA10 = true) (hn : rs.contains j = false) : S'.2.1 (E.2 m j) = S.2.1 (E.2 m j) := by
  refine (h.1 _ (lr_nm L hj) (fun i hi => lr_ne L hj (List.all_eq_true.mp hr i hi) ?_)).2.1
  intro e
  rw [e] at hn
  have : rs.contains i = true := List.contains_iff_mem.mpr hi
  rw [hn] at this; cases this
theorem agl_f (h : AgL E m fs rs S S') {j : Nat} (hn : fs.contains j = false) : S'.1 m j = S.1 m j := by
  refine h.2 j (fun hj => ?_)
  have : fs.contains j = true := List.contains_iff_mem.mpr hj
  rw [hn] at this; cases this
theorem agl_sF {j : Nat} {x : Int32} (hj : j ∈ fs) : AgL E m fs rs S (sF S m j x) := ⟨fun q hq _ => sF_ag q hq, fun i hi => up2_n _ _ (fun e => hi (e.2 ▸ hj))⟩
theorem agl_sG {j i : Nat} {x : Int32} (hj : j ∈ rs) : AgL E m fs rs S (sG S (E.2 m j) i x) := ⟨fun q _ h => sG_ag q (h j hj), fun _ _ => rfl⟩
end AGL
abbrev fsV : List Nat := [0, 27, 35, 36, 37, 38, 41, 43]
abbrev rsV : List Nat := [28, 29, 39, 40, 42]
theorem vre_ag {E : Ev} {m : Nat} {S S' : St} {A : Enw} (L : LR E m) (v : VRe E S m A) (h : AgL E m fsV rsV S S') : VRe E S' m A := by
  have a : ∀ j, isA10 j = true → rsV.contains j = false → S'.2.1 (E.2 m j) = S.2.1 (E.2 m j) := fun j h1 h2 => agl_a L h h1 rfl h2
  have f : ∀ j, fsV.contains j = false → S'.1 m j = S.1 m j := fun j h1 => agl_f h h1
  obtain ⟨⟨t1, t2, t3⟩, ⟨b1, b2, b3, b4⟩, c0, c1, c2, c3, c4, c5, c6, c7⟩ := v
  refine ⟨⟨?_, fun b h1 h2 => ?_, fun b h1 => ?_⟩, ⟨?_, ?_, fun i hi => ?_, fun k hk => ?_⟩, ?_, ?_, ?_, ?_, ?_, ?_, fun i hi => ?_, fun k hk => ?_⟩
  · rw [f 1 rfl]; exact t1
  · rw [a 2 rfl rfl]; exact t2 b h1 h2
  · rw [a 3 rfl rfl]; exact t3 b h1
  · rw [f 4 rfl]; exact b1
  · rw [f 7 rfl]; exact b2
  · rw [a 5 rfl rfl, a 6 rfl rfl]; exact b3 i hi
  · rw [a 8 rfl rfl, a 9 rfl rfl, a 10 rfl rfl, a 11 rfl rfl, a 12 rfl rfl]; exact b4 k hk
  · rw [f 15 rfl]; exact c0
  · rw [f 16 rfl]; exact c1
  · rw [f 17 rfl]; exact c2
  · rw [f 18 rfl]; exact c3
  · rw [f 19 rfl]; exact c4
  · rw [f 22 rfl]; exact c5
  · rw [a 20 rfl rfl, a 21 rfl rfl]; exact c6 i hi
  · rw [a 23 rfl rfl, a 24 rfl rfl, a 25 rfl rfl, a 26 rfl rfl]; exact c7 k hk
theorem c24 : (24 : Int32).toNatClampNeg = 24 := by decide
theorem c25 : (25 : Int32).toNatClampNeg = 25 := by decide
theorem i32_le0 {x : Int32} (h : 0 ≤ x) (h1 : x ≠ 0) : ¬ x ≤ 0 := by
  rw [z_l32] at h ⊢
  rw [ne_eq, z_e32] at h1
  have e0 : (0 : Int32).toInt = 0 := by decide
  omega
/-- the frame at hand -/
def VN (E : Ev) (S : St) (m : Nat) (x : Fr) : Prop := (∀ i, i < 12 → S.2.1 (E.2 m 39) i = x.1 i) ∧ (∀ i, i < x.2.2.1 → S.2.1 (E.2 m 39) (12 + i) = x.2.1 i) ∧ S.2.1 (E.2 m 39) 24 = n32 x.2.2.1 ∧ S.2.1 (E.2 m 39) 25 = b2 x.2.2.2
/-- the reference's machine: after an error only its number is known; too high a stack is only counted -/
def RM (E : Ev) (S : St) (m : Nat) (A : Enw) (i k : Nat) (y : Ms) : Prop := VRe E S m A ∧ S.1 m 43 = n32 i ∧ (y.2 ≠ 6 → S.1 m 35 = y.2 ∧ 0 ≤ y.2) ∧ (y.2 = 0 → VN E S m y.1 ∧ WFr A.1 y.1) ∧ (y.2 = 6 → S.1 m 35 = 0 ∧ ∃ h, S.2.1 (E.2 m 39) 24 = n32 h ∧ cmost A.2.2 < h ∧ h ≤ 12 + k) ∧ S.1 m 36 = (if y.2 = 0 ∨ y.2 = 6 then -1 else n32 i)
def Rv (E : Ev) (m : Nat) (A : Enw) (i k : Nat) (S : St) (o : Option St) (y : Ms) : Prop := ∃ S', o = some S' ∧ RM E S' m A i k y ∧ AgL E m [35, 36] [39] S S'
def Rw (E : Ev) (m : Nat) (A : Enw) (i k : Nat) (S : St) (o : Option (Int32 × St)) (r : Int32) (y : Ms) : Prop := ∃ S' r', o = some (r', S') ∧ RM E S' m A i k y ∧ AgL E m [35, 36] [39] S S' ∧ (y.2 = 0 → r' = r) ∧ svA A.1 r'
section RP
variable {E : Ev} {m fu i k : Nat} {A : Enw} {S : St} {y y1 y2 : Ms}
theorem rv_some (v : RM E S m A i k y) : Rv E m A i k S (some S) y := ⟨S, rfl, v, agl_refl⟩
theorem rv_bind {o : Option St} {g : St → Option St} {k2 : Nat} (h : Rv E m A i k S o y1) (kk : ∀ S1, RM E S1 m A i k y1 → Rv E m A i k2 S1 (g S1) y2) : Rv E m A i k2 S (o.bind g) y2 := by
  obtain ⟨S1, rfl, v1, a1⟩ := h
  obtain ⟨S2, e2, v2, a2⟩ := kk S1 v1
  exact ⟨S2, e2, v2, agl_trans a1 a2⟩
theorem rw_bind {o : Option (Int32 × St)} {g : Int32 × St → Option St} {r : Int32} {k2 : Nat} (h : Rw E m A i k S o r y1) (kk : ∀ S1 r', RM E S1 m A i k y1 → (y1.2 = 0 → r' = r) → svA A.1 r' → Rv E m A i k2 S1 (g (r', S1)) y2) : Rv E m A i k2 S (o.bind g) y2 := by
  obtain ⟨S1, r', rfl, v1, a1, h1, h2⟩ := h
  obtain ⟨S2, e2, v2, a2⟩ := kk S1 r' v1 h1 h2
  exact ⟨S2, e2, v2, agl_trans a1 a2⟩
theorem rv_id {o : Option St} (h : Rv E m A i k S o y) : Rv E m A i k S (o.bind fun u => some u) y := rv_bind h (fun _ v => rv_some v)
theorem rv_eq {o : Option St} (h : Rv E m A i k S o y1) (e : y1 = y2) : Rv E m A i k S o y2 := e ▸ h
theorem rx_well : sp_X12_isWell fu E S m = some (b2 (S.1 m 35 == 0), S) := by
  unfold sp_X12_isWell
  by_cases h : S.1 m 35 = 0
  · rw [if_pos h, h]; rfl
  · rw [if_neg h, show (S.1 m 35 == 0) = false from beq_eq_false_iff_ne.mpr h]; rfl
theorem rx_fail {x p : Int32} (h : S.1 m 35 = 0) : sp_X12_fail fu E S m x p = some (sF (sF S m 35 x) m 36 p) := by
  unfold sp_X12_fail
  rw [if_pos (by rw [h]; decide)]; rfl
theorem rx_failE {x p : Int32} (h : 0 ≤ S.1 m 35) (h1 : S.1 m 35 ≠ 0) : sp_X12_fail fu E S m x p = some S := by
  unfold sp_X12_fail
  rw [if_neg (i32_le0 h h1)]
theorem rm_e (v : RM E S m A i k y) (h6 : y.2 ≠ 6) (h : y.2 ≠ 0) : 0 ≤ S.1 m 35 ∧ S.1 m 35 ≠ 0 := by
  have := v.2.2.1 h6
  rw [this.1]; exact ⟨this.2, h⟩
theorem rm_0 (v : RM E S m A i k y) (h : y.2 = 0) : S.1 m 35 = 0 := by
  rw [(v.2.2.1 (by rw [h]; decide)).1, h]
/-- an error is noted -/
theorem rm_fail (L : LR E m) (v : RM E S m A i k y) (h : y.2 = 0) {kd : Int32} (hk : kd ≠ 0 ∧ kd ≠ 6 ∧ 0 ≤ kd) (z : Fr) : RM E (sF (sF S m 35 kd) m 36 (S.1 m 43)) m A i k (z, kd) ∧ AgL E m [35, 36] [39] S (sF (sF S m 35 kd) m 36 (S.1 m 43)) := by
  have ag : AgL E m [35, 36] [39] S (sF (sF S m 35 kd) m 36 (S.1 m 43)) := agl_trans (agl_sF (by decide)) (agl_sF (by decide))
  refine ⟨⟨vre_ag L v.1 (agl_mono ag (by decide) (by decide)), ?_, fun _ => ⟨?_, hk.2.2⟩, fun e => absurd e hk.1, fun e => absurd e hk.2.1, ?_⟩, ag⟩
  · rw [agl_f ag rfl]; exact v.2.1
  · show up2 (up2 S.1 m 35 kd) m 36 (S.1 m 43) m 35 = kd
    rw [up2_n _ _ (by simp), up2_s]
  · rw [if_neg (fun e => e.elim hk.1 hk.2.1)]
    show up2 (up2 S.1 m 35 kd) m 36 (S.1 m 43) m 36 = _
    rw [up2_s, v.2.1]
/-- the frame at hand changes -/
theorem rm_now (L : LR E m) {S' : St} {x : Fr} (v : RM E S m A i k y) (h : y.2 = 0) (g : AgL E m [] [39] S S') (hv : VN E S' m x) (hw : WFr A.1 x) {k2 : Nat} : RM E S' m A i k2 (x, 0) ∧ AgL E m [35, 36] [39] S S' := by
  have ag : AgL E m [35, 36] [39] S S' := agl_mono g (fun _ z => absurd z List.not_mem_nil) (fun _ z => z)
  have h35 : S'.1 m 35 = 0 := by rw [agl_f g rfl]; exact rm_0 v h
  refine ⟨⟨vre_ag L v.1 (agl_mono ag (by decide) (by decide)), ?_, fun _ => ⟨h35, (show (0 : Int32) ≤ 0 by decide)⟩, fun _ => ⟨hv, hw⟩, fun e => absurd e (show ¬ (0 : Int32) = 6 by decide), ?_⟩, ag⟩
  · rw [agl_f g rfl]; exact v.2.1
  · rw [agl_f g rfl, v.2.2.2.2.2, if_pos (Or.inl h), if_pos (Or.inl rfl)]
theorem vn_hi {x : Fr} (v : VN E S m x) {j : Nat} {z : Int32} (h1 : 12 + x.2.2.1 ≤ j) (h2 : j < 24) : VN E (sG S (E.2 m 39) j z) m x := by
  refine ⟨fun q hq => (up2_n _ _ (fun e => ?_)).trans (v.1 q hq), fun q hq => (up2_n _ _ (fun e => ?_)).trans (v.2.1 q hq), (up2_n _ _ (fun e => ?_)).trans v.2.2.1, (up2_n _ _ (fun e => ?_)).trans v.2.2.2⟩
  · have := e.2; omega
  · have := e.2; omega
  · have := e.2; omega
  · have := e.2; omega
theorem rx_top {x : Fr} (v : VN E S m x) (h12 : x.2.2.1 ≤ 12) {j : Nat} (hj : j < x.2.2.1) : sp_X12_top fu E S m (n32 j) = some (x.2.1 (x.2.2.1 - 1 - j), S) := by
  unfold sp_X12_top
  rw [c24, v.2.2.1, show (12 : Int32) + n32 x.2.2.1 - 1 - n32 j = n32 (12 + (x.2.2.1 - 1 - j)) from by
    rw [show (12 : Int32) + n32 x.2.2.1 = n32 (12 + x.2.2.1) from z_add 12 _, show n32 (12 + x.2.2.1) - 1 = n32 (12 + x.2.2.1 - 1) from z_sub (b := 1) (by omega), z_sub (by omega)]
    congr 1
    omega, if_pos (by rw [z_inb (by omega)]; omega), z_nat (by omega), v.2.1 _ (by omega)]
theorem rx_dropL {x : Fr} {r : Int32} : ∀ (j q F : Nat) (S : St), VN E S m x → x.2.2.1 + q + j ≤ 12 → j + 1 ≤ F → ∃ S', lp_X12_drop_39 fu E m F (n32 (q + j)) r (n32 q) S = some (r, S') ∧ VN E S' m x ∧ AgL E m [] [39] S S' := by
  intro j
  induction j with
  | zero =>
    intro q F S v h hF
    obtain ⟨F, rfl⟩ : ∃ z, F = z + 1 := ⟨F - 1, by omega⟩
    refine ⟨S, ?_, v, agl_refl⟩
    show bd_X12_drop_39 fu E m _ (n32 (q + 0)) r (n32 q) S = _
    unfold bd_X12_drop_39
    rw [zi_le (by omega) (by omega), if_pos (by omega)]
  | succ j ih =>
    intro q F S v h hF
    obtain ⟨F, rfl⟩ : ∃ z, F = z + 1 := ⟨F - 1, by omega⟩
    show ∃ S', bd_X12_drop_39 fu E m _ (n32 (q + (j + 1))) r (n32 q) S = _ ∧ _
    unfold bd_X12_drop_39
    have e1 : (12 : Int32) + n32 x.2.2.1 + n32 q = n32 (12 + x.2.2.1 + q) := by
      rw [show (12 : Int32) + n32 x.2.2.1 = n32 (12 + x.2.2.1) from z_add 12 _, z_add]
    rw [zi_le (by omega) (by omega), if_neg (by omega), c24, v.2.2.1, e1, if_pos (by rw [z_inb (by omega)]; omega), z_nat (by omega)]
    obtain ⟨S', e, v', a'⟩ := ih (q + 1) F (sG S (E.2 m 39) (12 + x.2.2.1 + q) (-2)) (vn_hi v (by omega) (by omega)) (by omega) (by omega)
    refine ⟨S', ?_, v', agl_trans (agl_sG (by decide)) a'⟩
    show lp_X12_drop_39 fu E m F (n32 (q + (j + 1))) r (n32 q + 1) _ = _
    rw [show n32 q + 1 = n32 (q + 1) from z_add q 1, show q + (j + 1) = q + 1 + j by omega]
    exact e
/-- slots taken off -/
theorem rx_drop (hfu : 30 ≤ fu) (L : LR E m) (v : RM E S m A i k y) (h : y.2 = 0) {n : Nat} (hn : n ≤ y.1.2.2.1) (hn1 : 0 < n) : ∃ S', sp_X12_drop fu E S m (n32 n) = some (y.1.2.1 (y.1.2.2.1 - n), S') ∧ RM E S' m A i k ((y.1.1, y.1.2.1, y.1.2.2.1 - n, y.1.2.2.2), 0) ∧ AgL E m [35, 36] [39] S S' := by
  obtain ⟨vn, w⟩ := v.2.2.2.1 h
  have h12 := w.2.2
  have e0 := rm_0 v h
  have vn1 : VN E (sG S (E.2 m 39) 24 (n32 (y.1.2.2.1 - n))) m (y.1.1, y.1.2.1, y.1.2.2.1 - n, y.1.2.2.2) := by
    refine ⟨fun q hq => (up2_n _ _ (fun e => ?_)).trans (vn.1 q hq), fun q hq => (up2_n _ _ (fun e => ?_)).trans (vn.2.1 q ?_), up2_s _ _, (up2_n _ _ (fun e => ?_)).trans vn.2.2.2⟩
    · have := e.2; omega
    · have := e.2; have : q < y.1.2.2.1 - n := hq; omega
    · have : q < y.1.2.2.1 - n := hq; omega
    · have := e.2; omega
  obtain ⟨S', e, v', a'⟩ := rx_dropL (fu := fu) (r := y.1.2.1 (y.1.2.2.1 - n)) n 0 fu _ vn1 (by show y.1.2.2.1 - n + 0 + n ≤ 12; omega) (by omega)
  have wf : WFr A.1 (y.1.1, y.1.2.1, y.1.2.2.1 - n, y.1.2.2.2) := ⟨w.1, fun q hq => w.2.1 q (by have : q < y.1.2.2.1 - n := hq; omega), by show y.1.2.2.1 - n ≤ 12; omega⟩
  have K := rm_now (k2 := k) L v h (agl_trans (agl_sG (by decide)) a') v' wf
  refine ⟨S', ?_, K.1, K.2⟩
  unfold sp_X12_drop bnd
  rw [rx_well, e0, Option.bind_some, b2_if, if_pos (by decide), c24, vn.2.2.1, z_sub hn]
  have e24 : (sG S (E.2 m 39) 24 (n32 (y.1.2.2.1 - n))).2.1 (E.2 m 39) 24 = n32 (y.1.2.2.1 - n) := up2_s _ _
  dsimp only
  rw [e24, show (12 : Int32) + n32 (y.1.2.2.1 - n) = n32 (12 + (y.1.2.2.1 - n)) from z_add 12 _, if_pos (by rw [z_inb (by omega)]; omega), z_nat (by omega)]
  have e3 : (sG S (E.2 m 39) 24 (n32 (y.1.2.2.1 - n))).2.1 (E.2 m 39) (12 + (y.1.2.2.1 - n)) = y.1.2.1 (y.1.2.2.1 - n) := (up2_n _ _ (fun e => by have := e.2; omega)).trans (vn.2.1 _ (by omega))
  rw [e3]
  rw [Nat.zero_add] at e
  exact e
theorem rx_dropE (h : S.1 m 35 ≠ 0) {z : Int32} : sp_X12_drop fu E S m z = some (-2, S) := by
  unfold sp_X12_drop
  rw [rx_well, Option.bind_some, b2_if, show (S.1 m 35 == 0) = false from beq_eq_false_iff_ne.mpr h, if_neg (by decide)]
theorem aReq_e {c : Bool} {q : Int32} (h : y.2 ≠ 0) : aReq c q y = y := by
  unfold aReq
  rw [if_neg (fun z => h z.1)]
theorem aReq_t {q : Int32} : aReq true q y = y := by
  unfold aReq
  rw [if_neg (fun z => by cases z.2)]
theorem aReq_f {q : Int32} (h : y.2 = 0) : aReq false q y = (y.1, q) := by
  unfold aReq
  rw [if_pos ⟨h, rfl⟩]
end RP
