/-! the law from its entry -/
def E00 : Ev := (fun _ => none, fun _ _ => 0)
def S00 : St := (fun _ _ => 0, fun _ _ => 0, fun _ _ => 0, fun _ _ => 0)
theorem bs_00 : Bs E00 := ⟨rfl, fun _ _ _ _ h => (by cases h), fun _ _ h => (by cases h)⟩
theorem iv_00 : Iv E00 S00 [] E00 S00 := iv_start bs_00
theorem law_J {X : Cx} {b L : Nat} {xs : Nat → Int32} (hQ : EndL mL_law X) (hs : Scr X b L xs) (hL : L ≤ 2560) (hz : NZ X (hp E00 S00)) : J mL_law X 0 [(0, .ref b)] [] (hp E00 S00) 0 0 := by
  refine JN_new dL_law_0 nl_L_8 (Nat.le_of_ble_eq_true rfl) (Nat.le_of_ble_eq_true rfl) hz (fun q1 hq1 hz1 => ?_)
  refine J_dup dL_law_3 rfl ?_
  refine J_callI (As := []) dL_law_4 i_L_85 rfl rfl (Nat.le_of_ble_eq_true rfl) ⟨Nat.le_of_ble_eq_true rfl, Nat.le_of_ble_eq_true rfl, Nat.le_of_ble_eq_true rfl, Nat.le_of_ble_eq_true rfl⟩ (n_X11 (iv_new iv_00 hq1 hz1).1.1 eN1s eN2s sN1s) (fun v w9 hp9 => ?_)
  obtain ⟨rfl, E1, S1, rfl, g1, ty, me, co, dr, inf, de, Jo, Ko, sc, dl, ds, ds0, prJ, caJ, exJ, maJ, peJ, prK, caK, exK, maK, o9, oty, isc, odr, idl, oJ, oexJ, omaJ, oK, oexK, omaK, nid⟩ := hp9
  obtain ⟨I1, u1, t1, T1, n1⟩ := ac iv_00 hq1 hz1 g1 (ob_ful (ks := [8, 7, 6, 5, 3, 2, 1, 0]) o9 rfl (by decide) rfl)
  refine J_astore_n dL_law_7 rfl (by decide) rfl ?_
  refine JN_new dL_law_8 nl_L_86 (Nat.le_of_ble_eq_true rfl) (Nat.le_of_ble_eq_true rfl) (Or.inl ⟨q1, _, hp_o t1⟩) (fun q2 hq2 hz2 => ?_)
  refine J_dup dL_law_11 rfl ?_
  refine J_callI (As := []) dL_law_12 i_L_88 rfl rfl (Nat.le_of_ble_eq_true rfl) ⟨Nat.le_of_ble_eq_true rfl, Nat.le_of_ble_eq_true rfl, Nat.le_of_ble_eq_true rfl, Nat.le_of_ble_eq_true rfl⟩ (n_X12 (iv_new I1 hq2 hz2).1.1 eN1s eN2s sN1s) (fun v w9 hp9 => ?_)
  obtain ⟨rfl, E2, S2, rfl, g2, f2⟩ := hp9
  obtain ⟨I2, u2, t2, T2, n2⟩ := ac I1 hq2 hz2 g2 f2
  have t1' : E2.1 q1 = some (0, 9, 0) := T2.1 _ _ t1
  refine J_astore_n dL_law_15 rfl (by decide) rfl ?_
  refine J_iconst (v := 1) dL_law_16 (by decide) ?_
  refine JN_arr (kd := 2) (N := 1) dL_law_17 rfl (Or.inr (Or.inr ⟨rfl, rfl⟩)) ac_l (by decide) (by decide) (by decide) (Nat.le_of_ble_eq_true rfl) (Nat.le_of_ble_eq_true rfl) (Or.inl ⟨q1, _, hp_o t1'⟩) (fun q3 hq3 hz3 => ?_)
  have I3 : Iv E00 S00 [] (eN E2 q3 (1, 2, 1)) (sN S2 q3) := iv_drop (iv_new (t := (1, 2, 1)) I2 hq3 hz3).1 eN1s rfl ⟨fun h => (by cases h), fun _ h => (by cases h), fun _ h => (by cases h)⟩
  refine J_astore_n dL_law_19 rfl (by decide) rfl ?_
  refine J_iconst (v := 0) dL_law_20 (by decide) ?_
  refine J_istore dL_law_21 (by decide) rfl ?_
  have hF : ∀ q t, (eN E2 q3 (1, 2, 1)).1 q = some t → Ful (eN E2 q3 (1, 2, 1)) (sN S2 q3) q t := fun q t h => I3.2.2.2.1 q t h rfl List.not_mem_nil
  have up : ∀ {ci x : Nat} {l : List (Nat × Nat)} {li : List (Nat × Int32)}, Obj ci x l li E1 S1 → Obj ci x l li (eN E2 q3 (1, 2, 1)) (sN S2 q3) := fun o => ob_new (T2.2.1 _ _ _ _ trivial o) hq3
  have arr : ∀ {z N : Nat}, E1.1 z = some (1, 0, N) → (sN S2 q3).2.1 z = S1.2.1 z := fun {z N} h => by
    have hz : z ≠ q3 := ne_new (T2.1 _ _ h) hq3
    rw [sN2n hz]
    exact T2.2.2.1 z N h
  have tsc : E1.1 sc = some (1, 0, 20) := by
    obtain ⟨u, e1, e2⟩ := oty.2.2.2 (0, sc) (by simp)
    cases e1
    exact e2
  have tdl : E1.1 dl = some (1, 0, 12) := by
    obtain ⟨u, e1, e2⟩ := odr.2.2.2 (0, dl) (by simp)
    cases e1
    exact e2
  obtain ⟨LXa, vx⟩ := vx_ini I3.1 hF (up o9) (up oty) (fun i hi => by rw [arr tsc]; exact isc i hi) (up odr) (fun i hi => by rw [arr tdl]; exact idl i hi) (up oJ) (up oexJ) (up omaJ) (up oK) (up oexK) (up omaK) nid
  have tm : (eN E2 q3 (1, 2, 1)).1 q2 = some (0, 10, 0) := Ext_eN hq3 _ _ t2
  have vy := vy_ini I3.1 hF tm
  have hE := we_ini I3.1 hF
  have Lm : LR (eN E2 q3 (1, 2, 1)) q2 := ⟨hE, I3.1.2.1, tm⟩
  obtain ⟨S', e⟩ := law_lp (xs := xs) (fu := 1000000) LXa Lm (eN1s : (eN E2 q3 (1, 2, 1)).1 q3 = some (1, 2, 1)) (Nat.le_refl _) hL 520 0 600 (sN S2 q3) z00 (by omega) (by omega) (by omega) iz_00 vx vy
  exact kl_L_law (t := (1, S')) hQ rfl hE hs LXa.2.2.1 tm eN1s 1000000 600 _ _ 0 (sN S2 q3) (Nat.le_of_ble_eq_true rfl) (Nat.le_of_ble_eq_true rfl) e
