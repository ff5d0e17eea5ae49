/-! the law from its entry -/
def E00 : Ev := (fun _ => none, fun _ _ => 0)
def S00 : St := (fun _ _ => 0, fun _ _ => 0, fun _ _ => 0, fun _ _ => 0)
theorem bs_00 : Bs E00 := ⟨rfl, fun _ _ _ _ h => (by cases h), fun _ _ h => (by cases h)⟩
theorem iv_00 : Iv E00 S00 [] E00 S00 := iv_start bs_00
theorem law_J {X : Cx} {b L : Nat} {xs : Nat → Int32} (hQ : EndL mL_law X) (hs : Scr X b L xs) (hL : L ≤ 260) (hz : NZ X (hp E00 S00)) : J mL_law X 0 [(0, .ref b)] [] (hp E00 S00) 0 0 := by
  refine JN_new dL_law_0 nl_L_16 (Nat.le_of_ble_eq_true rfl) (Nat.le_of_ble_eq_true rfl) hz (fun q1 hq1 hz1 => ?_)
  refine J_dup dL_law_3 rfl ?_
  refine J_callI (As := []) dL_law_4 i_L_30 rfl rfl (Nat.le_of_ble_eq_true rfl) ⟨Nat.le_of_ble_eq_true rfl, Nat.le_of_ble_eq_true rfl, Nat.le_of_ble_eq_true rfl, Nat.le_of_ble_eq_true rfl⟩ (n_X11 (iv_new iv_00 hq1 hz1).1.1 eN1s eN2s sN1s) (fun v w9 hp9 => ?_)
  obtain ⟨rfl, E1, S1, rfl, g1, ty, me, co, dr, inf, de, Jo, Ko, sc, dl, ds, ds0, prJ, caJ, exJ, maJ, peJ, prK, caK, exK, maK, o9, oty, isc, odr, idl, oJ, oexJ, omaJ, oK, oexK, omaK, nid⟩ := hp9
  obtain ⟨I1, u1, t1, T1, n1⟩ := ac iv_00 hq1 hz1 g1 (ob_ful (ks := [8, 7, 6, 5, 3, 2, 1, 0]) o9 rfl (by decide) rfl)
  refine J_astore_n dL_law_7 rfl (by decide) rfl ?_
  have hF : ∀ q t, E1.1 q = some t → Ful E1 S1 q t := fun q t h => I1.2.2.2.1 q t h rfl List.not_mem_nil
  obtain ⟨LXa, vx⟩ := vx_ini I1.1 hF o9 oty isc odr idl oJ oexJ omaJ oK oexK omaK nid
  have hE := we_ini I1.1 hF
  obtain ⟨S', e⟩ := t_8 (xs := xs) (N := L) (fu := 1000000) LXa (Nat.le_refl _) hL vx
  exact kj_L_law_8 (t := (1, S')) hQ rfl hE hs LXa.2.2.1 1000000 _ _ S1 (Nat.le_of_ble_eq_true rfl) (Nat.le_of_ble_eq_true rfl) e
