def bd_X5_setFirstFrame_2 (fu : Nat) (E : Ev) (a0 : Nat) (rc2 : Int32 → St → Option St) (x1 : Int32) (S : St) : Option St :=
  if 100 ≤ x1 then (
    (sp_X0_makeFirstFrame_4 fu E S a0 (E.2 a0 2)).bind fun u2 =>
    (sp_X4_put fu E u2 (E.2 a0 9) 0 (E.2 a0 2)).bind fun u5 =>
    bnd (sG u5 (E.2 a0 10) ((0 : Int32).toNatClampNeg) 1) fun S7 =>
    some S7
  ) else (
    if inb x1 100 = true then (
      bnd (sG S (E.2 a0 10) (x1.toNatClampNeg) 0) fun S10 =>
      rc2 (x1 + 1) S10
    ) else none
  )
def lp_X5_setFirstFrame_2 (fu : Nat) (E : Ev) (a0 : Nat) : Nat → Int32 → St → Option St
  | 0, _, _ => none
  | f + 1, x1, S => bd_X5_setFirstFrame_2 fu E a0 (lp_X5_setFirstFrame_2 fu E a0 f) x1 S
set_option maxRecDepth 100000 in
theorem kl_X5_setFirstFrame_2 {X : Cx} {E : Ev} {t : St} {a0 : Nat} (hQ : EndR mX5_setFirstFrame X (PoV E t)) (hE : WE E) (fu : Nat) (ha0 : E.1 a0 = some (0, 4, 0)) : ∀ (f : Nat) (x1 : Int32) (S : St), K mX5_setFirstFrame X E 2 [(0, .ref a0), (1, .int x1)] [] S 0 0 (lp_X5_setFirstFrame_2 fu E a0 f x1 S) t := by
  intro f
  induction f with
  | zero => intro x1 S; exact K_none
  | succ f hrc2 =>
    intro x1 S
    show K _ _ _ _ _ _ _ _ _ (bd_X5_setFirstFrame_2 fu E a0 (lp_X5_setFirstFrame_2 fu E a0 f) x1 S) t
    unfold bd_X5_setFirstFrame_2
    refine K_iload_n dX5_setFirstFrame_2 rfl rfl ?_
    refine K_bipush (v := 100) dX5_setFirstFrame_3 (by decide) ?_
    refine K_icmp_ge (tgt := 21) dX5_setFirstFrame_5 (by decide) (fun c11 => ?_) (fun c11 => ?_)
    · refine K_aload_n dX5_setFirstFrame_21 rfl rfl ?_
      refine K_aload_n dX5_setFirstFrame_22 rfl rfl ?_
      refine K_getC hE dX5_setFirstFrame_23 f_X5_36_4 ha0 rfl rfl (fun h1 => ?_)
      refine K_bind (fun u2 hu2 => ?_)
      refine K_callUV (r := (RX5, TX5, 11)) (As := [.ref (E.2 a0 2)]) (k_X0_makeFirstFrame_4 fu hE ha0 h1 hu2) dX5_setFirstFrame_26 u_X5_54_4 ha0 rfl rfl rfl (Nat.le_of_ble_eq_true rfl) ⟨Nat.le_of_ble_eq_true rfl, Nat.le_of_ble_eq_true rfl, Nat.le_of_ble_eq_true rfl, Nat.le_of_ble_eq_true rfl⟩ ?_
      refine K_aload_n dX5_setFirstFrame_29 rfl rfl ?_
      refine K_getC hE dX5_setFirstFrame_30 f_X5_15_4 ha0 rfl rfl (fun h3 => ?_)
      refine K_iconst (v := 0) dX5_setFirstFrame_33 (by decide) ?_
      refine K_aload_n dX5_setFirstFrame_34 rfl rfl ?_
      refine K_getC hE dX5_setFirstFrame_35 f_X5_36_4 ha0 rfl rfl (fun h4 => ?_)
      refine K_bind (fun u5 hu5 => ?_)
      refine K_callVV (As := [.int 0, .ref (E.2 a0 2)]) (k_X4_put fu hE h3 h4 hu5) dX5_setFirstFrame_38 v_X5_57 h3 rfl rfl rfl rfl (Nat.le_of_ble_eq_true rfl) ⟨Nat.le_of_ble_eq_true rfl, Nat.le_of_ble_eq_true rfl, Nat.le_of_ble_eq_true rfl, Nat.le_of_ble_eq_true rfl⟩ ?_
      refine K_aload_n dX5_setFirstFrame_41 rfl rfl ?_
      refine K_getC hE dX5_setFirstFrame_42 f_X5_9_4 ha0 rfl rfl (fun h6 => ?_)
      refine K_iconst (v := 0) dX5_setFirstFrame_45 (by decide) ?_
      refine K_iconst (v := 1) dX5_setFirstFrame_46 (by decide) ?_
      refine K_zast dX5_setFirstFrame_47 h6 (by decide) rfl ?_
      refine K_nmS (fun S7 => ?_)
      exact K_vret dX5_setFirstFrame_48 hQ rfl (Nat.le_of_ble_eq_true rfl) (Nat.le_of_ble_eq_true rfl)
    · refine K_aload_n dX5_setFirstFrame_8 rfl rfl ?_
      refine K_getC hE dX5_setFirstFrame_9 f_X5_9_4 ha0 rfl rfl (fun h8 => ?_)
      refine K_iload_n dX5_setFirstFrame_12 rfl rfl ?_
      refine K_iconst (v := 0) dX5_setFirstFrame_13 (by decide) ?_
      refine K_chk (fun h9 => ?_)
      refine K_zast dX5_setFirstFrame_14 h8 h9 rfl ?_
      refine K_nmS (fun S10 => ?_)
      refine K_iinc (v := (x1 + 1)) (ls' := [(0, _), (1, _)]) dX5_setFirstFrame_15 rfl rfl (by decide) rfl ?_
      refine K_goto (tgt := 2) dX5_setFirstFrame_18 (by decide) ?_
      refine K.keep [0, 1] ?_
      exact hrc2 (x1 + 1) S10
def sp_X5_setFirstFrame (fu : Nat) (E : Ev) (S : St) (a0 : Nat) : Option St :=
  lp_X5_setFirstFrame_2 fu E a0 fu 0 S
set_option maxRecDepth 100000 in
theorem k_X5_setFirstFrame {l : Launch} (fu : Nat) {E : Ev} (hE : WE E) {a0 : Nat} (ha0 : E.1 a0 = some (0, 4, 0)) {S : St} {t : St} (h : sp_X5_setFirstFrame fu E S a0 = some t) : Cn l mX5_setFirstFrame [.ref a0] (hp E S) (PoV E t) := by
  refine Cn.of (by decide) rfl (Nat.le_of_ble_eq_true rfl) (fun X _ _ hQ => ?_)
  refine (?_ : K mX5_setFirstFrame X E 0 [(0, .ref a0)] [] S 0 0 (sp_X5_setFirstFrame fu E S a0) t) h
  unfold sp_X5_setFirstFrame
  refine K_iconst (v := 0) dX5_setFirstFrame_0 (by decide) ?_
  refine K_istore_n (ls' := [(0, _), (1, _)]) dX5_setFirstFrame_1 rfl (by decide) rfl ?_
  refine K.keep [0, 1] ?_
  exact kl_X5_setFirstFrame_2 hQ hE fu ha0 fu 0 S
def bd_X5_takePending_2 (fu : Nat) (E : Ev) (a0 : Nat) (rc2 : Int32 → St → Option (Int32 × St)) (x1 : Int32) (S : St) : Option (Int32 × St) :=
  if (S.1 (E.2 a0 0) 6) ≤ x1 then (
    some ((-1), S)
  ) else (
    if inb x1 100 = true then
      (
      if (S.2.1 (E.2 a0 10) x1.toNatClampNeg) = 0 then (
        rc2 (x1 + 1) S
      ) else (
        if inb x1 100 = true then (
          bnd (sG S (E.2 a0 10) (x1.toNatClampNeg) 0) fun S6 =>
          some (x1, S6)
        ) else none
      )
      )
    else none
  )
def lp_X5_takePending_2 (fu : Nat) (E : Ev) (a0 : Nat) : Nat → Int32 → St → Option (Int32 × St)
  | 0, _, _ => none
  | f + 1, x1, S => bd_X5_takePending_2 fu E a0 (lp_X5_takePending_2 fu E a0 f) x1 S
set_option maxRecDepth 100000 in
theorem kl_X5_takePending_2 {X : Cx} {E : Ev} {t : (Int32 × St)} {a0 : Nat} (hQ : EndR mX5_takePending X (PoI E t)) (hE : WE E) (fu : Nat) (ha0 : E.1 a0 = some (0, 4, 0)) : ∀ (f : Nat) (x1 : Int32) (S : St), K mX5_takePending X E 2 [(0, .ref a0), (1, .int x1)] [] S 0 0 (lp_X5_takePending_2 fu E a0 f x1 S) t := by
  intro f
  induction f with
  | zero => intro x1 S; exact K_none
  | succ f hrc2 =>
    intro x1 S
    show K _ _ _ _ _ _ _ _ _ (bd_X5_takePending_2 fu E a0 (lp_X5_takePending_2 fu E a0 f) x1 S) t
    unfold bd_X5_takePending_2
    refine K_iload_n dX5_takePending_2 rfl rfl ?_
    refine K_aload_n dX5_takePending_3 rfl rfl ?_
    refine K_getC hE dX5_takePending_4 f_X5_61_4 ha0 rfl rfl (fun h1 => ?_)
    refine K_getI dX5_takePending_7 f_X5_65_0 h1 rfl ?_
    refine K_icmp_ge (tgt := 37) dX5_takePending_10 (by decide) (fun c8 => ?_) (fun c8 => ?_)
    · refine K_iconst (v := (-1)) dX5_takePending_37 (by decide) ?_
      exact K_iret dX5_takePending_38 hQ rfl (Nat.le_of_ble_eq_true rfl) (Nat.le_of_ble_eq_true rfl)
    · refine K_aload_n dX5_takePending_13 rfl rfl ?_
      refine K_getC hE dX5_takePending_14 f_X5_9_4 ha0 rfl rfl (fun h2 => ?_)
      refine K_iload_n dX5_takePending_17 rfl rfl ?_
      refine K_chk (fun h3 => ?_)
      refine K_zald dX5_takePending_18 h2 h3 ?_
      refine K_if_eq (tgt := 31) dX5_takePending_19 (by decide) (fun c7 => ?_) (fun c7 => ?_)
      · refine K_iinc (v := (x1 + 1)) (ls' := [(0, _), (1, _)]) dX5_takePending_31 rfl rfl (by decide) rfl ?_
        refine K_goto (tgt := 2) dX5_takePending_34 (by decide) ?_
        refine K.keep [0, 1] ?_
        exact hrc2 (x1 + 1) S
      · refine K_aload_n dX5_takePending_22 rfl rfl ?_
        refine K_getC hE dX5_takePending_23 f_X5_9_4 ha0 rfl rfl (fun h4 => ?_)
        refine K_iload_n dX5_takePending_26 rfl rfl ?_
        refine K_iconst (v := 0) dX5_takePending_27 (by decide) ?_
        refine K_chk (fun h5 => ?_)
        refine K_zast dX5_takePending_28 h4 h5 rfl ?_
        refine K_nmS (fun S6 => ?_)
        refine K_iload_n dX5_takePending_29 rfl rfl ?_
        exact K_iret dX5_takePending_30 hQ rfl (Nat.le_of_ble_eq_true rfl) (Nat.le_of_ble_eq_true rfl)
def sp_X5_takePending (fu : Nat) (E : Ev) (S : St) (a0 : Nat) : Option (Int32 × St) :=
  lp_X5_takePending_2 fu E a0 fu 0 S
set_option maxRecDepth 100000 in
theorem k_X5_takePending {l : Launch} (fu : Nat) {E : Ev} (hE : WE E) {a0 : Nat} (ha0 : E.1 a0 = some (0, 4, 0)) {S : St} {t : (Int32 × St)} (h : sp_X5_takePending fu E S a0 = some t) : Cn l mX5_takePending [.ref a0] (hp E S) (PoI E t) := by
  refine Cn.of (by decide) rfl (Nat.le_of_ble_eq_true rfl) (fun X _ _ hQ => ?_)
  refine (?_ : K mX5_takePending X E 0 [(0, .ref a0)] [] S 0 0 (sp_X5_takePending fu E S a0) t) h
  unfold sp_X5_takePending
  refine K_iconst (v := 0) dX5_takePending_0 (by decide) ?_
  refine K_istore_n (ls' := [(0, _), (1, _)]) dX5_takePending_1 rfl (by decide) rfl ?_
  refine K.keep [0, 1] ?_
  exact kl_X5_takePending_2 hQ hE fu ha0 fu 0 S
def bd_X5_run_22 (fu : Nat) (E : Ev) (a0 : Nat) (rc22 : Int32 → Int32 → St → Option (Int32 × St)) (x1 : Int32) (x2 : Int32) (S : St) : Option (Int32 × St) :=
  if 1000000 ≤ x2 then (
    (sp_X4_clear fu E S (E.2 a0 9)).bind fun u5 =>
    some (x1, u5)
  ) else (
    if x1 = 0 then (
      (sp_X5_takePending fu E S a0).bind fun u8 =>
      if 0 ≤ u8.1 then (
        if inb u8.1 100 = true then
          (
          (sp_X3_copyFrom fu E u8.2 (E.2 a0 2) (E.2 (E.2 (E.2 a0 9) 0) u8.1.toNatClampNeg)).bind fun u14 =>
          (sp_X0_process_4 fu E u14 a0 u8.1).bind fun u15 =>
          rc22 u15.1 (x2 + 1) u15.2
          )
        else none
      ) else (
        some (0, u8.2)
      )
    ) else (
      (sp_X4_clear fu E S (E.2 a0 9)).bind fun u7 =>
      some (x1, u7)
    )
  )
def lp_X5_run_22 (fu : Nat) (E : Ev) (a0 : Nat) : Nat → Int32 → Int32 → St → Option (Int32 × St)
  | 0, _, _, _ => none
  | f + 1, x1, x2, S => bd_X5_run_22 fu E a0 (lp_X5_run_22 fu E a0 f) x1 x2 S
set_option maxRecDepth 100000 in
theorem kl_X5_run_22 {X : Cx} {E : Ev} {t : (Int32 × St)} {a0 : Nat} (hQ : EndR mX5_run X (PoI E t)) (hE : WE E) (fu : Nat) (ha0 : E.1 a0 = some (0, 4, 0)) : ∀ (f : Nat) (x1 : Int32) (x2 : Int32) (S : St), K mX5_run X E 22 [(0, .ref a0), (1, .int x1), (2, .int x2)] [] S 0 0 (lp_X5_run_22 fu E a0 f x1 x2 S) t := by
  intro f
  induction f with
  | zero => intro x1 x2 S; exact K_none
  | succ f hrc22 =>
    intro x1 x2 S
    show K _ _ _ _ _ _ _ _ _ (bd_X5_run_22 fu E a0 (lp_X5_run_22 fu E a0 f) x1 x2 S) t
    unfold bd_X5_run_22
    refine K_iload_n dX5_run_22 rfl rfl ?_
    refine K_ldc (v := 1000000) dX5_run_23 c1_X5_32 ?_
    refine K_icmp_ge (tgt := 71) dX5_run_25 (by decide) (fun c18 => ?_) (fun c18 => ?_)
    · refine K_aload_n dX5_run_71 rfl rfl ?_
      refine K_getC hE dX5_run_72 f_X5_15_4 ha0 rfl rfl (fun h4 => ?_)
      refine K_bind (fun u5 hu5 => ?_)
      refine K_callVV (As := []) (k_X4_clear fu hE h4 hu5) dX5_run_75 v_X5_19 h4 rfl rfl rfl rfl (Nat.le_of_ble_eq_true rfl) ⟨Nat.le_of_ble_eq_true rfl, Nat.le_of_ble_eq_true rfl, Nat.le_of_ble_eq_true rfl, Nat.le_of_ble_eq_true rfl⟩ ?_
      refine K_iload_n dX5_run_78 rfl rfl ?_
      exact K_iret dX5_run_79 hQ rfl (Nat.le_of_ble_eq_true rfl) (Nat.le_of_ble_eq_true rfl)
    · refine K_iload_n dX5_run_28 rfl rfl ?_
      refine K_if_ne (tgt := 71) dX5_run_29 (by decide) (fun c17 => ?_) (fun c17 => ?_)
      · refine K_aload_n dX5_run_71 rfl rfl ?_
        refine K_getC hE dX5_run_72 f_X5_15_4 ha0 rfl rfl (fun h6 => ?_)
        refine K_bind (fun u7 hu7 => ?_)
        refine K_callVV (As := []) (k_X4_clear fu hE h6 hu7) dX5_run_75 v_X5_19 h6 rfl rfl rfl rfl (Nat.le_of_ble_eq_true rfl) ⟨Nat.le_of_ble_eq_true rfl, Nat.le_of_ble_eq_true rfl, Nat.le_of_ble_eq_true rfl, Nat.le_of_ble_eq_true rfl⟩ ?_
        refine K_iload_n dX5_run_78 rfl rfl ?_
        exact K_iret dX5_run_79 hQ rfl (Nat.le_of_ble_eq_true rfl) (Nat.le_of_ble_eq_true rfl)
      · refine K_aload_n dX5_run_32 rfl rfl ?_
        refine K_bind (fun u8 hu8 => ?_)
        refine K_callVI (As := []) (k_X5_takePending fu hE ha0 hu8) dX5_run_33 v_X5_33 ha0 rfl rfl rfl rfl (Nat.le_of_ble_eq_true rfl) ⟨Nat.le_of_ble_eq_true rfl, Nat.le_of_ble_eq_true rfl, Nat.le_of_ble_eq_true rfl, Nat.le_of_ble_eq_true rfl⟩ ?_
        refine K_istore_n (ls' := [(0, _), (1, _), (2, _), (3, _)]) dX5_run_36 rfl (by decide) rfl ?_
        refine K_iload_n dX5_run_37 rfl rfl ?_
        refine K_if_ge (tgt := 43) dX5_run_38 (by decide) (fun c16 => ?_) (fun c16 => ?_)
        · refine K_aload_n dX5_run_43 rfl rfl ?_
          refine K_getC hE dX5_run_44 f_X5_36_4 ha0 rfl rfl (fun h9 => ?_)
          refine K_aload_n dX5_run_47 rfl rfl ?_
          refine K_getC hE dX5_run_48 f_X5_15_4 ha0 rfl rfl (fun h10 => ?_)
          refine K_getC hE dX5_run_51 f_X5_40_3 h10 rfl rfl (fun h11 => ?_)
          refine K_iload_n dX5_run_54 rfl rfl ?_
          refine K_chk (fun h12 => ?_)
          refine K_qald hE dX5_run_55 h11 h12 (fun h13 => ?_)
          refine K_bind (fun u14 hu14 => ?_)
          refine K_callVV (As := [.ref (E.2 (E.2 (E.2 a0 9) 0) u8.1.toNatClampNeg)]) (k_X3_copyFrom fu hE h9 h13 hu14) dX5_run_56 v_X5_44 h9 rfl rfl rfl rfl (Nat.le_of_ble_eq_true rfl) ⟨Nat.le_of_ble_eq_true rfl, Nat.le_of_ble_eq_true rfl, Nat.le_of_ble_eq_true rfl, Nat.le_of_ble_eq_true rfl⟩ ?_
          refine K_aload_n dX5_run_59 rfl rfl ?_
          refine K_iload_n dX5_run_60 rfl rfl ?_
          refine K_bind (fun u15 hu15 => ?_)
          refine K_callUI (r := (RX5, TX5, 11)) (As := [.int u8.1]) (k_X0_process_4 fu hE ha0 hu15) dX5_run_61 u_X5_50_4 ha0 rfl rfl rfl (Nat.le_of_ble_eq_true rfl) ⟨Nat.le_of_ble_eq_true rfl, Nat.le_of_ble_eq_true rfl, Nat.le_of_ble_eq_true rfl, Nat.le_of_ble_eq_true rfl⟩ ?_
          refine K_istore_n (ls' := [(0, _), (1, _), (2, _), (3, _)]) dX5_run_64 rfl (by decide) rfl ?_
          refine K_iinc (v := (x2 + 1)) (ls' := [(0, _), (1, _), (2, _), (3, _)]) dX5_run_65 rfl rfl (by decide) rfl ?_
          refine K_goto (tgt := 22) dX5_run_68 (by decide) ?_
          refine K.keep [0, 1, 2] ?_
          exact hrc22 u15.1 (x2 + 1) u15.2
        · refine K_iconst (v := 0) dX5_run_41 (by decide) ?_
          exact K_iret dX5_run_42 hQ rfl (Nat.le_of_ble_eq_true rfl) (Nat.le_of_ble_eq_true rfl)
def sp_X5_run (fu : Nat) (E : Ev) (S : St) (a0 : Nat) : Option (Int32 × St) :=
  (sp_X4_clear fu E S (E.2 a0 9)).bind fun u2 =>
  (sp_X0_examine_4 fu E u2 a0).bind fun u3 =>
  if u3.1 = 0 then (
    (sp_X5_setFirstFrame fu E u3.2 a0).bind fun u19 =>
    lp_X5_run_22 fu E a0 fu u3.1 0 u19
  ) else (
    lp_X5_run_22 fu E a0 fu u3.1 0 u3.2
  )
set_option maxRecDepth 100000 in
theorem k_X5_run {l : Launch} (fu : Nat) {E : Ev} (hE : WE E) {a0 : Nat} (ha0 : E.1 a0 = some (0, 4, 0)) {S : St} {t : (Int32 × St)} (h : sp_X5_run fu E S a0 = some t) : Cn l mX5_run [.ref a0] (hp E S) (PoI E t) := by
  refine Cn.of (by decide) rfl (Nat.le_of_ble_eq_true rfl) (fun X _ _ hQ => ?_)
  refine (?_ : K mX5_run X E 0 [(0, .ref a0)] [] S 0 0 (sp_X5_run fu E S a0) t) h
  unfold sp_X5_run
  refine K_aload_n dX5_run_0 rfl rfl ?_
  refine K_getC hE dX5_run_1 f_X5_15_4 ha0 rfl rfl (fun h1 => ?_)
  refine K_bind (fun u2 hu2 => ?_)
  refine K_callVV (As := []) (k_X4_clear fu hE h1 hu2) dX5_run_4 v_X5_19 h1 rfl rfl rfl rfl (Nat.le_of_ble_eq_true rfl) ⟨Nat.le_of_ble_eq_true rfl, Nat.le_of_ble_eq_true rfl, Nat.le_of_ble_eq_true rfl, Nat.le_of_ble_eq_true rfl⟩ ?_
  refine K_aload_n dX5_run_7 rfl rfl ?_
  refine K_bind (fun u3 hu3 => ?_)
  refine K_callUI (r := (RX5, TX5, 11)) (As := []) (k_X0_examine_4 fu hE ha0 hu3) dX5_run_8 u_X5_25_4 ha0 rfl rfl rfl (Nat.le_of_ble_eq_true rfl) ⟨Nat.le_of_ble_eq_true rfl, Nat.le_of_ble_eq_true rfl, Nat.le_of_ble_eq_true rfl, Nat.le_of_ble_eq_true rfl⟩ ?_
  refine K_istore_n (ls' := [(0, _), (1, _)]) dX5_run_11 rfl (by decide) rfl ?_
  refine K_iload_n dX5_run_12 rfl rfl ?_
  refine K_if_ne (tgt := 20) dX5_run_13 (by decide) (fun c20 => ?_) (fun c20 => ?_)
  · refine K_iconst (v := 0) dX5_run_20 (by decide) ?_
    refine K_istore_n (ls' := [(0, _), (1, _), (2, _)]) dX5_run_21 rfl (by decide) rfl ?_
    refine K.keep [0, 1, 2] ?_
    exact kl_X5_run_22 hQ hE fu ha0 fu u3.1 0 u3.2
  · refine K_aload_n dX5_run_16 rfl rfl ?_
    refine K_bind (fun u19 hu19 => ?_)
    refine K_callVV (As := []) (k_X5_setFirstFrame fu hE ha0 hu19) dX5_run_17 v_X5_29 ha0 rfl rfl rfl rfl (Nat.le_of_ble_eq_true rfl) ⟨Nat.le_of_ble_eq_true rfl, Nat.le_of_ble_eq_true rfl, Nat.le_of_ble_eq_true rfl, Nat.le_of_ble_eq_true rfl⟩ ?_
    refine K_iconst (v := 0) dX5_run_20 (by decide) ?_
    refine K_istore_n (ls' := [(0, _), (1, _), (2, _)]) dX5_run_21 rfl (by decide) rfl ?_
    refine K.keep [0, 1, 2] ?_
    exact kl_X5_run_22 hQ hE fu ha0 fu u3.1 0 u19
def sp_X0_examine_5 (fu : Nat) (E : Ev) (S : St) (a0 : Nat) : Option (Int32 × St) :=
  (sp_X2_run fu E S (E.2 a0 6)).bind fun u2 =>
  bnd (sF u2.2 a0 3 (u2.2.1 (E.2 a0 6) 3)) fun S4 =>
  bnd (sF S4 a0 4 0) fun S5 =>
  some (u2.1, S5)
set_option maxRecDepth 100000 in
theorem k_X0_examine_5 {l : Launch} (fu : Nat) {E : Ev} (hE : WE E) {a0 : Nat} (ha0 : E.1 a0 = some (0, 5, 0)) {S : St} {t : (Int32 × St)} (h : sp_X0_examine_5 fu E S a0 = some t) : Cn l mX0_examine [.ref a0] (hp E S) (PoI E t) := by
  refine Cn.of (by decide) rfl (Nat.le_of_ble_eq_true rfl) (fun X _ _ hQ => ?_)
  refine (?_ : K mX0_examine X E 0 [(0, .ref a0)] [] S 0 0 (sp_X0_examine_5 fu E S a0) t) h
  unfold sp_X0_examine_5
  refine K_aload_n dX0_examine_0 rfl rfl ?_
  refine K_getC hE dX0_examine_1 f_X0_38_5 ha0 rfl rfl (fun h1 => ?_)
  refine K_bind (fun u2 hu2 => ?_)
  refine K_callVI (As := []) (k_X2_run fu hE h1 hu2) dX0_examine_4 v_X0_56 h1 rfl rfl rfl rfl (Nat.le_of_ble_eq_true rfl) ⟨Nat.le_of_ble_eq_true rfl, Nat.le_of_ble_eq_true rfl, Nat.le_of_ble_eq_true rfl, Nat.le_of_ble_eq_true rfl⟩ ?_
  refine K_istore_n (ls' := [(0, _), (1, _)]) dX0_examine_7 rfl (by decide) rfl ?_
  refine K_aload_n dX0_examine_8 rfl rfl ?_
  refine K_aload_n dX0_examine_9 rfl rfl ?_
  refine K_getC hE dX0_examine_10 f_X0_38_5 ha0 rfl rfl (fun h3 => ?_)
  refine K_getI dX0_examine_13 f_X0_60_1 h3 rfl ?_
  refine K_putI dX0_examine_16 p_X0_49_5 ha0 rfl ?_
  refine K_nmS (fun S4 => ?_)
  refine K_aload_n dX0_examine_19 rfl rfl ?_
  refine K_iconst (v := 0) dX0_examine_20 (by decide) ?_
  refine K_putI dX0_examine_21 p_X0_53_5 ha0 rfl ?_
  refine K_nmS (fun S5 => ?_)
  refine K_iload_n dX0_examine_24 rfl rfl ?_
  exact K_iret dX0_examine_25 hQ rfl (Nat.le_of_ble_eq_true rfl) (Nat.le_of_ble_eq_true rfl)
def jb_X0_makeFirstFrame_5_148 (fu : Nat) (E : Ev) (a0 a1 : Nat) (rc95 : Int32 → Int32 → Int32 → St → Option St) (x2 : Int32) (x4 : Int32) (x5 : Int32) (x6 : Int32) (S : St) : Option St :=
  (sp_X11_slotsOf fu E S x6).bind fun u19 =>
  bnd (x4 + u19.1) fun v20 =>
  rc95 x2 v20 (x5 + 1) u19.2
set_option maxRecDepth 100000 in
theorem kj_X0_makeFirstFrame_5_148 {X : Cx} {E : Ev} {t : St} {a0 a1 : Nat} {rc95 : Int32 → Int32 → Int32 → St → Option St} (hQ : EndR mX0_makeFirstFrame X (PoV E t)) (hE : WE E) (fu : Nat) (ha0 : E.1 a0 = some (0, 5, 0)) (ha1 : E.1 a1 = some (0, 2, 0)) (hrc95 : ∀ (x2 : Int32) (x4 : Int32) (x5 : Int32) (S : St), K mX0_makeFirstFrame X E 95 [(0, .ref a0), (1, .ref a1), (2, .int x2), (4, .int x4), (5, .int x5)] [] S 0 0 (rc95 x2 x4 x5 S) t) (x2 : Int32) (x4 : Int32) (x5 : Int32) (x6 : Int32) (S : St) : K mX0_makeFirstFrame X E 148 [(0, .ref a0), (1, .ref a1), (2, .int x2), (4, .int x4), (5, .int x5), (6, .int x6)] [] S 0 0 (jb_X0_makeFirstFrame_5_148 fu E a0 a1 rc95 x2 x4 x5 x6 S) t := by
  unfold jb_X0_makeFirstFrame_5_148
  refine K_iload dX0_makeFirstFrame_148 rfl ?_
  refine K_iload dX0_makeFirstFrame_150 rfl ?_
  refine K_bind (fun u19 hu19 => ?_)
  refine K_callSI (As := [.int x6]) (k_X11_slotsOf fu hE hu19) dX0_makeFirstFrame_152 s_X0_92 rfl rfl (Nat.le_of_ble_eq_true rfl) ⟨Nat.le_of_ble_eq_true rfl, Nat.le_of_ble_eq_true rfl, Nat.le_of_ble_eq_true rfl, Nat.le_of_ble_eq_true rfl⟩ ?_
  refine K_iadd dX0_makeFirstFrame_155 ?_
  refine K_nmI (fun v20 => ?_)
  refine K_istore (ls' := [(0, _), (1, _), (2, _), (4, _), (5, _), (6, _)]) dX0_makeFirstFrame_156 (by decide) rfl ?_
  refine K_iinc (v := (x5 + 1)) (ls' := [(0, _), (1, _), (2, _), (4, _), (5, _), (6, _)]) dX0_makeFirstFrame_158 rfl rfl (by decide) rfl ?_
  refine K_goto (tgt := 95) dX0_makeFirstFrame_161 (by decide) ?_
  refine K.keep [0, 1, 2, 4, 5] ?_
  exact hrc95 x2 v20 (x5 + 1) u19.2
def bd_X0_makeFirstFrame_5_95 (fu : Nat) (E : Ev) (a0 a1 : Nat) (rc95 : Int32 → Int32 → Int32 → St → Option St) (x2 : Int32) (x4 : Int32) (x5 : Int32) (S : St) : Option St :=
  if inb x2 30 = true then
    (
    if (S.2.1 (E.2 (E.2 a0 5) 6) x2.toNatClampNeg) ≤ x5 then (
      some S
    ) else (
      (sp_X8_parameterType fu E S (E.2 a0 5) x2 x5).bind fun u15 =>
      if inb x4 12 = true then (
        bnd (sG u15.2 (E.2 a1 0) (x4.toNatClampNeg) u15.1) fun S18 =>
        if u15.1 = 8 then (
          if inb (x4 + 1) 12 = true then (
            bnd (sG S18 (E.2 a1 0) ((x4 + 1).toNatClampNeg) (-3)) fun S23 =>
            jb_X0_makeFirstFrame_5_148 fu E a0 a1 rc95 x2 x4 x5 u15.1 S23
          ) else none
        ) else (
          jb_X0_makeFirstFrame_5_148 fu E a0 a1 rc95 x2 x4 x5 u15.1 S18
        )
      ) else none
    )
    )
  else none
def lp_X0_makeFirstFrame_5_95 (fu : Nat) (E : Ev) (a0 a1 : Nat) : Nat → Int32 → Int32 → Int32 → St → Option St
  | 0, _, _, _, _ => none
  | f + 1, x2, x4, x5, S => bd_X0_makeFirstFrame_5_95 fu E a0 a1 (lp_X0_makeFirstFrame_5_95 fu E a0 a1 f) x2 x4 x5 S
set_option maxRecDepth 100000 in
theorem kl_X0_makeFirstFrame_5_95 {X : Cx} {E : Ev} {t : St} {a0 a1 : Nat} (hQ : EndR mX0_makeFirstFrame X (PoV E t)) (hE : WE E) (fu : Nat) (ha0 : E.1 a0 = some (0, 5, 0)) (ha1 : E.1 a1 = some (0, 2, 0)) : ∀ (f : Nat) (x2 : Int32) (x4 : Int32) (x5 : Int32) (S : St), K mX0_makeFirstFrame X E 95 [(0, .ref a0), (1, .ref a1), (2, .int x2), (4, .int x4), (5, .int x5)] [] S 0 0 (lp_X0_makeFirstFrame_5_95 fu E a0 a1 f x2 x4 x5 S) t := by
  intro f
  induction f with
  | zero => intro x2 x4 x5 S; exact K_none
  | succ f hrc95 =>
    intro x2 x4 x5 S
    show K _ _ _ _ _ _ _ _ _ (bd_X0_makeFirstFrame_5_95 fu E a0 a1 (lp_X0_makeFirstFrame_5_95 fu E a0 a1 f) x2 x4 x5 S) t
    unfold bd_X0_makeFirstFrame_5_95
    refine K_iload dX0_makeFirstFrame_95 rfl ?_
    refine K_aload_n dX0_makeFirstFrame_97 rfl rfl ?_
    refine K_getC hE dX0_makeFirstFrame_98 f_X0_25_5 ha0 rfl rfl (fun h11 => ?_)
    refine K_getC hE dX0_makeFirstFrame_101 f_X0_85_7 h11 rfl rfl (fun h12 => ?_)
    refine K_iload_n dX0_makeFirstFrame_104 rfl rfl ?_
    refine K_chk (fun h13 => ?_)
    refine K_iald dX0_makeFirstFrame_105 h12 h13 ?_
    refine K_icmp_ge (tgt := 164) dX0_makeFirstFrame_106 (by decide) (fun c25 => ?_) (fun c25 => ?_)
    · exact K_vret dX0_makeFirstFrame_164 hQ rfl (Nat.le_of_ble_eq_true rfl) (Nat.le_of_ble_eq_true rfl)
    · refine K_aload_n dX0_makeFirstFrame_109 rfl rfl ?_
      refine K_getC hE dX0_makeFirstFrame_110 f_X0_25_5 ha0 rfl rfl (fun h14 => ?_)
      refine K_iload_n dX0_makeFirstFrame_113 rfl rfl ?_
      refine K_iload dX0_makeFirstFrame_114 rfl ?_
      refine K_bind (fun u15 hu15 => ?_)
      refine K_callVI (As := [.int x2, .int x5]) (k_X8_parameterType fu hE h14 hu15) dX0_makeFirstFrame_116 v_X0_88 h14 rfl rfl rfl rfl (Nat.le_of_ble_eq_true rfl) ⟨Nat.le_of_ble_eq_true rfl, Nat.le_of_ble_eq_true rfl, Nat.le_of_ble_eq_true rfl, Nat.le_of_ble_eq_true rfl⟩ ?_
      refine K_istore (ls' := [(0, _), (1, _), (2, _), (4, _), (5, _), (6, _)]) dX0_makeFirstFrame_119 (by decide) rfl ?_
      refine K_aload_n dX0_makeFirstFrame_121 rfl rfl ?_
      refine K_getC hE dX0_makeFirstFrame_122 f_X0_78_2 ha1 rfl rfl (fun h16 => ?_)
      refine K_iload dX0_makeFirstFrame_125 rfl ?_
      refine K_iload dX0_makeFirstFrame_127 rfl ?_
      refine K_chk (fun h17 => ?_)
      refine K_iast dX0_makeFirstFrame_129 h16 h17 ?_
      refine K_nmS (fun S18 => ?_)
      refine K_iload dX0_makeFirstFrame_130 rfl ?_
      refine K_bipush (v := 8) dX0_makeFirstFrame_132 (by decide) ?_
      refine K_icmp_ne (tgt := 148) dX0_makeFirstFrame_134 (by decide) (fun c24 => ?_) (fun c24 => ?_)
      · refine K.keep [0, 1, 2, 4, 5, 6] ?_
        exact kj_X0_makeFirstFrame_5_148 hQ hE fu ha0 ha1 hrc95 x2 x4 x5 u15.1 S18
      · refine K_aload_n dX0_makeFirstFrame_137 rfl rfl ?_
        refine K_getC hE dX0_makeFirstFrame_138 f_X0_78_2 ha1 rfl rfl (fun h21 => ?_)
        refine K_iload dX0_makeFirstFrame_141 rfl ?_
        refine K_iconst (v := 1) dX0_makeFirstFrame_143 (by decide) ?_
        refine K_iadd dX0_makeFirstFrame_144 ?_
        refine K_bipush (v := (-3)) dX0_makeFirstFrame_145 (by decide) ?_
        refine K_chk (fun h22 => ?_)
        refine K_iast dX0_makeFirstFrame_147 h21 h22 ?_
        refine K_nmS (fun S23 => ?_)
        refine K.keep [0, 1, 2, 4, 5, 6] ?_
        exact kj_X0_makeFirstFrame_5_148 hQ hE fu ha0 ha1 hrc95 x2 x4 x5 u15.1 S23
def jb_X0_makeFirstFrame_5_82 (fu : Nat) (E : Ev) (a0 a1 b0 : Nat) (x2 : Int32) (x5 : Int32) (y1 : Int32) (y2 : Int32) (S : St) : Option St :=
  if inb y1 12 = true then (
    bnd (sG S b0 (y1.toNatClampNeg) y2) fun S31 =>
    if isB x5 = true then
      (
      bnd (sF S31 a1 3 x5) fun S32 =>
      lp_X0_makeFirstFrame_5_95 fu E a0 a1 fu x2 1 0 S32
      )
    else none
  ) else none
set_option maxRecDepth 100000 in
theorem kj_X0_makeFirstFrame_5_82 {X : Cx} {E : Ev} {t : St} {a0 a1 b0 : Nat} (hQ : EndR mX0_makeFirstFrame X (PoV E t)) (hE : WE E) (fu : Nat) (ha0 : E.1 a0 = some (0, 5, 0)) (ha1 : E.1 a1 = some (0, 2, 0)) (hb0 : E.1 b0 = some (1, 0, 12)) (x2 : Int32) (x5 : Int32) (y1 : Int32) (y2 : Int32) (S : St) : K mX0_makeFirstFrame X E 82 [(0, .ref a0), (1, .ref a1), (2, .int x2), (5, .int x5)] [.int y2, .int y1, .ref b0] S 0 0 (jb_X0_makeFirstFrame_5_82 fu E a0 a1 b0 x2 x5 y1 y2 S) t := by
  unfold jb_X0_makeFirstFrame_5_82
  refine K_chk (fun h30 => ?_)
  refine K_iast dX0_makeFirstFrame_82 hb0 h30 ?_
  refine K_nmS (fun S31 => ?_)
  refine K_aload_n dX0_makeFirstFrame_83 rfl rfl ?_
  refine K_iload dX0_makeFirstFrame_84 rfl ?_
  refine K_chk (fun h33 => ?_)
  refine K_putZ dX0_makeFirstFrame_86 p_X0_81_2 ha1 rfl h33 ?_
  refine K_nmS (fun S32 => ?_)
  refine K_iconst (v := 1) dX0_makeFirstFrame_89 (by decide) ?_
  refine K_istore (ls' := [(0, _), (1, _), (2, _), (5, _), (4, _)]) dX0_makeFirstFrame_90 (by decide) rfl ?_
  refine K_iconst (v := 0) dX0_makeFirstFrame_92 (by decide) ?_
  refine K_istore (ls' := [(0, _), (1, _), (2, _), (5, _), (4, _)]) dX0_makeFirstFrame_93 (by decide) rfl ?_
  refine K.keep [0, 1, 2, 4, 5] ?_
  exact kl_X0_makeFirstFrame_5_95 hQ hE fu ha0 ha1 fu x2 1 0 S32
def jb_X0_makeFirstFrame_5_61 (fu : Nat) (E : Ev) (a0 a1 : Nat) (x2 : Int32) (x3 : Int32) (y0 : Int32) (S : St) : Option St :=
  if y0 = 0 then (
    jb_X0_makeFirstFrame_5_82 fu E a0 a1 (E.2 a1 0) x2 y0 0 (8 * x3) S
  ) else (
    jb_X0_makeFirstFrame_5_82 fu E a0 a1 (E.2 a1 0) x2 y0 0 (-4) S
  )
set_option maxRecDepth 100000 in
theorem kj_X0_makeFirstFrame_5_61 {X : Cx} {E : Ev} {t : St} {a0 a1 : Nat} (hQ : EndR mX0_makeFirstFrame X (PoV E t)) (hE : WE E) (fu : Nat) (ha0 : E.1 a0 = some (0, 5, 0)) (ha1 : E.1 a1 = some (0, 2, 0)) (x2 : Int32) (x3 : Int32) (y0 : Int32) (S : St) : K mX0_makeFirstFrame X E 61 [(0, .ref a0), (1, .ref a1), (2, .int x2), (3, .int x3)] [.int y0] S 0 0 (jb_X0_makeFirstFrame_5_61 fu E a0 a1 x2 x3 y0 S) t := by
  unfold jb_X0_makeFirstFrame_5_61
  refine K_istore (ls' := [(0, _), (1, _), (2, _), (3, _), (5, _)]) dX0_makeFirstFrame_61 (by decide) rfl ?_
  refine K_aload_n dX0_makeFirstFrame_63 rfl rfl ?_
  refine K_getC hE dX0_makeFirstFrame_64 f_X0_78_2 ha1 rfl rfl (fun h29 => ?_)
  refine K_iconst (v := 0) dX0_makeFirstFrame_67 (by decide) ?_
  refine K_iload dX0_makeFirstFrame_68 rfl ?_
  refine K_if_eq (tgt := 78) dX0_makeFirstFrame_70 (by decide) (fun c34 => ?_) (fun c34 => ?_)
  · refine K_bipush (v := 8) dX0_makeFirstFrame_78 (by decide) ?_
    refine K_iload_n dX0_makeFirstFrame_80 rfl rfl ?_
    refine K_imul dX0_makeFirstFrame_81 ?_
    refine K.keep [0, 1, 2, 5] ?_
    exact kj_X0_makeFirstFrame_5_82 hQ hE fu ha0 ha1 h29 x2 y0 0 (8 * x3) S
  · refine K_bipush (v := (-4)) dX0_makeFirstFrame_73 (by decide) ?_
    refine K_goto (tgt := 82) dX0_makeFirstFrame_75 (by decide) ?_
    refine K.keep [0, 1, 2, 5] ?_
    exact kj_X0_makeFirstFrame_5_82 hQ hE fu ha0 ha1 h29 x2 y0 0 (-4) S
def sp_X0_makeFirstFrame_5 (fu : Nat) (E : Ev) (S : St) (a0 : Nat) (a1 : Nat) : Option St :=
  (sp_X3_clear fu E S a1).bind fun u1 =>
  bnd (u1.1 (E.2 a0 0) 1) fun v3 =>
  if inb v3 30 = true then
    (
    bnd (u1.2.1 (E.2 (E.2 a0 5) 3) v3.toNatClampNeg) fun v7 =>
    if inb v3 30 = true then
      (
      if (u1.2.1 (E.2 (E.2 a0 5) 4) v3.toNatClampNeg) = 1 then (
        lp_X0_makeFirstFrame_5_95 fu E a0 a1 fu v3 0 0 u1
      ) else (
        if inb v3 30 = true then
          (
          if (u1.2.1 (E.2 (E.2 a0 5) 4) v3.toNatClampNeg) = 2 then (
            if v7 = 2 then (
              jb_X0_makeFirstFrame_5_61 fu E a0 a1 v3 v7 0 u1
            ) else (
              jb_X0_makeFirstFrame_5_61 fu E a0 a1 v3 v7 1 u1
            )
          ) else (
            jb_X0_makeFirstFrame_5_61 fu E a0 a1 v3 v7 0 u1
          )
          )
        else none
      )
      )
    else none
    )
  else none
set_option maxRecDepth 100000 in
theorem k_X0_makeFirstFrame_5 {l : Launch} (fu : Nat) {E : Ev} (hE : WE E) {a0 : Nat} (ha0 : E.1 a0 = some (0, 5, 0)) {a1 : Nat} (ha1 : E.1 a1 = some (0, 2, 0)) {S : St} {t : St} (h : sp_X0_makeFirstFrame_5 fu E S a0 a1 = some t) : Cn l mX0_makeFirstFrame [.ref a0, .ref a1] (hp E S) (PoV E t) := by
  refine Cn.of (by decide) rfl (Nat.le_of_ble_eq_true rfl) (fun X _ _ hQ => ?_)
  refine (?_ : K mX0_makeFirstFrame X E 0 [(0, .ref a0), (1, .ref a1)] [] S 0 0 (sp_X0_makeFirstFrame_5 fu E S a0 a1) t) h
  unfold sp_X0_makeFirstFrame_5
  refine K_aload_n dX0_makeFirstFrame_0 rfl rfl ?_
  refine K_bind (fun u1 hu1 => ?_)
  refine K_callVV (As := []) (k_X3_clear fu hE ha1 hu1) dX0_makeFirstFrame_1 v_X0_61 ha1 rfl rfl rfl rfl (Nat.le_of_ble_eq_true rfl) ⟨Nat.le_of_ble_eq_true rfl, Nat.le_of_ble_eq_true rfl, Nat.le_of_ble_eq_true rfl, Nat.le_of_ble_eq_true rfl⟩ ?_
  refine K_aload_n dX0_makeFirstFrame_4 rfl rfl ?_
  refine K_getC hE dX0_makeFirstFrame_5 f_X0_29_5 ha0 rfl rfl (fun h2 => ?_)
  refine K_getI dX0_makeFirstFrame_8 f_X0_64_0 h2 rfl ?_
  refine K_nmI (fun v3 => ?_)
  refine K_istore_n (ls' := [(0, _), (1, _), (2, _)]) dX0_makeFirstFrame_11 rfl (by decide) rfl ?_
  refine K_aload_n dX0_makeFirstFrame_12 rfl rfl ?_
  refine K_getC hE dX0_makeFirstFrame_13 f_X0_25_5 ha0 rfl rfl (fun h4 => ?_)
  refine K_getC hE dX0_makeFirstFrame_16 f_X0_69_7 h4 rfl rfl (fun h5 => ?_)
  refine K_iload_n dX0_makeFirstFrame_19 rfl rfl ?_
  refine K_chk (fun h6 => ?_)
  refine K_iald dX0_makeFirstFrame_20 h5 h6 ?_
  refine K_nmI (fun v7 => ?_)
  refine K_istore_n (ls' := [(0, _), (1, _), (2, _), (3, _)]) dX0_makeFirstFrame_21 rfl (by decide) rfl ?_
  refine K_iconst (v := 0) dX0_makeFirstFrame_22 (by decide) ?_
  refine K_istore (ls' := [(0, _), (1, _), (2, _), (3, _), (4, _)]) dX0_makeFirstFrame_23 (by decide) rfl ?_
  refine K_aload_n dX0_makeFirstFrame_25 rfl rfl ?_
  refine K_getC hE dX0_makeFirstFrame_26 f_X0_25_5 ha0 rfl rfl (fun h8 => ?_)
  refine K_getC hE dX0_makeFirstFrame_29 f_X0_75_7 h8 rfl rfl (fun h9 => ?_)
  refine K_iload_n dX0_makeFirstFrame_32 rfl rfl ?_
  refine K_chk (fun h10 => ?_)
  refine K_iald dX0_makeFirstFrame_33 h9 h10 ?_
  refine K_iconst (v := 1) dX0_makeFirstFrame_34 (by decide) ?_
  refine K_icmp_eq (tgt := 92) dX0_makeFirstFrame_35 (by decide) (fun c37 => ?_) (fun c37 => ?_)
  · refine K_iconst (v := 0) dX0_makeFirstFrame_92 (by decide) ?_
    refine K_istore (ls' := [(0, _), (1, _), (2, _), (3, _), (4, _), (5, _)]) dX0_makeFirstFrame_93 (by decide) rfl ?_
    refine K.keep [0, 1, 2, 4, 5] ?_
    exact kl_X0_makeFirstFrame_5_95 hQ hE fu ha0 ha1 fu v3 0 0 u1
  · refine K_aload_n dX0_makeFirstFrame_38 rfl rfl ?_
    refine K_getC hE dX0_makeFirstFrame_39 f_X0_25_5 ha0 rfl rfl (fun h26 => ?_)
    refine K_getC hE dX0_makeFirstFrame_42 f_X0_75_7 h26 rfl rfl (fun h27 => ?_)
    refine K_iload_n dX0_makeFirstFrame_45 rfl rfl ?_
    refine K_chk (fun h28 => ?_)
    refine K_iald dX0_makeFirstFrame_46 h27 h28 ?_
    refine K_iconst (v := 2) dX0_makeFirstFrame_47 (by decide) ?_
    refine K_icmp_ne (tgt := 60) dX0_makeFirstFrame_48 (by decide) (fun c36 => ?_) (fun c36 => ?_)
    · refine K_iconst (v := 0) dX0_makeFirstFrame_60 (by decide) ?_
      refine K.keep [0, 1, 2, 3] ?_
      exact kj_X0_makeFirstFrame_5_61 hQ hE fu ha0 ha1 v3 v7 0 u1
    · refine K_iload_n dX0_makeFirstFrame_51 rfl rfl ?_
      refine K_iconst (v := 2) dX0_makeFirstFrame_52 (by decide) ?_
      refine K_icmp_eq (tgt := 60) dX0_makeFirstFrame_53 (by decide) (fun c35 => ?_) (fun c35 => ?_)
      · refine K_iconst (v := 0) dX0_makeFirstFrame_60 (by decide) ?_
        refine K.keep [0, 1, 2, 3] ?_
        exact kj_X0_makeFirstFrame_5_61 hQ hE fu ha0 ha1 v3 v7 0 u1
      · refine K_iconst (v := 1) dX0_makeFirstFrame_56 (by decide) ?_
        refine K_goto (tgt := 61) dX0_makeFirstFrame_57 (by decide) ?_
        refine K.keep [0, 1, 2, 3] ?_
        exact kj_X0_makeFirstFrame_5_61 hQ hE fu ha0 ha1 v3 v7 1 u1
def bd_X10_frameFits_64 (fu : Nat) (E : Ev) (a0 a1 a2 : Nat) (rc64 : Int32 → St → Option (Int32 × St)) (x3 : Int32) (S : St) : Option (Int32 × St) :=
  if (S.1 a1 2) ≤ x3 then (
    some (1, S)
  ) else (
    if inb x3 12 = true then
      (
      if inb x3 12 = true then
        (
        (sp_X10_fits fu E S a0 (S.2.1 (E.2 a1 1) x3.toNatClampNeg) (S.2.1 (E.2 a2 1) x3.toNatClampNeg)).bind fun u5 =>
        if u5.1 = 0 then (
          some (0, u5.2)
        ) else (
          rc64 (x3 + 1) u5.2
        )
        )
      else none
      )
    else none
  )
def lp_X10_frameFits_64 (fu : Nat) (E : Ev) (a0 a1 a2 : Nat) : Nat → Int32 → St → Option (Int32 × St)
  | 0, _, _ => none
  | f + 1, x3, S => bd_X10_frameFits_64 fu E a0 a1 a2 (lp_X10_frameFits_64 fu E a0 a1 a2 f) x3 S
set_option maxRecDepth 100000 in
theorem kl_X10_frameFits_64 {X : Cx} {E : Ev} {t : (Int32 × St)} {a0 a1 a2 : Nat} (hQ : EndR mX10_frameFits X (PoI E t)) (hE : WE E) (fu : Nat) (ha0 : E.1 a0 = some (0, 8, 0)) (ha1 : E.1 a1 = some (0, 2, 0)) (ha2 : E.1 a2 = some (0, 2, 0)) : ∀ (f : Nat) (x3 : Int32) (S : St), K mX10_frameFits X E 64 [(0, .ref a0), (1, .ref a1), (2, .ref a2), (3, .int x3)] [] S 0 0 (lp_X10_frameFits_64 fu E a0 a1 a2 f x3 S) t := by
  intro f
  induction f with
  | zero => intro x3 S; exact K_none
  | succ f hrc64 =>
    intro x3 S
    show K _ _ _ _ _ _ _ _ _ (bd_X10_frameFits_64 fu E a0 a1 a2 (lp_X10_frameFits_64 fu E a0 a1 a2 f) x3 S) t
    unfold bd_X10_frameFits_64
    refine K_iload_n dX10_frameFits_64 rfl rfl ?_
    refine K_aload_n dX10_frameFits_65 rfl rfl ?_
    refine K_getI dX10_frameFits_66 f_X10_56_2 ha1 rfl ?_
    refine K_icmp_ge (tgt := 99) dX10_frameFits_69 (by decide) (fun c7 => ?_) (fun c7 => ?_)
    · refine K_iconst (v := 1) dX10_frameFits_99 (by decide) ?_
      exact K_zret dX10_frameFits_100 hQ rfl rfl (Nat.le_of_ble_eq_true rfl) (Nat.le_of_ble_eq_true rfl)
    · refine K_aload_n dX10_frameFits_72 rfl rfl ?_
      refine K_aload_n dX10_frameFits_73 rfl rfl ?_
      refine K_getC hE dX10_frameFits_74 f_X10_71_2 ha1 rfl rfl (fun h1 => ?_)
      refine K_iload_n dX10_frameFits_77 rfl rfl ?_
      refine K_chk (fun h2 => ?_)
      refine K_iald dX10_frameFits_78 h1 h2 ?_
      refine K_aload_n dX10_frameFits_79 rfl rfl ?_
      refine K_getC hE dX10_frameFits_80 f_X10_71_2 ha2 rfl rfl (fun h3 => ?_)
      refine K_iload_n dX10_frameFits_83 rfl rfl ?_
      refine K_chk (fun h4 => ?_)
      refine K_iald dX10_frameFits_84 h3 h4 ?_
      refine K_bind (fun u5 hu5 => ?_)
      refine K_callVI (As := [.int (S.2.1 (E.2 a1 1) x3.toNatClampNeg), .int (S.2.1 (E.2 a2 1) x3.toNatClampNeg)]) (k_X10_fits fu hE ha0 hu5) dX10_frameFits_85 v_X10_68 ha0 rfl rfl rfl rfl (Nat.le_of_ble_eq_true rfl) ⟨Nat.le_of_ble_eq_true rfl, Nat.le_of_ble_eq_true rfl, Nat.le_of_ble_eq_true rfl, Nat.le_of_ble_eq_true rfl⟩ ?_
      refine K_if_ne (tgt := 93) dX10_frameFits_88 (by decide) (fun c6 => ?_) (fun c6 => ?_)
      · refine K_iinc (v := (x3 + 1)) (ls' := [(0, _), (1, _), (2, _), (3, _)]) dX10_frameFits_93 rfl rfl (by decide) rfl ?_
        refine K_goto (tgt := 64) dX10_frameFits_96 (by decide) ?_
        refine K.keep [0, 1, 2, 3] ?_
        exact hrc64 (x3 + 1) u5.2
      · refine K_iconst (v := 0) dX10_frameFits_91 (by decide) ?_
        exact K_zret dX10_frameFits_92 hQ rfl rfl (Nat.le_of_ble_eq_true rfl) (Nat.le_of_ble_eq_true rfl)
def bd_X10_frameFits_29 (fu : Nat) (E : Ev) (a0 a1 a2 : Nat) (rc29 : Int32 → St → Option (Int32 × St)) (x3 : Int32) (S : St) : Option (Int32 × St) :=
  if 12 ≤ x3 then (
    lp_X10_frameFits_64 fu E a0 a1 a2 fu 0 S
  ) else (
    if inb x3 12 = true then
      (
      if inb x3 12 = true then
        (
        (sp_X10_fits fu E S a0 (S.2.1 (E.2 a1 0) x3.toNatClampNeg) (S.2.1 (E.2 a2 0) x3.toNatClampNeg)).bind fun u12 =>
        if u12.1 = 0 then (
          some (0, u12.2)
        ) else (
          rc29 (x3 + 1) u12.2
        )
        )
      else none
      )
    else none
  )
def lp_X10_frameFits_29 (fu : Nat) (E : Ev) (a0 a1 a2 : Nat) : Nat → Int32 → St → Option (Int32 × St)
  | 0, _, _ => none
  | f + 1, x3, S => bd_X10_frameFits_29 fu E a0 a1 a2 (lp_X10_frameFits_29 fu E a0 a1 a2 f) x3 S
set_option maxRecDepth 100000 in
theorem kl_X10_frameFits_29 {X : Cx} {E : Ev} {t : (Int32 × St)} {a0 a1 a2 : Nat} (hQ : EndR mX10_frameFits X (PoI E t)) (hE : WE E) (fu : Nat) (ha0 : E.1 a0 = some (0, 8, 0)) (ha1 : E.1 a1 = some (0, 2, 0)) (ha2 : E.1 a2 = some (0, 2, 0)) : ∀ (f : Nat) (x3 : Int32) (S : St), K mX10_frameFits X E 29 [(0, .ref a0), (1, .ref a1), (2, .ref a2), (3, .int x3)] [] S 0 0 (lp_X10_frameFits_29 fu E a0 a1 a2 f x3 S) t := by
  intro f
  induction f with
  | zero => intro x3 S; exact K_none
  | succ f hrc29 =>
    intro x3 S
    show K _ _ _ _ _ _ _ _ _ (bd_X10_frameFits_29 fu E a0 a1 a2 (lp_X10_frameFits_29 fu E a0 a1 a2 f) x3 S) t
    unfold bd_X10_frameFits_29
    refine K_iload_n dX10_frameFits_29 rfl rfl ?_
    refine K_bipush (v := 12) dX10_frameFits_30 (by decide) ?_
    refine K_icmp_ge (tgt := 62) dX10_frameFits_32 (by decide) (fun c14 => ?_) (fun c14 => ?_)
    · refine K_iconst (v := 0) dX10_frameFits_62 (by decide) ?_
      refine K_istore_n (ls' := [(0, _), (1, _), (2, _), (3, _)]) dX10_frameFits_63 rfl (by decide) rfl ?_
      refine K.keep [0, 1, 2, 3] ?_
      exact kl_X10_frameFits_64 hQ hE fu ha0 ha1 ha2 fu 0 S
    · refine K_aload_n dX10_frameFits_35 rfl rfl ?_
      refine K_aload_n dX10_frameFits_36 rfl rfl ?_
      refine K_getC hE dX10_frameFits_37 f_X10_65_2 ha1 rfl rfl (fun h8 => ?_)
      refine K_iload_n dX10_frameFits_40 rfl rfl ?_
      refine K_chk (fun h9 => ?_)
      refine K_iald dX10_frameFits_41 h8 h9 ?_
      refine K_aload_n dX10_frameFits_42 rfl rfl ?_
      refine K_getC hE dX10_frameFits_43 f_X10_65_2 ha2 rfl rfl (fun h10 => ?_)
      refine K_iload_n dX10_frameFits_46 rfl rfl ?_
      refine K_chk (fun h11 => ?_)
      refine K_iald dX10_frameFits_47 h10 h11 ?_
      refine K_bind (fun u12 hu12 => ?_)
      refine K_callVI (As := [.int (S.2.1 (E.2 a1 0) x3.toNatClampNeg), .int (S.2.1 (E.2 a2 0) x3.toNatClampNeg)]) (k_X10_fits fu hE ha0 hu12) dX10_frameFits_48 v_X10_68 ha0 rfl rfl rfl rfl (Nat.le_of_ble_eq_true rfl) ⟨Nat.le_of_ble_eq_true rfl, Nat.le_of_ble_eq_true rfl, Nat.le_of_ble_eq_true rfl, Nat.le_of_ble_eq_true rfl⟩ ?_
      refine K_if_ne (tgt := 56) dX10_frameFits_51 (by decide) (fun c13 => ?_) (fun c13 => ?_)
      · refine K_iinc (v := (x3 + 1)) (ls' := [(0, _), (1, _), (2, _), (3, _)]) dX10_frameFits_56 rfl rfl (by decide) rfl ?_
        refine K_goto (tgt := 29) dX10_frameFits_59 (by decide) ?_
        refine K.keep [0, 1, 2, 3] ?_
        exact hrc29 (x3 + 1) u12.2
      · refine K_iconst (v := 0) dX10_frameFits_54 (by decide) ?_
        exact K_zret dX10_frameFits_55 hQ rfl rfl (Nat.le_of_ble_eq_true rfl) (Nat.le_of_ble_eq_true rfl)
def sp_X10_frameFits (fu : Nat) (E : Ev) (S : St) (a0 : Nat) (a1 : Nat) (a2 : Nat) : Option (Int32 × St) :=
  if (S.1 a1 2) = (S.1 a2 2) then (
    if (S.1 a1 3) = 0 then (
      lp_X10_frameFits_29 fu E a0 a1 a2 fu 0 S
    ) else (
      if (S.1 a2 3) = 0 then (
        some (0, S)
      ) else (
        lp_X10_frameFits_29 fu E a0 a1 a2 fu 0 S
      )
    )
  ) else (
    some (0, S)
  )
set_option maxRecDepth 100000 in
theorem k_X10_frameFits {l : Launch} (fu : Nat) {E : Ev} (hE : WE E) {a0 : Nat} (ha0 : E.1 a0 = some (0, 8, 0)) {a1 : Nat} (ha1 : E.1 a1 = some (0, 2, 0)) {a2 : Nat} (ha2 : E.1 a2 = some (0, 2, 0)) {S : St} {t : (Int32 × St)} (h : sp_X10_frameFits fu E S a0 a1 a2 = some t) : Cn l mX10_frameFits [.ref a0, .ref a1, .ref a2] (hp E S) (PoI E t) := by
  refine Cn.of (by decide) rfl (Nat.le_of_ble_eq_true rfl) (fun X _ _ hQ => ?_)
  refine (?_ : K mX10_frameFits X E 0 [(0, .ref a0), (1, .ref a1), (2, .ref a2)] [] S 0 0 (sp_X10_frameFits fu E S a0 a1 a2) t) h
  unfold sp_X10_frameFits
  refine K_aload_n dX10_frameFits_0 rfl rfl ?_
  refine K_getI dX10_frameFits_1 f_X10_56_2 ha1 rfl ?_
  refine K_aload_n dX10_frameFits_4 rfl rfl ?_
  refine K_getI dX10_frameFits_5 f_X10_56_2 ha2 rfl ?_
  refine K_icmp_ne (tgt := 25) dX10_frameFits_8 (by decide) (fun c17 => ?_) (fun c17 => ?_)
  · refine K_iconst (v := 0) dX10_frameFits_25 (by decide) ?_
    exact K_zret dX10_frameFits_26 hQ rfl rfl (Nat.le_of_ble_eq_true rfl) (Nat.le_of_ble_eq_true rfl)
  · refine K_aload_n dX10_frameFits_11 rfl rfl ?_
    refine K_getI dX10_frameFits_12 f_X10_61_2 ha1 rfl ?_
    refine K_if_eq (tgt := 27) dX10_frameFits_15 (by decide) (fun c16 => ?_) (fun c16 => ?_)
    · refine K_iconst (v := 0) dX10_frameFits_27 (by decide) ?_
      refine K_istore_n (ls' := [(0, _), (1, _), (2, _), (3, _)]) dX10_frameFits_28 rfl (by decide) rfl ?_
      refine K.keep [0, 1, 2, 3] ?_
      exact kl_X10_frameFits_29 hQ hE fu ha0 ha1 ha2 fu 0 S
    · refine K_aload_n dX10_frameFits_18 rfl rfl ?_
      refine K_getI dX10_frameFits_19 f_X10_61_2 ha2 rfl ?_
      refine K_if_ne (tgt := 27) dX10_frameFits_22 (by decide) (fun c15 => ?_) (fun c15 => ?_)
      · refine K_iconst (v := 0) dX10_frameFits_27 (by decide) ?_
        refine K_istore_n (ls' := [(0, _), (1, _), (2, _), (3, _)]) dX10_frameFits_28 rfl (by decide) rfl ?_
        refine K.keep [0, 1, 2, 3] ?_
        exact kl_X10_frameFits_29 hQ hE fu ha0 ha1 ha2 fu 0 S
      · refine K_iconst (v := 0) dX10_frameFits_25 (by decide) ?_
        exact K_zret dX10_frameFits_26 hQ rfl rfl (Nat.le_of_ble_eq_true rfl) (Nat.le_of_ble_eq_true rfl)
def jb_X6_flow_42 (fu : Nat) (E : Ev) (y0 : Int32) (S : St) : Option (Int32 × St) :=
  if y0 = 0 then (
    some (10, S)
  ) else (
    some (0, S)
  )
set_option maxRecDepth 100000 in
theorem kj_X6_flow_42 {X : Cx} {E : Ev} {t : (Int32 × St)} (hQ : EndR mX6_flow X (PoI E t)) (hE : WE E) (fu : Nat) (y0 : Int32) (S : St) : K mX6_flow X E 42 [] [.int y0] S 0 0 (jb_X6_flow_42 fu E y0 S) t := by
  unfold jb_X6_flow_42
  refine K_istore (ls' := [(4, _)]) dX6_flow_42 (by decide) rfl ?_
  refine K_iload dX6_flow_44 rfl ?_
  refine K_if_eq (tgt := 53) dX6_flow_46 (by decide) (fun c3 => ?_) (fun c3 => ?_)
  · refine K_bipush (v := 10) dX6_flow_53 (by decide) ?_
    exact K_iret dX6_flow_55 hQ rfl (Nat.le_of_ble_eq_true rfl) (Nat.le_of_ble_eq_true rfl)
  · refine K_iconst (v := 0) dX6_flow_49 (by decide) ?_
    refine K_goto (tgt := 55) dX6_flow_50 (by decide) ?_
    exact K_iret dX6_flow_55 hQ rfl (Nat.le_of_ble_eq_true rfl) (Nat.le_of_ble_eq_true rfl)
def sp_X6_flow (fu : Nat) (E : Ev) (S : St) (a0 : Nat) (x1 : Int32) (a2 : Nat) (x3 : Int32) : Option (Int32 × St) :=
  if x3 = 0 then (
    (sp_X4_contains fu E S (E.2 a0 9) x1).bind fun u2 =>
    if u2.1 = 0 then (
      jb_X6_flow_42 fu E  0 u2.2
    ) else (
      if inb x1 100 = true then
        (
        (sp_X10_frameFits fu E u2.2 (E.2 a0 1) a2 (E.2 (E.2 (E.2 a0 9) 0) x1.toNatClampNeg)).bind fun u9 =>
        if u9.1 = 0 then (
          jb_X6_flow_42 fu E  0 u9.2
        ) else (
          jb_X6_flow_42 fu E  1 u9.2
        )
        )
      else none
    )
  ) else (
    some (0, S)
  )
set_option maxRecDepth 100000 in
theorem k_X6_flow {l : Launch} (fu : Nat) {E : Ev} (hE : WE E) {a0 : Nat} (ha0 : E.1 a0 = some (0, 5, 0)) {a2 : Nat} (ha2 : E.1 a2 = some (0, 2, 0)) {x1 : Int32} {x3 : Int32} {S : St} {t : (Int32 × St)} (h : sp_X6_flow fu E S a0 x1 a2 x3 = some t) : Cn l mX6_flow [.ref a0, .int x1, .ref a2, .int x3] (hp E S) (PoI E t) := by
  refine Cn.of (by decide) rfl (Nat.le_of_ble_eq_true rfl) (fun X _ _ hQ => ?_)
  refine (?_ : K mX6_flow X E 0 [(0, .ref a0), (1, .int x1), (2, .ref a2), (3, .int x3)] [] S 0 0 (sp_X6_flow fu E S a0 x1 a2 x3) t) h
  unfold sp_X6_flow
  refine K_iload_n dX6_flow_0 rfl rfl ?_
  refine K_if_eq (tgt := 6) dX6_flow_1 (by decide) (fun c12 => ?_) (fun c12 => ?_)
  · refine K_aload_n dX6_flow_6 rfl rfl ?_
    refine K_getC hE dX6_flow_7 f_X6_9_5 ha0 rfl rfl (fun h1 => ?_)
    refine K_iload_n dX6_flow_10 rfl rfl ?_
    refine K_bind (fun u2 hu2 => ?_)
    refine K_callVI (As := [.int x1]) (k_X4_contains fu hE h1 hu2) dX6_flow_11 v_X6_58 h1 rfl rfl rfl rfl (Nat.le_of_ble_eq_true rfl) ⟨Nat.le_of_ble_eq_true rfl, Nat.le_of_ble_eq_true rfl, Nat.le_of_ble_eq_true rfl, Nat.le_of_ble_eq_true rfl⟩ ?_
    refine K_if_eq (tgt := 41) dX6_flow_14 (by decide) (fun c11 => ?_) (fun c11 => ?_)
    · refine K_iconst (v := 0) dX6_flow_41 (by decide) ?_
      refine K.keep [] ?_
      exact kj_X6_flow_42 hQ hE fu  0 u2.2
    · refine K_aload_n dX6_flow_17 rfl rfl ?_
      refine K_getC hE dX6_flow_18 f_X6_63_5 ha0 rfl rfl (fun h4 => ?_)
      refine K_aload_n dX6_flow_21 rfl rfl ?_
      refine K_aload_n dX6_flow_22 rfl rfl ?_
      refine K_getC hE dX6_flow_23 f_X6_9_5 ha0 rfl rfl (fun h5 => ?_)
      refine K_getC hE dX6_flow_26 f_X6_67_3 h5 rfl rfl (fun h6 => ?_)
      refine K_iload_n dX6_flow_29 rfl rfl ?_
      refine K_chk (fun h7 => ?_)
      refine K_qald hE dX6_flow_30 h6 h7 (fun h8 => ?_)
      refine K_bind (fun u9 hu9 => ?_)
      refine K_callVI (As := [.ref a2, .ref (E.2 (E.2 (E.2 a0 9) 0) x1.toNatClampNeg)]) (k_X10_frameFits fu hE h4 ha2 h8 hu9) dX6_flow_31 v_X6_71 h4 rfl rfl rfl rfl (Nat.le_of_ble_eq_true rfl) ⟨Nat.le_of_ble_eq_true rfl, Nat.le_of_ble_eq_true rfl, Nat.le_of_ble_eq_true rfl, Nat.le_of_ble_eq_true rfl⟩ ?_
      refine K_if_eq (tgt := 41) dX6_flow_34 (by decide) (fun c10 => ?_) (fun c10 => ?_)
      · refine K_iconst (v := 0) dX6_flow_41 (by decide) ?_
        refine K.keep [] ?_
        exact kj_X6_flow_42 hQ hE fu  0 u9.2
      · refine K_iconst (v := 1) dX6_flow_37 (by decide) ?_
        refine K_goto (tgt := 42) dX6_flow_38 (by decide) ?_
        refine K.keep [] ?_
        exact kj_X6_flow_42 hQ hE fu  1 u9.2
  · refine K_iconst (v := 0) dX6_flow_4 (by decide) ?_
    exact K_iret dX6_flow_5 hQ rfl (Nat.le_of_ble_eq_true rfl) (Nat.le_of_ble_eq_true rfl)
def bd_X0_flowToHandlers_5_2 (fu : Nat) (E : Ev) (a0 : Nat) (rc2 : Int32 → Int32 → St → Option (Int32 × St)) (x1 : Int32) (x2 : Int32) (S : St) : Option (Int32 × St) :=
  if (S.1 (E.2 a0 0) 11) ≤ x2 then (
    some (0, S)
  ) else (
    (sp_X1_protects fu E S (E.2 a0 0) x2 x1).bind fun u3 =>
    if u3.1 = 0 then (
      rc2 x1 (x2 + 1) u3.2
    ) else (
      if (u3.2.1 (E.2 a0 0) 2) = 0 then (
        some (6, u3.2)
      ) else (
        if inb x2 10 = true then
          (
          (sp_X3_copyCaught fu E u3.2 (E.2 a0 8) (E.2 a0 2) (u3.2.2.1 (E.2 (E.2 a0 0) 10) x2.toNatClampNeg)).bind fun u10 =>
          if inb x2 10 = true then
            (
            (sp_X6_flow fu E u10 a0 (u10.2.1 (E.2 (E.2 a0 0) 9) x2.toNatClampNeg) (E.2 a0 8) 0).bind fun u15 =>
            if u15.1 = 0 then (
              rc2 x1 (x2 + 1) u15.2
            ) else (
              some (u15.1, u15.2)
            )
            )
          else none
          )
        else none
      )
    )
  )
def lp_X0_flowToHandlers_5_2 (fu : Nat) (E : Ev) (a0 : Nat) : Nat → Int32 → Int32 → St → Option (Int32 × St)
  | 0, _, _, _ => none
  | f + 1, x1, x2, S => bd_X0_flowToHandlers_5_2 fu E a0 (lp_X0_flowToHandlers_5_2 fu E a0 f) x1 x2 S
set_option maxRecDepth 100000 in
theorem kl_X0_flowToHandlers_5_2 {X : Cx} {E : Ev} {t : (Int32 × St)} {a0 : Nat} (hQ : EndR mX0_flowToHandlers X (PoI E t)) (hE : WE E) (fu : Nat) (ha0 : E.1 a0 = some (0, 5, 0)) : ∀ (f : Nat) (x1 : Int32) (x2 : Int32) (S : St), K mX0_flowToHandlers X E 2 [(0, .ref a0), (1, .int x1), (2, .int x2)] [] S 0 0 (lp_X0_flowToHandlers_5_2 fu E a0 f x1 x2 S) t := by
  intro f
  induction f with
  | zero => intro x1 x2 S; exact K_none
  | succ f hrc2 =>
    intro x1 x2 S
    show K _ _ _ _ _ _ _ _ _ (bd_X0_flowToHandlers_5_2 fu E a0 (lp_X0_flowToHandlers_5_2 fu E a0 f) x1 x2 S) t
    unfold bd_X0_flowToHandlers_5_2
    refine K_iload_n dX0_flowToHandlers_2 rfl rfl ?_
    refine K_aload_n dX0_flowToHandlers_3 rfl rfl ?_
    refine K_getC hE dX0_flowToHandlers_4 f_X0_29_5 ha0 rfl rfl (fun h1 => ?_)
    refine K_getI dX0_flowToHandlers_7 f_X0_106_0 h1 rfl ?_
    refine K_icmp_ge (tgt := 89) dX0_flowToHandlers_10 (by decide) (fun c19 => ?_) (fun c19 => ?_)
    · refine K_iconst (v := 0) dX0_flowToHandlers_89 (by decide) ?_
      exact K_iret dX0_flowToHandlers_90 hQ rfl (Nat.le_of_ble_eq_true rfl) (Nat.le_of_ble_eq_true rfl)
    · refine K_aload_n dX0_flowToHandlers_13 rfl rfl ?_
      refine K_getC hE dX0_flowToHandlers_14 f_X0_29_5 ha0 rfl rfl (fun h2 => ?_)
      refine K_iload_n dX0_flowToHandlers_17 rfl rfl ?_
      refine K_iload_n dX0_flowToHandlers_18 rfl rfl ?_
      refine K_bind (fun u3 hu3 => ?_)
      refine K_callVI (As := [.int x2, .int x1]) (k_X1_protects fu hE h2 hu3) dX0_flowToHandlers_19 v_X0_109 h2 rfl rfl rfl rfl (Nat.le_of_ble_eq_true rfl) ⟨Nat.le_of_ble_eq_true rfl, Nat.le_of_ble_eq_true rfl, Nat.le_of_ble_eq_true rfl, Nat.le_of_ble_eq_true rfl⟩ ?_
      refine K_if_eq (tgt := 83) dX0_flowToHandlers_22 (by decide) (fun c18 => ?_) (fun c18 => ?_)
      · refine K_iinc (v := (x2 + 1)) (ls' := [(0, _), (1, _), (2, _)]) dX0_flowToHandlers_83 rfl rfl (by decide) rfl ?_
        refine K_goto (tgt := 2) dX0_flowToHandlers_86 (by decide) ?_
        refine K.keep [0, 1, 2] ?_
        exact hrc2 x1 (x2 + 1) u3.2
      · refine K_aload_n dX0_flowToHandlers_25 rfl rfl ?_
        refine K_getC hE dX0_flowToHandlers_26 f_X0_29_5 ha0 rfl rfl (fun h4 => ?_)
        refine K_getI dX0_flowToHandlers_29 f_X0_113_0 h4 rfl ?_
        refine K_if_ne (tgt := 38) dX0_flowToHandlers_32 (by decide) (fun c17 => ?_) (fun c17 => ?_)
        · refine K_aload_n dX0_flowToHandlers_38 rfl rfl ?_
          refine K_getC hE dX0_flowToHandlers_39 f_X0_18_5 ha0 rfl rfl (fun h5 => ?_)
          refine K_aload_n dX0_flowToHandlers_42 rfl rfl ?_
          refine K_getC hE dX0_flowToHandlers_43 f_X0_12_5 ha0 rfl rfl (fun h6 => ?_)
          refine K_aload_n dX0_flowToHandlers_46 rfl rfl ?_
          refine K_getC hE dX0_flowToHandlers_47 f_X0_29_5 ha0 rfl rfl (fun h7 => ?_)
          refine K_getC hE dX0_flowToHandlers_50 f_X0_116_0 h7 rfl rfl (fun h8 => ?_)
          refine K_iload_n dX0_flowToHandlers_53 rfl rfl ?_
          refine K_chk (fun h9 => ?_)
          refine K_iald dX0_flowToHandlers_54 h8 h9 ?_
          refine K_bind (fun u10 hu10 => ?_)
          refine K_callVV (As := [.ref (E.2 a0 2), .int (u3.2.2.1 (E.2 (E.2 a0 0) 10) x2.toNatClampNeg)]) (k_X3_copyCaught fu hE h5 h6 hu10) dX0_flowToHandlers_55 v_X0_119 h5 rfl rfl rfl rfl (Nat.le_of_ble_eq_true rfl) ⟨Nat.le_of_ble_eq_true rfl, Nat.le_of_ble_eq_true rfl, Nat.le_of_ble_eq_true rfl, Nat.le_of_ble_eq_true rfl⟩ ?_
          refine K_aload_n dX0_flowToHandlers_58 rfl rfl ?_
          refine K_aload_n dX0_flowToHandlers_59 rfl rfl ?_
          refine K_getC hE dX0_flowToHandlers_60 f_X0_29_5 ha0 rfl rfl (fun h11 => ?_)
          refine K_getC hE dX0_flowToHandlers_63 f_X0_123_0 h11 rfl rfl (fun h12 => ?_)
          refine K_iload_n dX0_flowToHandlers_66 rfl rfl ?_
          refine K_chk (fun h13 => ?_)
          refine K_iald dX0_flowToHandlers_67 h12 h13 ?_
          refine K_aload_n dX0_flowToHandlers_68 rfl rfl ?_
          refine K_getC hE dX0_flowToHandlers_69 f_X0_18_5 ha0 rfl rfl (fun h14 => ?_)
          refine K_iconst (v := 0) dX0_flowToHandlers_72 (by decide) ?_
          refine K_bind (fun u15 hu15 => ?_)
          refine K_callUI (r := (RX6, TX6, 10)) (As := [.int (u10.2.1 (E.2 (E.2 a0 0) 9) x2.toNatClampNeg), .ref (E.2 a0 8), .int 0]) (k_X6_flow fu hE ha0 h14 hu15) dX0_flowToHandlers_73 u_X0_126_5 ha0 rfl rfl rfl (Nat.le_of_ble_eq_true rfl) ⟨Nat.le_of_ble_eq_true rfl, Nat.le_of_ble_eq_true rfl, Nat.le_of_ble_eq_true rfl, Nat.le_of_ble_eq_true rfl⟩ ?_
          refine K_istore_n (ls' := [(0, _), (1, _), (2, _), (3, _)]) dX0_flowToHandlers_76 rfl (by decide) rfl ?_
          refine K_iload_n dX0_flowToHandlers_77 rfl rfl ?_
          refine K_if_eq (tgt := 83) dX0_flowToHandlers_78 (by decide) (fun c16 => ?_) (fun c16 => ?_)
          · refine K_iinc (v := (x2 + 1)) (ls' := [(0, _), (1, _), (2, _), (3, _)]) dX0_flowToHandlers_83 rfl rfl (by decide) rfl ?_
            refine K_goto (tgt := 2) dX0_flowToHandlers_86 (by decide) ?_
            refine K.keep [0, 1, 2] ?_
            exact hrc2 x1 (x2 + 1) u15.2
          · refine K_iload_n dX0_flowToHandlers_81 rfl rfl ?_
            exact K_iret dX0_flowToHandlers_82 hQ rfl (Nat.le_of_ble_eq_true rfl) (Nat.le_of_ble_eq_true rfl)
        · refine K_bipush (v := 6) dX0_flowToHandlers_35 (by decide) ?_
          exact K_iret dX0_flowToHandlers_37 hQ rfl (Nat.le_of_ble_eq_true rfl) (Nat.le_of_ble_eq_true rfl)
def sp_X0_flowToHandlers_5 (fu : Nat) (E : Ev) (S : St) (a0 : Nat) (x1 : Int32) : Option (Int32 × St) :=
  lp_X0_flowToHandlers_5_2 fu E a0 fu x1 0 S
set_option maxRecDepth 100000 in
theorem k_X0_flowToHandlers_5 {l : Launch} (fu : Nat) {E : Ev} (hE : WE E) {a0 : Nat} (ha0 : E.1 a0 = some (0, 5, 0)) {x1 : Int32} {S : St} {t : (Int32 × St)} (h : sp_X0_flowToHandlers_5 fu E S a0 x1 = some t) : Cn l mX0_flowToHandlers [.ref a0, .int x1] (hp E S) (PoI E t) := by
  refine Cn.of (by decide) rfl (Nat.le_of_ble_eq_true rfl) (fun X _ _ hQ => ?_)
  refine (?_ : K mX0_flowToHandlers X E 0 [(0, .ref a0), (1, .int x1)] [] S 0 0 (sp_X0_flowToHandlers_5 fu E S a0 x1) t) h
  unfold sp_X0_flowToHandlers_5
  refine K_iconst (v := 0) dX0_flowToHandlers_0 (by decide) ?_
  refine K_istore_n (ls' := [(0, _), (1, _), (2, _)]) dX0_flowToHandlers_1 rfl (by decide) rfl ?_
  refine K.keep [0, 1, 2] ?_
  exact kl_X0_flowToHandlers_5_2 hQ hE fu ha0 fu x1 0 S
def jb_X0_flowToSuccessors_5_50 (fu : Nat) (E : Ev) (a0 : Nat) (x1 : Int32) (x2 : Int32) (x3 : Int32) (S : St) : Option (Int32 × St) :=
  if x3 = 0 then (
    (sp_X9_jumps fu E S x2).bind fun u6 =>
    if u6.1 = 0 then (
      some (x3, u6.2)
    ) else (
      if inb x1 100 = true then
        (
        (sp_X6_flow fu E u6.2 a0 (u6.2.2.1 (E.2 (E.2 a0 0) 5) x1.toNatClampNeg) (E.2 a0 2) 0).bind fun u11 =>
        some (u11.1, u11.2)
        )
      else none
    )
  ) else (
    some (x3, S)
  )
set_option maxRecDepth 100000 in
theorem kj_X0_flowToSuccessors_5_50 {X : Cx} {E : Ev} {t : (Int32 × St)} {a0 : Nat} (hQ : EndR mX0_flowToSuccessors X (PoI E t)) (hE : WE E) (fu : Nat) (ha0 : E.1 a0 = some (0, 5, 0)) (x1 : Int32) (x2 : Int32) (x3 : Int32) (S : St) : K mX0_flowToSuccessors X E 50 [(0, .ref a0), (1, .int x1), (2, .int x2), (3, .int x3)] [] S 0 0 (jb_X0_flowToSuccessors_5_50 fu E a0 x1 x2 x3 S) t := by
  unfold jb_X0_flowToSuccessors_5_50
  refine K_iload_n dX0_flowToSuccessors_50 rfl rfl ?_
  refine K_if_ne (tgt := 80) dX0_flowToSuccessors_51 (by decide) (fun c13 => ?_) (fun c13 => ?_)
  · refine K_iload_n dX0_flowToSuccessors_80 rfl rfl ?_
    exact K_iret dX0_flowToSuccessors_81 hQ rfl (Nat.le_of_ble_eq_true rfl) (Nat.le_of_ble_eq_true rfl)
  · refine K_iload_n dX0_flowToSuccessors_54 rfl rfl ?_
    refine K_bind (fun u6 hu6 => ?_)
    refine K_callSI (As := [.int x2]) (k_X9_jumps fu hE hu6) dX0_flowToSuccessors_55 s_X0_142 rfl rfl (Nat.le_of_ble_eq_true rfl) ⟨Nat.le_of_ble_eq_true rfl, Nat.le_of_ble_eq_true rfl, Nat.le_of_ble_eq_true rfl, Nat.le_of_ble_eq_true rfl⟩ ?_
    refine K_if_eq (tgt := 80) dX0_flowToSuccessors_58 (by decide) (fun c12 => ?_) (fun c12 => ?_)
    · refine K_iload_n dX0_flowToSuccessors_80 rfl rfl ?_
      exact K_iret dX0_flowToSuccessors_81 hQ rfl (Nat.le_of_ble_eq_true rfl) (Nat.le_of_ble_eq_true rfl)
    · refine K_aload_n dX0_flowToSuccessors_61 rfl rfl ?_
      refine K_aload_n dX0_flowToSuccessors_62 rfl rfl ?_
      refine K_getC hE dX0_flowToSuccessors_63 f_X0_29_5 ha0 rfl rfl (fun h7 => ?_)
      refine K_getC hE dX0_flowToSuccessors_66 f_X0_145_0 h7 rfl rfl (fun h8 => ?_)
      refine K_iload_n dX0_flowToSuccessors_69 rfl rfl ?_
      refine K_chk (fun h9 => ?_)
      refine K_iald dX0_flowToSuccessors_70 h8 h9 ?_
      refine K_aload_n dX0_flowToSuccessors_71 rfl rfl ?_
      refine K_getC hE dX0_flowToSuccessors_72 f_X0_12_5 ha0 rfl rfl (fun h10 => ?_)
      refine K_iconst (v := 0) dX0_flowToSuccessors_75 (by decide) ?_
      refine K_bind (fun u11 hu11 => ?_)
      refine K_callUI (r := (RX6, TX6, 10)) (As := [.int (u6.2.2.1 (E.2 (E.2 a0 0) 5) x1.toNatClampNeg), .ref (E.2 a0 2), .int 0]) (k_X6_flow fu hE ha0 h10 hu11) dX0_flowToSuccessors_76 u_X0_126_5 ha0 rfl rfl rfl (Nat.le_of_ble_eq_true rfl) ⟨Nat.le_of_ble_eq_true rfl, Nat.le_of_ble_eq_true rfl, Nat.le_of_ble_eq_true rfl, Nat.le_of_ble_eq_true rfl⟩ ?_
      refine K_istore_n (ls' := [(0, _), (1, _), (2, _), (3, _)]) dX0_flowToSuccessors_79 rfl (by decide) rfl ?_
      refine K_iload_n dX0_flowToSuccessors_80 rfl rfl ?_
      exact K_iret dX0_flowToSuccessors_81 hQ rfl (Nat.le_of_ble_eq_true rfl) (Nat.le_of_ble_eq_true rfl)
def sp_X0_flowToSuccessors_5 (fu : Nat) (E : Ev) (S : St) (a0 : Nat) (x1 : Int32) : Option (Int32 × St) :=
  if inb x1 100 = true then
    (
    bnd (S.2.1 (E.2 (E.2 a0 0) 4) x1.toNatClampNeg) fun v4 =>
    (sp_X9_fallsThrough fu E S v4).bind fun u5 =>
    if u5.1 = 0 then (
      jb_X0_flowToSuccessors_5_50 fu E a0 x1 v4 0 u5.2
    ) else (
      (sp_X1_isIndex fu E u5.2 (E.2 a0 0) (x1 + 1)).bind fun u15 =>
      if u15.1 = 0 then (
        jb_X0_flowToSuccessors_5_50 fu E a0 x1 v4 7 u15.2
      ) else (
        (sp_X6_flow fu E u15.2 a0 (x1 + 1) (E.2 a0 2) 1).bind fun u17 =>
        jb_X0_flowToSuccessors_5_50 fu E a0 x1 v4 u17.1 u17.2
      )
    )
    )
  else none
set_option maxRecDepth 100000 in
theorem k_X0_flowToSuccessors_5 {l : Launch} (fu : Nat) {E : Ev} (hE : WE E) {a0 : Nat} (ha0 : E.1 a0 = some (0, 5, 0)) {x1 : Int32} {S : St} {t : (Int32 × St)} (h : sp_X0_flowToSuccessors_5 fu E S a0 x1 = some t) : Cn l mX0_flowToSuccessors [.ref a0, .int x1] (hp E S) (PoI E t) := by
  refine Cn.of (by decide) rfl (Nat.le_of_ble_eq_true rfl) (fun X _ _ hQ => ?_)
  refine (?_ : K mX0_flowToSuccessors X E 0 [(0, .ref a0), (1, .int x1)] [] S 0 0 (sp_X0_flowToSuccessors_5 fu E S a0 x1) t) h
  unfold sp_X0_flowToSuccessors_5
  refine K_aload_n dX0_flowToSuccessors_0 rfl rfl ?_
  refine K_getC hE dX0_flowToSuccessors_1 f_X0_29_5 ha0 rfl rfl (fun h1 => ?_)
  refine K_getC hE dX0_flowToSuccessors_4 f_X0_130_0 h1 rfl rfl (fun h2 => ?_)
  refine K_iload_n dX0_flowToSuccessors_7 rfl rfl ?_
  refine K_chk (fun h3 => ?_)
  refine K_iald dX0_flowToSuccessors_8 h2 h3 ?_
  refine K_nmI (fun v4 => ?_)
  refine K_istore_n (ls' := [(0, _), (1, _), (2, _)]) dX0_flowToSuccessors_9 rfl (by decide) rfl ?_
  refine K_iconst (v := 0) dX0_flowToSuccessors_10 (by decide) ?_
  refine K_istore_n (ls' := [(0, _), (1, _), (2, _), (3, _)]) dX0_flowToSuccessors_11 rfl (by decide) rfl ?_
  refine K_iload_n dX0_flowToSuccessors_12 rfl rfl ?_
  refine K_bind (fun u5 hu5 => ?_)
  refine K_callSI (As := [.int v4]) (k_X9_fallsThrough fu hE hu5) dX0_flowToSuccessors_13 s_X0_133 rfl rfl (Nat.le_of_ble_eq_true rfl) ⟨Nat.le_of_ble_eq_true rfl, Nat.le_of_ble_eq_true rfl, Nat.le_of_ble_eq_true rfl, Nat.le_of_ble_eq_true rfl⟩ ?_
  refine K_if_eq (tgt := 50) dX0_flowToSuccessors_16 (by decide) (fun c19 => ?_) (fun c19 => ?_)
  · refine K.keep [0, 1, 2, 3] ?_
    exact kj_X0_flowToSuccessors_5_50 hQ hE fu ha0 x1 v4 0 u5.2
  · refine K_aload_n dX0_flowToSuccessors_19 rfl rfl ?_
    refine K_getC hE dX0_flowToSuccessors_20 f_X0_29_5 ha0 rfl rfl (fun h14 => ?_)
    refine K_iload_n dX0_flowToSuccessors_23 rfl rfl ?_
    refine K_iconst (v := 1) dX0_flowToSuccessors_24 (by decide) ?_
    refine K_iadd dX0_flowToSuccessors_25 ?_
    refine K_bind (fun u15 hu15 => ?_)
    refine K_callVI (As := [.int (x1 + 1)]) (k_X1_isIndex fu hE h14 hu15) dX0_flowToSuccessors_26 v_X0_139 h14 rfl rfl rfl rfl (Nat.le_of_ble_eq_true rfl) ⟨Nat.le_of_ble_eq_true rfl, Nat.le_of_ble_eq_true rfl, Nat.le_of_ble_eq_true rfl, Nat.le_of_ble_eq_true rfl⟩ ?_
    refine K_if_eq (tgt := 47) dX0_flowToSuccessors_29 (by decide) (fun c18 => ?_) (fun c18 => ?_)
    · refine K_bipush (v := 7) dX0_flowToSuccessors_47 (by decide) ?_
      refine K_istore_n (ls' := [(0, _), (1, _), (2, _), (3, _)]) dX0_flowToSuccessors_49 rfl (by decide) rfl ?_
      refine K.keep [0, 1, 2, 3] ?_
      exact kj_X0_flowToSuccessors_5_50 hQ hE fu ha0 x1 v4 7 u15.2
    · refine K_aload_n dX0_flowToSuccessors_32 rfl rfl ?_
      refine K_iload_n dX0_flowToSuccessors_33 rfl rfl ?_
      refine K_iconst (v := 1) dX0_flowToSuccessors_34 (by decide) ?_
      refine K_iadd dX0_flowToSuccessors_35 ?_
      refine K_aload_n dX0_flowToSuccessors_36 rfl rfl ?_
      refine K_getC hE dX0_flowToSuccessors_37 f_X0_12_5 ha0 rfl rfl (fun h16 => ?_)
      refine K_iconst (v := 1) dX0_flowToSuccessors_40 (by decide) ?_
      refine K_bind (fun u17 hu17 => ?_)
      refine K_callUI (r := (RX6, TX6, 10)) (As := [.int (x1 + 1), .ref (E.2 a0 2), .int 1]) (k_X6_flow fu hE ha0 h16 hu17) dX0_flowToSuccessors_41 u_X0_126_5 ha0 rfl rfl rfl (Nat.le_of_ble_eq_true rfl) ⟨Nat.le_of_ble_eq_true rfl, Nat.le_of_ble_eq_true rfl, Nat.le_of_ble_eq_true rfl, Nat.le_of_ble_eq_true rfl⟩ ?_
      refine K_goto (tgt := 49) dX0_flowToSuccessors_44 (by decide) ?_
      refine K_istore_n (ls' := [(0, _), (1, _), (2, _), (3, _)]) dX0_flowToSuccessors_49 rfl (by decide) rfl ?_
      refine K.keep [0, 1, 2, 3] ?_
      exact kj_X0_flowToSuccessors_5_50 hQ hE fu ha0 x1 v4 u17.1 u17.2
def jb_X0_process_5_43 (fu : Nat) (E : Ev) (a0 : Nat) (x1 : Int32) (x2 : Int32) (S : St) : Option (Int32 × St) :=
  if x2 = 0 then (
    some (x2, S)
  ) else (
    bnd (sF S a0 3 x1) fun S3 =>
    some (x2, S3)
  )
set_option maxRecDepth 100000 in
theorem kj_X0_process_5_43 {X : Cx} {E : Ev} {t : (Int32 × St)} {a0 : Nat} (hQ : EndR mX0_process X (PoI E t)) (hE : WE E) (fu : Nat) (ha0 : E.1 a0 = some (0, 5, 0)) (x1 : Int32) (x2 : Int32) (S : St) : K mX0_process X E 43 [(0, .ref a0), (1, .int x1), (2, .int x2)] [] S 0 0 (jb_X0_process_5_43 fu E a0 x1 x2 S) t := by
  unfold jb_X0_process_5_43
  refine K_iload_n dX0_process_43 rfl rfl ?_
  refine K_if_eq (tgt := 52) dX0_process_44 (by decide) (fun c4 => ?_) (fun c4 => ?_)
  · refine K_iload_n dX0_process_52 rfl rfl ?_
    exact K_iret dX0_process_53 hQ rfl (Nat.le_of_ble_eq_true rfl) (Nat.le_of_ble_eq_true rfl)
  · refine K_aload_n dX0_process_47 rfl rfl ?_
    refine K_iload_n dX0_process_48 rfl rfl ?_
    refine K_putI dX0_process_49 p_X0_49_5 ha0 rfl ?_
    refine K_nmS (fun S3 => ?_)
    refine K_iload_n dX0_process_52 rfl rfl ?_
    exact K_iret dX0_process_53 hQ rfl (Nat.le_of_ble_eq_true rfl) (Nat.le_of_ble_eq_true rfl)
def jb_X0_process_5_33 (fu : Nat) (E : Ev) (a0 : Nat) (x1 : Int32) (x2 : Int32) (S : St) : Option (Int32 × St) :=
  if x2 = 0 then (
    (sp_X0_flowToSuccessors_5 fu E S a0 x1).bind fun u5 =>
    jb_X0_process_5_43 fu E a0 x1 u5.1 u5.2
  ) else (
    jb_X0_process_5_43 fu E a0 x1 x2 S
  )
set_option maxRecDepth 100000 in
theorem kj_X0_process_5_33 {X : Cx} {E : Ev} {t : (Int32 × St)} {a0 : Nat} (hQ : EndR mX0_process X (PoI E t)) (hE : WE E) (fu : Nat) (ha0 : E.1 a0 = some (0, 5, 0)) (x1 : Int32) (x2 : Int32) (S : St) : K mX0_process X E 33 [(0, .ref a0), (1, .int x1), (2, .int x2)] [] S 0 0 (jb_X0_process_5_33 fu E a0 x1 x2 S) t := by
  unfold jb_X0_process_5_33
  refine K_iload_n dX0_process_33 rfl rfl ?_
  refine K_if_ne (tgt := 43) dX0_process_34 (by decide) (fun c6 => ?_) (fun c6 => ?_)
  · refine K.keep [0, 1, 2] ?_
    exact kj_X0_process_5_43 hQ hE fu ha0 x1 x2 S
  · refine K_aload_n dX0_process_37 rfl rfl ?_
    refine K_iload_n dX0_process_38 rfl rfl ?_
    refine K_bind (fun u5 hu5 => ?_)
    refine K_callUI (r := (RX6, TX6, 10)) (As := [.int x1]) (k_X0_flowToSuccessors_5 fu hE ha0 hu5) dX0_process_39 u_X0_103_5 ha0 rfl rfl rfl (Nat.le_of_ble_eq_true rfl) ⟨Nat.le_of_ble_eq_true rfl, Nat.le_of_ble_eq_true rfl, Nat.le_of_ble_eq_true rfl, Nat.le_of_ble_eq_true rfl⟩ ?_
    refine K_istore_n (ls' := [(0, _), (1, _), (2, _)]) dX0_process_42 rfl (by decide) rfl ?_
    refine K.keep [0, 1, 2] ?_
    exact kj_X0_process_5_43 hQ hE fu ha0 x1 u5.1 u5.2
def sp_X0_process_5 (fu : Nat) (E : Ev) (S : St) (a0 : Nat) (x1 : Int32) : Option (Int32 × St) :=
  bnd (sF S a0 4 ((S.1 a0 4) + 1)) fun S1 =>
  (sp_X0_flowToHandlers_5 fu E S1 a0 x1).bind fun u2 =>
  if u2.1 = 0 then (
    (sp_X7_execute fu E u2.2 (E.2 a0 7) x1 (E.2 a0 2)).bind fun u9 =>
    jb_X0_process_5_33 fu E a0 x1 u9.1 u9.2
  ) else (
    jb_X0_process_5_33 fu E a0 x1 u2.1 u2.2
  )
set_option maxRecDepth 100000 in
theorem k_X0_process_5 {l : Launch} (fu : Nat) {E : Ev} (hE : WE E) {a0 : Nat} (ha0 : E.1 a0 = some (0, 5, 0)) {x1 : Int32} {S : St} {t : (Int32 × St)} (h : sp_X0_process_5 fu E S a0 x1 = some t) : Cn l mX0_process [.ref a0, .int x1] (hp E S) (PoI E t) := by
  refine Cn.of (by decide) rfl (Nat.le_of_ble_eq_true rfl) (fun X _ _ hQ => ?_)
  refine (?_ : K mX0_process X E 0 [(0, .ref a0), (1, .int x1)] [] S 0 0 (sp_X0_process_5 fu E S a0 x1) t) h
  unfold sp_X0_process_5
  refine K_aload_n dX0_process_0 rfl rfl ?_
  refine K_dup dX0_process_1 rfl ?_
  refine K_getI dX0_process_2 f_X0_53_5 ha0 rfl ?_
  refine K_iconst (v := 1) dX0_process_5 (by decide) ?_
  refine K_iadd dX0_process_6 ?_
  refine K_putI dX0_process_7 p_X0_53_5 ha0 rfl ?_
  refine K_nmS (fun S1 => ?_)
  refine K_aload_n dX0_process_10 rfl rfl ?_
  refine K_iload_n dX0_process_11 rfl rfl ?_
  refine K_bind (fun u2 hu2 => ?_)
  refine K_callUI (r := (RX6, TX6, 10)) (As := [.int x1]) (k_X0_flowToHandlers_5 fu hE ha0 hu2) dX0_process_12 u_X0_96_5 ha0 rfl rfl rfl (Nat.le_of_ble_eq_true rfl) ⟨Nat.le_of_ble_eq_true rfl, Nat.le_of_ble_eq_true rfl, Nat.le_of_ble_eq_true rfl, Nat.le_of_ble_eq_true rfl⟩ ?_
  refine K_istore_n (ls' := [(0, _), (1, _), (2, _)]) dX0_process_15 rfl (by decide) rfl ?_
  refine K_iload_n dX0_process_16 rfl rfl ?_
  refine K_if_ne (tgt := 33) dX0_process_17 (by decide) (fun c10 => ?_) (fun c10 => ?_)
  · refine K.keep [0, 1, 2] ?_
    exact kj_X0_process_5_33 hQ hE fu ha0 x1 u2.1 u2.2
  · refine K_aload_n dX0_process_20 rfl rfl ?_
    refine K_getC hE dX0_process_21 f_X0_45_5 ha0 rfl rfl (fun h7 => ?_)
    refine K_iload_n dX0_process_24 rfl rfl ?_
    refine K_aload_n dX0_process_25 rfl rfl ?_
    refine K_getC hE dX0_process_26 f_X0_12_5 ha0 rfl rfl (fun h8 => ?_)
    refine K_bind (fun u9 hu9 => ?_)
    refine K_callVI (As := [.int x1, .ref (E.2 a0 2)]) (k_X7_execute fu hE h7 h8 hu9) dX0_process_29 v_X0_99 h7 rfl rfl rfl rfl (Nat.le_of_ble_eq_true rfl) ⟨Nat.le_of_ble_eq_true rfl, Nat.le_of_ble_eq_true rfl, Nat.le_of_ble_eq_true rfl, Nat.le_of_ble_eq_true rfl⟩ ?_
    refine K_istore_n (ls' := [(0, _), (1, _), (2, _)]) dX0_process_32 rfl (by decide) rfl ?_
    refine K.keep [0, 1, 2] ?_
    exact kj_X0_process_5_33 hQ hE fu ha0 x1 u9.1 u9.2
def jb_X6_enter_42 (fu : Nat) (E : Ev) (a0 : Nat) (x1 : Int32) (S : St) : Option (Int32 × St) :=
  if inb x1 100 = true then
    (
    (sp_X3_copyFrom fu E S (E.2 a0 2) (E.2 (E.2 (E.2 a0 9) 0) x1.toNatClampNeg)).bind fun u8 =>
    some (1, u8)
    )
  else none
set_option maxRecDepth 100000 in
theorem kj_X6_enter_42 {X : Cx} {E : Ev} {t : (Int32 × St)} {a0 : Nat} (hQ : EndR mX6_enter X (PoI E t)) (hE : WE E) (fu : Nat) (ha0 : E.1 a0 = some (0, 5, 0)) (x1 : Int32) (S : St) : K mX6_enter X E 42 [(0, .ref a0), (1, .int x1)] [] S 0 0 (jb_X6_enter_42 fu E a0 x1 S) t := by
  unfold jb_X6_enter_42
  refine K_aload_n dX6_enter_42 rfl rfl ?_
  refine K_getC hE dX6_enter_43 f_X6_19_5 ha0 rfl rfl (fun h3 => ?_)
  refine K_aload_n dX6_enter_46 rfl rfl ?_
  refine K_getC hE dX6_enter_47 f_X6_9_5 ha0 rfl rfl (fun h4 => ?_)
  refine K_getC hE dX6_enter_50 f_X6_67_3 h4 rfl rfl (fun h5 => ?_)
  refine K_iload_n dX6_enter_53 rfl rfl ?_
  refine K_chk (fun h6 => ?_)
  refine K_qald hE dX6_enter_54 h5 h6 (fun h7 => ?_)
  refine K_bind (fun u8 hu8 => ?_)
  refine K_callVV (As := [.ref (E.2 (E.2 (E.2 a0 9) 0) x1.toNatClampNeg)]) (k_X3_copyFrom fu hE h3 h7 hu8) dX6_enter_55 v_X6_77 h3 rfl rfl rfl rfl (Nat.le_of_ble_eq_true rfl) ⟨Nat.le_of_ble_eq_true rfl, Nat.le_of_ble_eq_true rfl, Nat.le_of_ble_eq_true rfl, Nat.le_of_ble_eq_true rfl⟩ ?_
  refine K_iconst (v := 1) dX6_enter_58 (by decide) ?_
  exact K_zret dX6_enter_59 hQ rfl rfl (Nat.le_of_ble_eq_true rfl) (Nat.le_of_ble_eq_true rfl)
def sp_X6_enter (fu : Nat) (E : Ev) (S : St) (a0 : Nat) (x1 : Int32) (x2 : Int32) : Option (Int32 × St) :=
  (sp_X4_contains fu E S (E.2 a0 9) x1).bind fun u2 =>
  if u2.1 = 0 then (
    if isB x2 = true then some (x2, u2.2) else none
  ) else (
    if x2 = 0 then (
      jb_X6_enter_42 fu E a0 x1 u2.2
    ) else (
      if inb x1 100 = true then
        (
        (sp_X10_frameFits fu E u2.2 (E.2 a0 1) (E.2 a0 2) (E.2 (E.2 (E.2 a0 9) 0) x1.toNatClampNeg)).bind fun u15 =>
        if u15.1 = 0 then (
          some (0, u15.2)
        ) else (
          jb_X6_enter_42 fu E a0 x1 u15.2
        )
        )
      else none
    )
  )
set_option maxRecDepth 100000 in
theorem k_X6_enter {l : Launch} (fu : Nat) {E : Ev} (hE : WE E) {a0 : Nat} (ha0 : E.1 a0 = some (0, 5, 0)) {x1 : Int32} {x2 : Int32} {S : St} {t : (Int32 × St)} (h : sp_X6_enter fu E S a0 x1 x2 = some t) : Cn l mX6_enter [.ref a0, .int x1, .int x2] (hp E S) (PoI E t) := by
  refine Cn.of (by decide) rfl (Nat.le_of_ble_eq_true rfl) (fun X _ _ hQ => ?_)
  refine (?_ : K mX6_enter X E 0 [(0, .ref a0), (1, .int x1), (2, .int x2)] [] S 0 0 (sp_X6_enter fu E S a0 x1 x2) t) h
  unfold sp_X6_enter
  refine K_aload_n dX6_enter_0 rfl rfl ?_
  refine K_getC hE dX6_enter_1 f_X6_9_5 ha0 rfl rfl (fun h1 => ?_)
  refine K_iload_n dX6_enter_4 rfl rfl ?_
  refine K_bind (fun u2 hu2 => ?_)
  refine K_callVI (As := [.int x1]) (k_X4_contains fu hE h1 hu2) dX6_enter_5 v_X6_58 h1 rfl rfl rfl rfl (Nat.le_of_ble_eq_true rfl) ⟨Nat.le_of_ble_eq_true rfl, Nat.le_of_ble_eq_true rfl, Nat.le_of_ble_eq_true rfl, Nat.le_of_ble_eq_true rfl⟩ ?_
  refine K_if_ne (tgt := 13) dX6_enter_8 (by decide) (fun c19 => ?_) (fun c19 => ?_)
  · refine K_iload_n dX6_enter_13 rfl rfl ?_
    refine K_if_eq (tgt := 42) dX6_enter_14 (by decide) (fun c17 => ?_) (fun c17 => ?_)
    · refine K.keep [0, 1] ?_
      exact kj_X6_enter_42 hQ hE fu ha0 x1 u2.2
    · refine K_aload_n dX6_enter_17 rfl rfl ?_
      refine K_getC hE dX6_enter_18 f_X6_63_5 ha0 rfl rfl (fun h9 => ?_)
      refine K_aload_n dX6_enter_21 rfl rfl ?_
      refine K_getC hE dX6_enter_22 f_X6_19_5 ha0 rfl rfl (fun h10 => ?_)
      refine K_aload_n dX6_enter_25 rfl rfl ?_
      refine K_getC hE dX6_enter_26 f_X6_9_5 ha0 rfl rfl (fun h11 => ?_)
      refine K_getC hE dX6_enter_29 f_X6_67_3 h11 rfl rfl (fun h12 => ?_)
      refine K_iload_n dX6_enter_32 rfl rfl ?_
      refine K_chk (fun h13 => ?_)
      refine K_qald hE dX6_enter_33 h12 h13 (fun h14 => ?_)
      refine K_bind (fun u15 hu15 => ?_)
      refine K_callVI (As := [.ref (E.2 a0 2), .ref (E.2 (E.2 (E.2 a0 9) 0) x1.toNatClampNeg)]) (k_X10_frameFits fu hE h9 h10 h14 hu15) dX6_enter_34 v_X6_71 h9 rfl rfl rfl rfl (Nat.le_of_ble_eq_true rfl) ⟨Nat.le_of_ble_eq_true rfl, Nat.le_of_ble_eq_true rfl, Nat.le_of_ble_eq_true rfl, Nat.le_of_ble_eq_true rfl⟩ ?_
      refine K_if_ne (tgt := 42) dX6_enter_37 (by decide) (fun c16 => ?_) (fun c16 => ?_)
      · refine K.keep [0, 1] ?_
        exact kj_X6_enter_42 hQ hE fu ha0 x1 u15.2
      · refine K_iconst (v := 0) dX6_enter_40 (by decide) ?_
        exact K_zret dX6_enter_41 hQ rfl rfl (Nat.le_of_ble_eq_true rfl) (Nat.le_of_ble_eq_true rfl)
  · refine K_iload_n dX6_enter_11 rfl rfl ?_
    refine K_chk (fun h18 => ?_)
    exact K_zret dX6_enter_12 hQ rfl h18 (Nat.le_of_ble_eq_true rfl) (Nat.le_of_ble_eq_true rfl)
def jb_X6_run_64 (fu : Nat) (E : Ev) (a0 : Nat) (rc23 : Int32 → Int32 → Int32 → St → Option (Int32 × St)) (x1 : Int32) (x3 : Int32) (S : St) : Option (Int32 × St) :=
  if inb x3 100 = true then
    (
    (sp_X9_fallsThrough fu E S (S.2.1 (E.2 (E.2 a0 0) 4) x3.toNatClampNeg)).bind fun u10 =>
    rc23 x1 u10.1 (x3 + 1) u10.2
    )
  else none
set_option maxRecDepth 100000 in
theorem kj_X6_run_64 {X : Cx} {E : Ev} {t : (Int32 × St)} {a0 : Nat} {rc23 : Int32 → Int32 → Int32 → St → Option (Int32 × St)} (hQ : EndR mX6_run X (PoI E t)) (hE : WE E) (fu : Nat) (ha0 : E.1 a0 = some (0, 5, 0)) (hrc23 : ∀ (x1 : Int32) (x2 : Int32) (x3 : Int32) (S : St), K mX6_run X E 23 [(0, .ref a0), (1, .int x1), (2, .int x2), (3, .int x3)] [] S 0 0 (rc23 x1 x2 x3 S) t) (x1 : Int32) (x3 : Int32) (S : St) : K mX6_run X E 64 [(0, .ref a0), (1, .int x1), (3, .int x3)] [] S 0 0 (jb_X6_run_64 fu E a0 rc23 x1 x3 S) t := by
  unfold jb_X6_run_64
  refine K_aload_n dX6_run_64 rfl rfl ?_
  refine K_getC hE dX6_run_65 f_X6_27_5 ha0 rfl rfl (fun h7 => ?_)
  refine K_getC hE dX6_run_68 f_X6_48_0 h7 rfl rfl (fun h8 => ?_)
  refine K_iload_n dX6_run_71 rfl rfl ?_
  refine K_chk (fun h9 => ?_)
  refine K_iald dX6_run_72 h8 h9 ?_
  refine K_bind (fun u10 hu10 => ?_)
  refine K_callSI (As := [.int (S.2.1 (E.2 (E.2 a0 0) 4) x3.toNatClampNeg)]) (k_X9_fallsThrough fu hE hu10) dX6_run_73 s_X6_52 rfl rfl (Nat.le_of_ble_eq_true rfl) ⟨Nat.le_of_ble_eq_true rfl, Nat.le_of_ble_eq_true rfl, Nat.le_of_ble_eq_true rfl, Nat.le_of_ble_eq_true rfl⟩ ?_
  refine K_istore_n (ls' := [(0, _), (1, _), (3, _), (2, _)]) dX6_run_76 rfl (by decide) rfl ?_
  refine K_iinc (v := (x3 + 1)) (ls' := [(0, _), (1, _), (3, _), (2, _)]) dX6_run_77 rfl rfl (by decide) rfl ?_
  refine K_goto (tgt := 23) dX6_run_80 (by decide) ?_
  refine K.keep [0, 1, 2, 3] ?_
  exact hrc23 x1 u10.1 (x3 + 1) u10.2
def bd_X6_run_23 (fu : Nat) (E : Ev) (a0 : Nat) (rc23 : Int32 → Int32 → Int32 → St → Option (Int32 × St)) (x1 : Int32) (x2 : Int32) (x3 : Int32) (S : St) : Option (Int32 × St) :=
  if (S.1 (E.2 a0 0) 6) ≤ x3 then (
    some (x1, S)
  ) else (
    if x1 = 0 then (
      (sp_X6_enter fu E S a0 x3 x2).bind fun u5 =>
      if u5.1 = 0 then (
        bnd (sF u5.2 a0 3 x3) fun S6 =>
        jb_X6_run_64 fu E a0 rc23 10 x3 S6
      ) else (
        (sp_X0_process_5 fu E u5.2 a0 x3).bind fun u11 =>
        jb_X6_run_64 fu E a0 rc23 u11.1 x3 u11.2
      )
    ) else (
      some (x1, S)
    )
  )
def lp_X6_run_23 (fu : Nat) (E : Ev) (a0 : Nat) : Nat → Int32 → Int32 → Int32 → St → Option (Int32 × St)
  | 0, _, _, _, _ => none
  | f + 1, x1, x2, x3, S => bd_X6_run_23 fu E a0 (lp_X6_run_23 fu E a0 f) x1 x2 x3 S
set_option maxRecDepth 100000 in
theorem kl_X6_run_23 {X : Cx} {E : Ev} {t : (Int32 × St)} {a0 : Nat} (hQ : EndR mX6_run X (PoI E t)) (hE : WE E) (fu : Nat) (ha0 : E.1 a0 = some (0, 5, 0)) : ∀ (f : Nat) (x1 : Int32) (x2 : Int32) (x3 : Int32) (S : St), K mX6_run X E 23 [(0, .ref a0), (1, .int x1), (2, .int x2), (3, .int x3)] [] S 0 0 (lp_X6_run_23 fu E a0 f x1 x2 x3 S) t := by
  intro f
  induction f with
  | zero => intro x1 x2 x3 S; exact K_none
  | succ f hrc23 =>
    intro x1 x2 x3 S
    show K _ _ _ _ _ _ _ _ _ (bd_X6_run_23 fu E a0 (lp_X6_run_23 fu E a0 f) x1 x2 x3 S) t
    unfold bd_X6_run_23
    refine K_iload_n dX6_run_23 rfl rfl ?_
    refine K_aload_n dX6_run_24 rfl rfl ?_
    refine K_getC hE dX6_run_25 f_X6_27_5 ha0 rfl rfl (fun h4 => ?_)
    refine K_getI dX6_run_28 f_X6_31_0 h4 rfl ?_
    refine K_icmp_ge (tgt := 83) dX6_run_31 (by decide) (fun c14 => ?_) (fun c14 => ?_)
    · refine K_iload_n dX6_run_83 rfl rfl ?_
      exact K_iret dX6_run_84 hQ rfl (Nat.le_of_ble_eq_true rfl) (Nat.le_of_ble_eq_true rfl)
    · refine K_iload_n dX6_run_34 rfl rfl ?_
      refine K_if_ne (tgt := 83) dX6_run_35 (by decide) (fun c13 => ?_) (fun c13 => ?_)
      · refine K_iload_n dX6_run_83 rfl rfl ?_
        exact K_iret dX6_run_84 hQ rfl (Nat.le_of_ble_eq_true rfl) (Nat.le_of_ble_eq_true rfl)
      · refine K_aload_n dX6_run_38 rfl rfl ?_
        refine K_iload_n dX6_run_39 rfl rfl ?_
        refine K_iload_n dX6_run_40 rfl rfl ?_
        refine K_bind (fun u5 hu5 => ?_)
        refine K_callVI (As := [.int x3, .int x2]) (k_X6_enter fu hE ha0 hu5) dX6_run_41 v_X6_37 ha0 rfl rfl rfl rfl (Nat.le_of_ble_eq_true rfl) ⟨Nat.le_of_ble_eq_true rfl, Nat.le_of_ble_eq_true rfl, Nat.le_of_ble_eq_true rfl, Nat.le_of_ble_eq_true rfl⟩ ?_
        refine K_if_eq (tgt := 56) dX6_run_44 (by decide) (fun c12 => ?_) (fun c12 => ?_)
        · refine K_bipush (v := 10) dX6_run_56 (by decide) ?_
          refine K_istore_n (ls' := [(0, _), (1, _), (2, _), (3, _)]) dX6_run_58 rfl (by decide) rfl ?_
          refine K_aload_n dX6_run_59 rfl rfl ?_
          refine K_iload_n dX6_run_60 rfl rfl ?_
          refine K_putI dX6_run_61 p_X6_45_5 ha0 rfl ?_
          refine K_nmS (fun S6 => ?_)
          refine K.keep [0, 1, 3] ?_
          exact kj_X6_run_64 hQ hE fu ha0 hrc23 10 x3 S6
        · refine K_aload_n dX6_run_47 rfl rfl ?_
          refine K_iload_n dX6_run_48 rfl rfl ?_
          refine K_bind (fun u11 hu11 => ?_)
          refine K_callUI (r := (RX6, TX6, 10)) (As := [.int x3]) (k_X0_process_5 fu hE ha0 hu11) dX6_run_49 u_X6_41_5 ha0 rfl rfl rfl (Nat.le_of_ble_eq_true rfl) ⟨Nat.le_of_ble_eq_true rfl, Nat.le_of_ble_eq_true rfl, Nat.le_of_ble_eq_true rfl, Nat.le_of_ble_eq_true rfl⟩ ?_
          refine K_istore_n (ls' := [(0, _), (1, _), (2, _), (3, _)]) dX6_run_52 rfl (by decide) rfl ?_
          refine K_goto (tgt := 64) dX6_run_53 (by decide) ?_
          refine K.keep [0, 1, 3] ?_
          exact kj_X6_run_64 hQ hE fu ha0 hrc23 u11.1 x3 u11.2
def sp_X6_run (fu : Nat) (E : Ev) (S : St) (a0 : Nat) : Option (Int32 × St) :=
  (sp_X0_examine_5 fu E S a0).bind fun u1 =>
  if u1.1 = 0 then (
    (sp_X0_makeFirstFrame_5 fu E u1.2 a0 (E.2 a0 2)).bind fun u3 =>
    lp_X6_run_23 fu E a0 fu u1.1 1 0 u3
  ) else (
    some (u1.1, u1.2)
  )
set_option maxRecDepth 100000 in
theorem k_X6_run {l : Launch} (fu : Nat) {E : Ev} (hE : WE E) {a0 : Nat} (ha0 : E.1 a0 = some (0, 5, 0)) {S : St} {t : (Int32 × St)} (h : sp_X6_run fu E S a0 = some t) : Cn l mX6_run [.ref a0] (hp E S) (PoI E t) := by
  refine Cn.of (by decide) rfl (Nat.le_of_ble_eq_true rfl) (fun X _ _ hQ => ?_)
  refine (?_ : K mX6_run X E 0 [(0, .ref a0)] [] S 0 0 (sp_X6_run fu E S a0) t) h
  unfold sp_X6_run
  refine K_aload_n dX6_run_0 rfl rfl ?_
  refine K_bind (fun u1 hu1 => ?_)
  refine K_callUI (r := (RX6, TX6, 10)) (As := []) (k_X0_examine_5 fu hE ha0 hu1) dX6_run_1 u_X6_15_5 ha0 rfl rfl rfl (Nat.le_of_ble_eq_true rfl) ⟨Nat.le_of_ble_eq_true rfl, Nat.le_of_ble_eq_true rfl, Nat.le_of_ble_eq_true rfl, Nat.le_of_ble_eq_true rfl⟩ ?_
  refine K_istore_n (ls' := [(0, _), (1, _)]) dX6_run_4 rfl (by decide) rfl ?_
  refine K_iload_n dX6_run_5 rfl rfl ?_
  refine K_if_eq (tgt := 11) dX6_run_6 (by decide) (fun c15 => ?_) (fun c15 => ?_)
  · refine K_aload_n dX6_run_11 rfl rfl ?_
    refine K_aload_n dX6_run_12 rfl rfl ?_
    refine K_getC hE dX6_run_13 f_X6_19_5 ha0 rfl rfl (fun h2 => ?_)
    refine K_bind (fun u3 hu3 => ?_)
    refine K_callUV (r := (RX6, TX6, 10)) (As := [.ref (E.2 a0 2)]) (k_X0_makeFirstFrame_5 fu hE ha0 h2 hu3) dX6_run_16 u_X6_23_5 ha0 rfl rfl rfl (Nat.le_of_ble_eq_true rfl) ⟨Nat.le_of_ble_eq_true rfl, Nat.le_of_ble_eq_true rfl, Nat.le_of_ble_eq_true rfl, Nat.le_of_ble_eq_true rfl⟩ ?_
    refine K_iconst (v := 1) dX6_run_19 (by decide) ?_
    refine K_istore_n (ls' := [(0, _), (1, _), (2, _)]) dX6_run_20 rfl (by decide) rfl ?_
    refine K_iconst (v := 0) dX6_run_21 (by decide) ?_
    refine K_istore_n (ls' := [(0, _), (1, _), (2, _), (3, _)]) dX6_run_22 rfl (by decide) rfl ?_
    refine K.keep [0, 1, 2, 3] ?_
    exact kl_X6_run_23 hQ hE fu ha0 fu u1.1 1 0 u3
  · refine K_iload_n dX6_run_9 rfl rfl ?_
    exact K_iret dX6_run_10 hQ rfl (Nat.le_of_ble_eq_true rfl) (Nat.le_of_ble_eq_true rfl)
def sp_X8_addParameter (fu : Nat) (E : Ev) (S : St) (a0 : Nat) (x1 : Int32) : Option (Int32 × St) :=
  if inb (S.1 a0 11) 6 = true then (
    bnd (sG S (E.2 a0 10) ((S.1 a0 11).toNatClampNeg) x1) fun S3 =>
    bnd (sF S3 a0 11 ((S3.1 a0 11) + 1)) fun S4 =>
    (sp_X11_slotsOf fu E S4 x1).bind fun u5 =>
    bnd (sF u5.2 a0 12 ((S4.1 a0 12) + u5.1)) fun S6 =>
    some (S6.1 a0 12, S6)
  ) else none
set_option maxRecDepth 100000 in
theorem k_X8_addParameter {l : Launch} (fu : Nat) {E : Ev} (hE : WE E) {a0 : Nat} (ha0 : E.1 a0 = some (0, 7, 0)) {x1 : Int32} {S : St} {t : (Int32 × St)} (h : sp_X8_addParameter fu E S a0 x1 = some t) : Cn l mX8_addParameter [.ref a0, .int x1] (hp E S) (PoI E t) := by
  refine Cn.of (by decide) rfl (Nat.le_of_ble_eq_true rfl) (fun X _ _ hQ => ?_)
  refine (?_ : K mX8_addParameter X E 0 [(0, .ref a0), (1, .int x1)] [] S 0 0 (sp_X8_addParameter fu E S a0 x1) t) h
  unfold sp_X8_addParameter
  refine K_aload_n dX8_addParameter_0 rfl rfl ?_
  refine K_getC hE dX8_addParameter_1 f_X8_36_7 ha0 rfl rfl (fun h1 => ?_)
  refine K_aload_n dX8_addParameter_4 rfl rfl ?_
  refine K_getI dX8_addParameter_5 f_X8_50_7 ha0 rfl ?_
  refine K_iload_n dX8_addParameter_8 rfl rfl ?_
  refine K_chk (fun h2 => ?_)
  refine K_iast dX8_addParameter_9 h1 h2 ?_
  refine K_nmS (fun S3 => ?_)
  refine K_aload_n dX8_addParameter_10 rfl rfl ?_
  refine K_dup dX8_addParameter_11 rfl ?_
  refine K_getI dX8_addParameter_12 f_X8_50_7 ha0 rfl ?_
  refine K_iconst (v := 1) dX8_addParameter_15 (by decide) ?_
  refine K_iadd dX8_addParameter_16 ?_
  refine K_putI dX8_addParameter_17 p_X8_50_7 ha0 rfl ?_
  refine K_nmS (fun S4 => ?_)
  refine K_aload_n dX8_addParameter_20 rfl rfl ?_
  refine K_dup dX8_addParameter_21 rfl ?_
  refine K_getI dX8_addParameter_22 f_X8_53_7 ha0 rfl ?_
  refine K_iload_n dX8_addParameter_25 rfl rfl ?_
  refine K_bind (fun u5 hu5 => ?_)
  refine K_callSI (As := [.int x1]) (k_X11_slotsOf fu hE hu5) dX8_addParameter_26 s_X8_56 rfl rfl (Nat.le_of_ble_eq_true rfl) ⟨Nat.le_of_ble_eq_true rfl, Nat.le_of_ble_eq_true rfl, Nat.le_of_ble_eq_true rfl, Nat.le_of_ble_eq_true rfl⟩ ?_
  refine K_iadd dX8_addParameter_29 ?_
  refine K_putI dX8_addParameter_30 p_X8_53_7 ha0 rfl ?_
  refine K_nmS (fun S6 => ?_)
  refine K_aload_n dX8_addParameter_33 rfl rfl ?_
  refine K_getI dX8_addParameter_34 f_X8_53_7 ha0 rfl ?_
  exact K_iret dX8_addParameter_37 hQ rfl (Nat.le_of_ble_eq_true rfl) (Nat.le_of_ble_eq_true rfl)
def sp_X8_dropParameters (fu : Nat) (E : Ev) (S : St) (a0 : Nat) : Option St :=
  bnd (sF S a0 11 0) fun S1 =>
  bnd (sF S1 a0 12 0) fun S2 =>
  some S2
set_option maxRecDepth 100000 in
theorem k_X8_dropParameters {l : Launch} (fu : Nat) {E : Ev} (hE : WE E) {a0 : Nat} (ha0 : E.1 a0 = some (0, 7, 0)) {S : St} {t : St} (h : sp_X8_dropParameters fu E S a0 = some t) : Cn l mX8_dropParameters [.ref a0] (hp E S) (PoV E t) := by
  refine Cn.of (by decide) rfl (Nat.le_of_ble_eq_true rfl) (fun X _ _ hQ => ?_)
  refine (?_ : K mX8_dropParameters X E 0 [(0, .ref a0)] [] S 0 0 (sp_X8_dropParameters fu E S a0) t) h
  unfold sp_X8_dropParameters
  refine K_aload_n dX8_dropParameters_0 rfl rfl ?_
  refine K_iconst (v := 0) dX8_dropParameters_1 (by decide) ?_
  refine K_putI dX8_dropParameters_2 p_X8_50_7 ha0 rfl ?_
  refine K_nmS (fun S1 => ?_)
  refine K_aload_n dX8_dropParameters_5 rfl rfl ?_
  refine K_iconst (v := 0) dX8_dropParameters_6 (by decide) ?_
  refine K_putI dX8_dropParameters_7 p_X8_53_7 ha0 rfl ?_
  refine K_nmS (fun S2 => ?_)
  exact K_vret dX8_dropParameters_10 hQ rfl (Nat.le_of_ble_eq_true rfl) (Nat.le_of_ble_eq_true rfl)
def sp_X8_addMethod (fu : Nat) (E : Ev) (S : St) (a0 : Nat) (x1 : Int32) (x2 : Int32) (x3 : Int32) : Option (Int32 × St) :=
  if inb (S.1 a0 9) 30 = true then (
    bnd (sG S (E.2 a0 3) ((S.1 a0 9).toNatClampNeg) x1) fun S3 =>
    if inb (S3.1 a0 9) 30 = true then (
      bnd (sG S3 (E.2 a0 4) ((S3.1 a0 9).toNatClampNeg) x2) fun S6 =>
      if inb (S6.1 a0 9) 30 = true then (
        bnd (sG S6 (E.2 a0 5) ((S6.1 a0 9).toNatClampNeg) x3) fun S9 =>
        if inb (S9.1 a0 9) 30 = true then (
          bnd (sG S9 (E.2 a0 6) ((S9.1 a0 9).toNatClampNeg) (S9.1 a0 11)) fun S12 =>
          if inb (S12.1 a0 9) 30 = true then (
            bnd (sG S12 (E.2 a0 7) ((S12.1 a0 9).toNatClampNeg) (S12.1 a0 12)) fun S15 =>
            if cpk 0 ((S15.1 a0 9) * 6) (S15.1 a0 11) 6 180 = true then (
              bnd (sC S15 (E.2 a0 10) (E.2 a0 8) (0 : Int32).toNatClampNeg ((S15.1 a0 9) * 6 : Int32).toNatClampNeg (S15.1 a0 11 : Int32).toNatClampNeg) fun S19 =>
              (sp_X8_dropParameters fu E S19 a0).bind fun u20 =>
              bnd (sF u20 a0 9 ((u20.1 a0 9) + 1)) fun S21 =>
              some ((S21.1 a0 9) - 1, S21)
            ) else none
          ) else none
        ) else none
      ) else none
    ) else none
  ) else none
set_option maxRecDepth 100000 in
theorem k_X8_addMethod {l : Launch} (fu : Nat) {E : Ev} (hE : WE E) {a0 : Nat} (ha0 : E.1 a0 = some (0, 7, 0)) {x1 : Int32} {x2 : Int32} {x3 : Int32} {S : St} {t : (Int32 × St)} (h : sp_X8_addMethod fu E S a0 x1 x2 x3 = some t) : Cn l mX8_addMethod [.ref a0, .int x1, .int x2, .int x3] (hp E S) (PoI E t) := by
  refine Cn.of (by decide) rfl (Nat.le_of_ble_eq_true rfl) (fun X _ _ hQ => ?_)
  refine (?_ : K mX8_addMethod X E 0 [(0, .ref a0), (1, .int x1), (2, .int x2), (3, .int x3)] [] S 0 0 (sp_X8_addMethod fu E S a0 x1 x2 x3) t) h
  unfold sp_X8_addMethod
  refine K_aload_n dX8_addMethod_0 rfl rfl ?_
  refine K_getC hE dX8_addMethod_1 f_X8_18_7 ha0 rfl rfl (fun h1 => ?_)
  refine K_aload_n dX8_addMethod_4 rfl rfl ?_
  refine K_getI dX8_addMethod_5 f_X8_43_7 ha0 rfl ?_
  refine K_iload_n dX8_addMethod_8 rfl rfl ?_
  refine K_chk (fun h2 => ?_)
  refine K_iast dX8_addMethod_9 h1 h2 ?_
  refine K_nmS (fun S3 => ?_)
  refine K_aload_n dX8_addMethod_10 rfl rfl ?_
  refine K_getC hE dX8_addMethod_11 f_X8_21_7 ha0 rfl rfl (fun h4 => ?_)
  refine K_aload_n dX8_addMethod_14 rfl rfl ?_
  refine K_getI dX8_addMethod_15 f_X8_43_7 ha0 rfl ?_
  refine K_iload_n dX8_addMethod_18 rfl rfl ?_
  refine K_chk (fun h5 => ?_)
  refine K_iast dX8_addMethod_19 h4 h5 ?_
  refine K_nmS (fun S6 => ?_)
  refine K_aload_n dX8_addMethod_20 rfl rfl ?_
  refine K_getC hE dX8_addMethod_21 f_X8_24_7 ha0 rfl rfl (fun h7 => ?_)
  refine K_aload_n dX8_addMethod_24 rfl rfl ?_
  refine K_getI dX8_addMethod_25 f_X8_43_7 ha0 rfl ?_
  refine K_iload_n dX8_addMethod_28 rfl rfl ?_
  refine K_chk (fun h8 => ?_)
  refine K_iast dX8_addMethod_29 h7 h8 ?_
  refine K_nmS (fun S9 => ?_)
  refine K_aload_n dX8_addMethod_30 rfl rfl ?_
  refine K_getC hE dX8_addMethod_31 f_X8_27_7 ha0 rfl rfl (fun h10 => ?_)
  refine K_aload_n dX8_addMethod_34 rfl rfl ?_
  refine K_getI dX8_addMethod_35 f_X8_43_7 ha0 rfl ?_
  refine K_aload_n dX8_addMethod_38 rfl rfl ?_
  refine K_getI dX8_addMethod_39 f_X8_50_7 ha0 rfl ?_
  refine K_chk (fun h11 => ?_)
  refine K_iast dX8_addMethod_42 h10 h11 ?_
  refine K_nmS (fun S12 => ?_)
  refine K_aload_n dX8_addMethod_43 rfl rfl ?_
  refine K_getC hE dX8_addMethod_44 f_X8_30_7 ha0 rfl rfl (fun h13 => ?_)
  refine K_aload_n dX8_addMethod_47 rfl rfl ?_
  refine K_getI dX8_addMethod_48 f_X8_43_7 ha0 rfl ?_
  refine K_aload_n dX8_addMethod_51 rfl rfl ?_
  refine K_getI dX8_addMethod_52 f_X8_53_7 ha0 rfl ?_
  refine K_chk (fun h14 => ?_)
  refine K_iast dX8_addMethod_55 h13 h14 ?_
  refine K_nmS (fun S15 => ?_)
  refine K_aload_n dX8_addMethod_56 rfl rfl ?_
  refine K_getC hE dX8_addMethod_57 f_X8_36_7 ha0 rfl rfl (fun h16 => ?_)
  refine K_iconst (v := 0) dX8_addMethod_60 (by decide) ?_
  refine K_aload_n dX8_addMethod_61 rfl rfl ?_
  refine K_getC hE dX8_addMethod_62 f_X8_33_7 ha0 rfl rfl (fun h17 => ?_)
  refine K_aload_n dX8_addMethod_65 rfl rfl ?_
  refine K_getI dX8_addMethod_66 f_X8_43_7 ha0 rfl ?_
  refine K_bipush (v := 6) dX8_addMethod_69 (by decide) ?_
  refine K_imul dX8_addMethod_71 ?_
  refine K_aload_n dX8_addMethod_72 rfl rfl ?_
  refine K_getI dX8_addMethod_73 f_X8_50_7 ha0 rfl ?_
  refine K_chk (fun h18 => ?_)
  refine K_copy dX8_addMethod_76 a_X8_60 h16 h17 h18 (Nat.le_of_ble_eq_true rfl) (Nat.le_of_ble_eq_true rfl) ?_
  refine K_nmS (fun S19 => ?_)
  refine K_aload_n dX8_addMethod_79 rfl rfl ?_
  refine K_bind (fun u20 hu20 => ?_)
  refine K_callVV (As := []) (k_X8_dropParameters fu hE ha0 hu20) dX8_addMethod_80 v_X8_66 ha0 rfl rfl rfl rfl (Nat.le_of_ble_eq_true rfl) ⟨Nat.le_of_ble_eq_true rfl, Nat.le_of_ble_eq_true rfl, Nat.le_of_ble_eq_true rfl, Nat.le_of_ble_eq_true rfl⟩ ?_
  refine K_aload_n dX8_addMethod_83 rfl rfl ?_
  refine K_dup dX8_addMethod_84 rfl ?_
  refine K_getI dX8_addMethod_85 f_X8_43_7 ha0 rfl ?_
  refine K_iconst (v := 1) dX8_addMethod_88 (by decide) ?_
  refine K_iadd dX8_addMethod_89 ?_
  refine K_putI dX8_addMethod_90 p_X8_43_7 ha0 rfl ?_
  refine K_nmS (fun S21 => ?_)
  refine K_aload_n dX8_addMethod_93 rfl rfl ?_
  refine K_getI dX8_addMethod_94 f_X8_43_7 ha0 rfl ?_
  refine K_iconst (v := 1) dX8_addMethod_97 (by decide) ?_
  refine K_isub dX8_addMethod_98 ?_
  exact K_iret dX8_addMethod_99 hQ rfl (Nat.le_of_ble_eq_true rfl) (Nat.le_of_ble_eq_true rfl)
def sp_X10_add (fu : Nat) (E : Ev) (S : St) (a0 : Nat) (x1 : Int32) (x2 : Int32) : Option (Int32 × St) :=
  if inb (S.1 a0 2) 20 = true then (
    bnd (sG S (E.2 a0 0) ((S.1 a0 2).toNatClampNeg) x1) fun S3 =>
    if inb (S3.1 a0 2) 20 = true then (
    if isB x2 = true then (
      bnd (sG S3 (E.2 a0 1) ((S3.1 a0 2).toNatClampNeg) x2) fun S7 =>
      bnd (sF S7 a0 2 ((S7.1 a0 2) + 1)) fun S8 =>
      some ((S8.1 a0 2) - 1, S8)
    ) else none
    ) else none
  ) else none
set_option maxRecDepth 100000 in
theorem k_X10_add {l : Launch} (fu : Nat) {E : Ev} (hE : WE E) {a0 : Nat} (ha0 : E.1 a0 = some (0, 8, 0)) {x1 : Int32} {x2 : Int32} {S : St} {t : (Int32 × St)} (h : sp_X10_add fu E S a0 x1 x2 = some t) : Cn l mX10_add [.ref a0, .int x1, .int x2] (hp E S) (PoI E t) := by
  refine Cn.of (by decide) rfl (Nat.le_of_ble_eq_true rfl) (fun X _ _ hQ => ?_)
  refine (?_ : K mX10_add X E 0 [(0, .ref a0), (1, .int x1), (2, .int x2)] [] S 0 0 (sp_X10_add fu E S a0 x1 x2) t) h
  unfold sp_X10_add
  refine K_aload_n dX10_add_0 rfl rfl ?_
  refine K_getC hE dX10_add_1 f_X10_9_8 ha0 rfl rfl (fun h1 => ?_)
  refine K_aload_n dX10_add_4 rfl rfl ?_
  refine K_getI dX10_add_5 f_X10_19_8 ha0 rfl ?_
  refine K_iload_n dX10_add_8 rfl rfl ?_
  refine K_chk (fun h2 => ?_)
  refine K_iast dX10_add_9 h1 h2 ?_
  refine K_nmS (fun S3 => ?_)
  refine K_aload_n dX10_add_10 rfl rfl ?_
  refine K_getC hE dX10_add_11 f_X10_15_8 ha0 rfl rfl (fun h4 => ?_)
  refine K_aload_n dX10_add_14 rfl rfl ?_
  refine K_getI dX10_add_15 f_X10_19_8 ha0 rfl ?_
  refine K_iload_n dX10_add_18 rfl rfl ?_
  refine K_chk (fun h5 => ?_)
  refine K_chk (fun h6 => ?_)
  refine K_zast dX10_add_19 h4 h5 h6 ?_
  refine K_nmS (fun S7 => ?_)
  refine K_aload_n dX10_add_20 rfl rfl ?_
  refine K_dup dX10_add_21 rfl ?_
  refine K_getI dX10_add_22 f_X10_19_8 ha0 rfl ?_
  refine K_iconst (v := 1) dX10_add_25 (by decide) ?_
  refine K_iadd dX10_add_26 ?_
  refine K_putI dX10_add_27 p_X10_19_8 ha0 rfl ?_
  refine K_nmS (fun S8 => ?_)
  refine K_aload_n dX10_add_30 rfl rfl ?_
  refine K_getI dX10_add_31 f_X10_19_8 ha0 rfl ?_
  refine K_iconst (v := 1) dX10_add_34 (by decide) ?_
  refine K_isub dX10_add_35 ?_
  exact K_iret dX10_add_36 hQ rfl (Nat.le_of_ble_eq_true rfl) (Nat.le_of_ble_eq_true rfl)
def jb_X11_declareClass_30 (fu : Nat) (E : Ev) (a0 : Nat) (x1 : Int32) (x2 : Int32) (S : St) : Option ((String ⊕ Int32) × St) :=
  if (S.1 (E.2 a0 0) 2) < 20 then (
    (sp_X10_add fu E S (E.2 a0 0) x1 x2).bind fun u5 =>
    some ((.inr u5.1), u5.2)
  ) else (
    some (.inl "java/lang/IllegalStateException", S)
  )
set_option maxRecDepth 100000 in
theorem kj_X11_declareClass_30 {X : Cx} {E : Ev} {t : ((String ⊕ Int32) × St)} {a0 : Nat} (hQ : EndX mX11_declareClass X (PoXI E t) (PxX E t)) (hE : WE E) (fu : Nat) (ha0 : E.1 a0 = some (0, 9, 0)) (x1 : Int32) (x2 : Int32) (S : St) : K mX11_declareClass X E 30 [(0, .ref a0), (1, .int x1), (2, .int x2)] [] S 0 0 (jb_X11_declareClass_30 fu E a0 x1 x2 S) t := by
  unfold jb_X11_declareClass_30
  refine K_aload_n dX11_declareClass_30 rfl rfl ?_
  refine K_getC hE dX11_declareClass_31 f_X11_10_9 ha0 rfl rfl (fun h3 => ?_)
  refine K_getI dX11_declareClass_34 f_X11_87_8 h3 rfl ?_
  refine K_bipush (v := 20) dX11_declareClass_37 (by decide) ?_
  refine K_icmp_lt (tgt := 52) dX11_declareClass_39 (by decide) (fun c6 => ?_) (fun c6 => ?_)
  · refine K_aload_n dX11_declareClass_52 rfl rfl ?_
    refine K_getC hE dX11_declareClass_53 f_X11_10_9 ha0 rfl rfl (fun h4 => ?_)
    refine K_iload_n dX11_declareClass_56 rfl rfl ?_
    refine K_iload_n dX11_declareClass_57 rfl rfl ?_
    refine K_bind (fun u5 hu5 => ?_)
    refine K_callVI (As := [.int x1, .int x2]) (k_X10_add fu hE h4 hu5) dX11_declareClass_58 v_X11_95 h4 rfl rfl rfl rfl (Nat.le_of_ble_eq_true rfl) ⟨Nat.le_of_ble_eq_true rfl, Nat.le_of_ble_eq_true rfl, Nat.le_of_ble_eq_true rfl, Nat.le_of_ble_eq_true rfl⟩ ?_
    exact K_xiret dX11_declareClass_61 hQ rfl (Nat.le_of_ble_eq_true rfl) (Nat.le_of_ble_eq_true rfl)
  · exact K_throw t_X11_90_92 hQ rfl dX11_declareClass_42 dX11_declareClass_45 dX11_declareClass_46 dX11_declareClass_48 dX11_declareClass_51 (Nat.le_of_ble_eq_true rfl) (Nat.le_of_ble_eq_true rfl) (Nat.le_of_ble_eq_true rfl) (Nat.le_of_ble_eq_true rfl)
def sp_X11_declareClass (fu : Nat) (E : Ev) (S : St) (a0 : Nat) (x1 : Int32) (x2 : Int32) : Option ((String ⊕ Int32) × St) :=
  (sp_X10_isClass fu E S (E.2 a0 0) x1).bind fun u2 =>
  if u2.1 = 0 then (
    some (.inl "java/lang/IllegalArgumentException", u2.2)
  ) else (
    if x2 = 0 then (
      jb_X11_declareClass_30 fu E a0 x1 x2 u2.2
    ) else (
      if x1 = 2 then (
        jb_X11_declareClass_30 fu E a0 x1 x2 u2.2
      ) else (
        some (.inl "java/lang/IllegalArgumentException", u2.2)
      )
    )
  )
set_option maxRecDepth 100000 in
theorem k_X11_declareClass {l : Launch} (fu : Nat) {E : Ev} (hE : WE E) {a0 : Nat} (ha0 : E.1 a0 = some (0, 9, 0)) {x1 : Int32} {x2 : Int32} {S : St} {t : ((String ⊕ Int32) × St)} (h : sp_X11_declareClass fu E S a0 x1 x2 = some t) : Ct l mX11_declareClass [.ref a0, .int x1, .int x2] (hp E S) (PoXI E t) (PxX E t) := by
  refine Ct.of (by decide) rfl (Nat.le_of_ble_eq_true rfl) (fun X _ _ hQ => ?_)
  refine (?_ : K mX11_declareClass X E 0 [(0, .ref a0), (1, .int x1), (2, .int x2)] [] S 0 0 (sp_X11_declareClass fu E S a0 x1 x2) t) h
  unfold sp_X11_declareClass
  refine K_aload_n dX11_declareClass_0 rfl rfl ?_
  refine K_getC hE dX11_declareClass_1 f_X11_10_9 ha0 rfl rfl (fun h1 => ?_)
  refine K_iload_n dX11_declareClass_4 rfl rfl ?_
  refine K_bind (fun u2 hu2 => ?_)
  refine K_callVI (As := [.int x1]) (k_X10_isClass fu hE h1 hu2) dX11_declareClass_5 v_X11_76 h1 rfl rfl rfl rfl (Nat.le_of_ble_eq_true rfl) ⟨Nat.le_of_ble_eq_true rfl, Nat.le_of_ble_eq_true rfl, Nat.le_of_ble_eq_true rfl, Nat.le_of_ble_eq_true rfl⟩ ?_
  refine K_if_eq (tgt := 20) dX11_declareClass_8 (by decide) (fun c9 => ?_) (fun c9 => ?_)
  · exact K_throw t_X11_80_82 hQ rfl dX11_declareClass_20 dX11_declareClass_23 dX11_declareClass_24 dX11_declareClass_26 dX11_declareClass_29 (Nat.le_of_ble_eq_true rfl) (Nat.le_of_ble_eq_true rfl) (Nat.le_of_ble_eq_true rfl) (Nat.le_of_ble_eq_true rfl)
  · refine K_iload_n dX11_declareClass_11 rfl rfl ?_
    refine K_if_eq (tgt := 30) dX11_declareClass_12 (by decide) (fun c8 => ?_) (fun c8 => ?_)
    · refine K.keep [0, 1, 2] ?_
      exact kj_X11_declareClass_30 hQ hE fu ha0 x1 x2 u2.2
    · refine K_iload_n dX11_declareClass_15 rfl rfl ?_
      refine K_iconst (v := 2) dX11_declareClass_16 (by decide) ?_
      refine K_icmp_eq (tgt := 30) dX11_declareClass_17 (by decide) (fun c7 => ?_) (fun c7 => ?_)
      · refine K.keep [0, 1, 2] ?_
        exact kj_X11_declareClass_30 hQ hE fu ha0 x1 x2 u2.2
      · exact K_throw t_X11_80_82 hQ rfl dX11_declareClass_20 dX11_declareClass_23 dX11_declareClass_24 dX11_declareClass_26 dX11_declareClass_29 (Nat.le_of_ble_eq_true rfl) (Nat.le_of_ble_eq_true rfl) (Nat.le_of_ble_eq_true rfl) (Nat.le_of_ble_eq_true rfl)
def sp_X11_parameter (fu : Nat) (E : Ev) (S : St) (a0 : Nat) (x1 : Int32) : Option ((String ⊕ Int32) × St) :=
  (sp_X10_isType fu E S (E.2 a0 0) x1).bind fun u2 =>
  if u2.1 = 0 then (
    some (.inl "java/lang/IllegalArgumentException", u2.2)
  ) else (
    (sp_X11_slotsOf fu E u2.2 x1).bind fun u4 =>
    if ((u2.2.1 (E.2 a0 1) 12) + u4.1) ≤ 6 then (
      (sp_X8_addParameter fu E u4.2 (E.2 a0 1) x1).bind fun u6 =>
      some ((.inr u6.1), u6.2)
    ) else (
      some (.inl "java/lang/IllegalStateException", u4.2)
    )
  )
set_option maxRecDepth 100000 in
theorem k_X11_parameter {l : Launch} (fu : Nat) {E : Ev} (hE : WE E) {a0 : Nat} (ha0 : E.1 a0 = some (0, 9, 0)) {x1 : Int32} {S : St} {t : ((String ⊕ Int32) × St)} (h : sp_X11_parameter fu E S a0 x1 = some t) : Ct l mX11_parameter [.ref a0, .int x1] (hp E S) (PoXI E t) (PxX E t) := by
  refine Ct.of (by decide) rfl (Nat.le_of_ble_eq_true rfl) (fun X _ _ hQ => ?_)
  refine (?_ : K mX11_parameter X E 0 [(0, .ref a0), (1, .int x1)] [] S 0 0 (sp_X11_parameter fu E S a0 x1) t) h
  unfold sp_X11_parameter
  refine K_aload_n dX11_parameter_0 rfl rfl ?_
  refine K_getC hE dX11_parameter_1 f_X11_10_9 ha0 rfl rfl (fun h1 => ?_)
  refine K_iload_n dX11_parameter_4 rfl rfl ?_
  refine K_bind (fun u2 hu2 => ?_)
  refine K_callVI (As := [.int x1]) (k_X10_isType fu hE h1 hu2) dX11_parameter_5 v_X11_99 h1 rfl rfl rfl rfl (Nat.le_of_ble_eq_true rfl) ⟨Nat.le_of_ble_eq_true rfl, Nat.le_of_ble_eq_true rfl, Nat.le_of_ble_eq_true rfl, Nat.le_of_ble_eq_true rfl⟩ ?_
  refine K_if_ne (tgt := 21) dX11_parameter_8 (by decide) (fun c8 => ?_) (fun c8 => ?_)
  · refine K_aload_n dX11_parameter_21 rfl rfl ?_
    refine K_getC hE dX11_parameter_22 f_X11_19_9 ha0 rfl rfl (fun h3 => ?_)
    refine K_getI dX11_parameter_25 f_X11_115_7 h3 rfl ?_
    refine K_iload_n dX11_parameter_28 rfl rfl ?_
    refine K_bind (fun u4 hu4 => ?_)
    refine K_callSI (As := [.int x1]) (k_X11_slotsOf fu hE hu4) dX11_parameter_29 s_X11_118 rfl rfl (Nat.le_of_ble_eq_true rfl) ⟨Nat.le_of_ble_eq_true rfl, Nat.le_of_ble_eq_true rfl, Nat.le_of_ble_eq_true rfl, Nat.le_of_ble_eq_true rfl⟩ ?_
    refine K_iadd dX11_parameter_32 ?_
    refine K_bipush (v := 6) dX11_parameter_33 (by decide) ?_
    refine K_icmp_le (tgt := 48) dX11_parameter_35 (by decide) (fun c7 => ?_) (fun c7 => ?_)
    · refine K_aload_n dX11_parameter_48 rfl rfl ?_
      refine K_getC hE dX11_parameter_49 f_X11_19_9 ha0 rfl rfl (fun h5 => ?_)
      refine K_iload_n dX11_parameter_52 rfl rfl ?_
      refine K_bind (fun u6 hu6 => ?_)
      refine K_callVI (As := [.int x1]) (k_X8_addParameter fu hE h5 hu6) dX11_parameter_53 v_X11_124 h5 rfl rfl rfl rfl (Nat.le_of_ble_eq_true rfl) ⟨Nat.le_of_ble_eq_true rfl, Nat.le_of_ble_eq_true rfl, Nat.le_of_ble_eq_true rfl, Nat.le_of_ble_eq_true rfl⟩ ?_
      exact K_xiret dX11_parameter_56 hQ rfl (Nat.le_of_ble_eq_true rfl) (Nat.le_of_ble_eq_true rfl)
    · exact K_throw t_X11_90_122 hQ rfl dX11_parameter_38 dX11_parameter_41 dX11_parameter_42 dX11_parameter_44 dX11_parameter_47 (Nat.le_of_ble_eq_true rfl) (Nat.le_of_ble_eq_true rfl) (Nat.le_of_ble_eq_true rfl) (Nat.le_of_ble_eq_true rfl)
  · exact K_throw t_X11_80_113 hQ rfl dX11_parameter_11 dX11_parameter_14 dX11_parameter_15 dX11_parameter_17 dX11_parameter_20 (Nat.le_of_ble_eq_true rfl) (Nat.le_of_ble_eq_true rfl) (Nat.le_of_ble_eq_true rfl) (Nat.le_of_ble_eq_true rfl)
