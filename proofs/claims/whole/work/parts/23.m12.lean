def jb_X12_infer_42 (fu : Nat) (E : Ev) (a0 : Nat) (S : St) : Option (Int32 × St) :=
  (sp_X12_isWell fu E S a0).bind fun u6 =>
  if u6.1 = 0 then (
    (sp_X12_discard fu E u6.2 a0).bind fun u8 =>
    some (u8.1 a0 35, u8)
  ) else (
    bnd (sF u6.2 a0 27 1) fun S7 =>
    some (S7.1 a0 35, S7)
  )
set_option maxRecDepth 100000 in
theorem kj_X12_infer_42 {X : Cx} {E : Ev} {t : (Int32 × St)} {a0 : Nat} (hQ : EndR mX12_infer X (PoI E t)) (hE : WE E) (fu : Nat) (ha0 : E.1 a0 = some (0, 10, 0)) (S : St) : K mX12_infer X E 42 [(0, .ref a0)] [] S 0 0 (jb_X12_infer_42 fu E a0 S) t := by
  unfold jb_X12_infer_42
  refine K_aload_n dX12_infer_42 rfl rfl ?_
  refine K_bind (fun u6 hu6 => ?_)
  refine K_callVI (As := []) (k_X12_isWell fu hE ha0 hu6) dX12_infer_43 v_X12_218 ha0 rfl rfl rfl rfl (Nat.le_of_ble_eq_true rfl) ⟨Nat.le_of_ble_eq_true rfl, Nat.le_of_ble_eq_true rfl, Nat.le_of_ble_eq_true rfl, Nat.le_of_ble_eq_true rfl⟩ ?_
  refine K_if_ne (tgt := 56) dX12_infer_46 (by decide) (fun c9 => ?_) (fun c9 => ?_)
  · refine K_aload_n dX12_infer_56 rfl rfl ?_
    refine K_iconst (v := 1) dX12_infer_57 (by decide) ?_
    refine K_putZ dX12_infer_58 p_X12_177_10 ha0 rfl rfl ?_
    refine K_nmS (fun S7 => ?_)
    refine K_aload_n dX12_infer_61 rfl rfl ?_
    refine K_getI dX12_infer_62 f_X12_202_10 ha0 rfl ?_
    exact K_iret dX12_infer_65 hQ rfl (Nat.le_of_ble_eq_true rfl) (Nat.le_of_ble_eq_true rfl)
  · refine K_aload_n dX12_infer_49 rfl rfl ?_
    refine K_bind (fun u8 hu8 => ?_)
    refine K_callVV (As := []) (k_X12_discard fu hE ha0 hu8) dX12_infer_50 v_X12_171 ha0 rfl rfl rfl rfl (Nat.le_of_ble_eq_true rfl) ⟨Nat.le_of_ble_eq_true rfl, Nat.le_of_ble_eq_true rfl, Nat.le_of_ble_eq_true rfl, Nat.le_of_ble_eq_true rfl⟩ ?_
    refine K_goto (tgt := 61) dX12_infer_53 (by decide) ?_
    refine K_aload_n dX12_infer_61 rfl rfl ?_
    refine K_getI dX12_infer_62 f_X12_202_10 ha0 rfl ?_
    exact K_iret dX12_infer_65 hQ rfl (Nat.le_of_ble_eq_true rfl) (Nat.le_of_ble_eq_true rfl)
def sp_X12_infer (fu : Nat) (E : Ev) (S : St) (a0 : Nat) : Option (Int32 × St) :=
  bnd (sF S a0 0 0) fun S1 =>
  if (S1.1 a0 15) = 0 then (
    (sp_X12_no fu E S1 a0 1).bind fun u12 =>
    some (u12.1, u12.2)
  ) else (
    (sp_X12_discard fu E S1 a0).bind fun u2 =>
    bnd (sF u2 a0 38 0) fun S3 =>
    (sp_X12_examine fu E S3 a0).bind fun u4 =>
    (sp_X12_isWell fu E u4 a0).bind fun u5 =>
    if u5.1 = 0 then (
      jb_X12_infer_42 fu E a0 u5.2
    ) else (
      (sp_X12_run fu E u5.2 a0).bind fun u10 =>
      jb_X12_infer_42 fu E a0 u10
    )
  )
set_option maxRecDepth 100000 in
theorem k_X12_infer {l : Launch} (fu : Nat) {E : Ev} (hE : WE E) {a0 : Nat} (ha0 : E.1 a0 = some (0, 10, 0)) {S : St} {t : (Int32 × St)} (h : sp_X12_infer fu E S a0 = some t) : Cn l mX12_infer [.ref a0] (hp E S) (PoI E t) := by
  refine Cn.of (by decide) rfl (Nat.le_of_ble_eq_true rfl) (fun X _ _ hQ => ?_)
  refine (?_ : K mX12_infer X E 0 [(0, .ref a0)] [] S 0 0 (sp_X12_infer fu E S a0) t) h
  unfold sp_X12_infer
  refine K_aload_n dX12_infer_0 rfl rfl ?_
  refine K_iconst (v := 0) dX12_infer_1 (by decide) ?_
  refine K_putI dX12_infer_2 p_X12_90_10 ha0 rfl ?_
  refine K_nmS (fun S1 => ?_)
  refine K_aload_n dX12_infer_5 rfl rfl ?_
  refine K_getI dX12_infer_6 f_X12_152_10 ha0 rfl ?_
  refine K_if_ne (tgt := 18) dX12_infer_9 (by decide) (fun c13 => ?_) (fun c13 => ?_)
  · refine K_aload_n dX12_infer_18 rfl rfl ?_
    refine K_bind (fun u2 hu2 => ?_)
    refine K_callVV (As := []) (k_X12_discard fu hE ha0 hu2) dX12_infer_19 v_X12_171 ha0 rfl rfl rfl rfl (Nat.le_of_ble_eq_true rfl) ⟨Nat.le_of_ble_eq_true rfl, Nat.le_of_ble_eq_true rfl, Nat.le_of_ble_eq_true rfl, Nat.le_of_ble_eq_true rfl⟩ ?_
    refine K_aload_n dX12_infer_22 rfl rfl ?_
    refine K_iconst (v := 0) dX12_infer_23 (by decide) ?_
    refine K_putZ dX12_infer_24 p_X12_316_10 ha0 rfl rfl ?_
    refine K_nmS (fun S3 => ?_)
    refine K_aload_n dX12_infer_27 rfl rfl ?_
    refine K_bind (fun u4 hu4 => ?_)
    refine K_callVV (As := []) (k_X12_examine fu hE ha0 hu4) dX12_infer_28 v_X12_341 ha0 rfl rfl rfl rfl (Nat.le_of_ble_eq_true rfl) ⟨Nat.le_of_ble_eq_true rfl, Nat.le_of_ble_eq_true rfl, Nat.le_of_ble_eq_true rfl, Nat.le_of_ble_eq_true rfl⟩ ?_
    refine K_aload_n dX12_infer_31 rfl rfl ?_
    refine K_bind (fun u5 hu5 => ?_)
    refine K_callVI (As := []) (k_X12_isWell fu hE ha0 hu5) dX12_infer_32 v_X12_218 ha0 rfl rfl rfl rfl (Nat.le_of_ble_eq_true rfl) ⟨Nat.le_of_ble_eq_true rfl, Nat.le_of_ble_eq_true rfl, Nat.le_of_ble_eq_true rfl, Nat.le_of_ble_eq_true rfl⟩ ?_
    refine K_if_eq (tgt := 42) dX12_infer_35 (by decide) (fun c11 => ?_) (fun c11 => ?_)
    · refine K.keep [0] ?_
      exact kj_X12_infer_42 hQ hE fu ha0 u5.2
    · refine K_aload_n dX12_infer_38 rfl rfl ?_
      refine K_bind (fun u10 hu10 => ?_)
      refine K_callVV (As := []) (k_X12_run fu hE ha0 hu10) dX12_infer_39 v_X12_344 ha0 rfl rfl rfl rfl (Nat.le_of_ble_eq_true rfl) ⟨Nat.le_of_ble_eq_true rfl, Nat.le_of_ble_eq_true rfl, Nat.le_of_ble_eq_true rfl, Nat.le_of_ble_eq_true rfl⟩ ?_
      refine K.keep [0] ?_
      exact kj_X12_infer_42 hQ hE fu ha0 u10
  · refine K_aload_n dX12_infer_12 rfl rfl ?_
    refine K_iconst (v := 1) dX12_infer_13 (by decide) ?_
    refine K_bind (fun u12 hu12 => ?_)
    refine K_callVI (As := [.int 1]) (k_X12_no fu hE ha0 hu12) dX12_infer_14 v_X12_126 ha0 rfl rfl rfl rfl (Nat.le_of_ble_eq_true rfl) ⟨Nat.le_of_ble_eq_true rfl, Nat.le_of_ble_eq_true rfl, Nat.le_of_ble_eq_true rfl, Nat.le_of_ble_eq_true rfl⟩ ?_
    exact K_iret dX12_infer_17 hQ rfl (Nat.le_of_ble_eq_true rfl) (Nat.le_of_ble_eq_true rfl)
def bd_X12_enter_54 (fu : Nat) (E : Ev) (a0 : Nat) (rc54 : Int32 → Int32 → St → Option St) (x1 : Int32) (x2 : Int32) (S : St) : Option St :=
  if 26 ≤ x2 then (
    some S
  ) else (
    if inb x1 100 = true then
      (
      if (S.2.1 (E.2 a0 30) x1.toNatClampNeg) = 0 then (
        some S
      ) else (
        if inb ((26 * x1) + x2) 2600 = true then
          (
          if inb x2 26 = true then (
            bnd (sG S (E.2 a0 39) (x2.toNatClampNeg) (S.2.1 (E.2 a0 31) ((26 * x1) + x2).toNatClampNeg)) fun S9 =>
            rc54 x1 (x2 + 1) S9
          ) else none
          )
        else none
      )
      )
    else none
  )
def lp_X12_enter_54 (fu : Nat) (E : Ev) (a0 : Nat) : Nat → Int32 → Int32 → St → Option St
  | 0, _, _, _ => none
  | f + 1, x1, x2, S => bd_X12_enter_54 fu E a0 (lp_X12_enter_54 fu E a0 f) x1 x2 S
set_option maxRecDepth 100000 in
theorem kl_X12_enter_54 {X : Cx} {E : Ev} {t : St} {a0 : Nat} (hQ : EndR mX12_enter X (PoV E t)) (hE : WE E) (fu : Nat) (ha0 : E.1 a0 = some (0, 10, 0)) : ∀ (f : Nat) (x1 : Int32) (x2 : Int32) (S : St), K mX12_enter X E 54 [(0, .ref a0), (1, .int x1), (2, .int x2)] [] S 0 0 (lp_X12_enter_54 fu E a0 f x1 x2 S) t := by
  intro f
  induction f with
  | zero => intro x1 x2 S; exact K_none
  | succ f hrc54 =>
    intro x1 x2 S
    show K _ _ _ _ _ _ _ _ _ (bd_X12_enter_54 fu E a0 (lp_X12_enter_54 fu E a0 f) x1 x2 S) t
    unfold bd_X12_enter_54
    refine K_iload_n dX12_enter_54 rfl rfl ?_
    refine K_bipush (v := 26) dX12_enter_55 (by decide) ?_
    refine K_icmp_ge (tgt := 92) dX12_enter_57 (by decide) (fun c11 => ?_) (fun c11 => ?_)
    · exact K_vret dX12_enter_92 hQ rfl (Nat.le_of_ble_eq_true rfl) (Nat.le_of_ble_eq_true rfl)
    · refine K_aload_n dX12_enter_60 rfl rfl ?_
      refine K_getC hE dX12_enter_61 f_X12_69_10 ha0 rfl rfl (fun h3 => ?_)
      refine K_iload_n dX12_enter_64 rfl rfl ?_
      refine K_chk (fun h4 => ?_)
      refine K_zald dX12_enter_65 h3 h4 ?_
      refine K_if_eq (tgt := 92) dX12_enter_66 (by decide) (fun c10 => ?_) (fun c10 => ?_)
      · exact K_vret dX12_enter_92 hQ rfl (Nat.le_of_ble_eq_true rfl) (Nat.le_of_ble_eq_true rfl)
      · refine K_aload_n dX12_enter_69 rfl rfl ?_
        refine K_getC hE dX12_enter_70 f_X12_81_10 ha0 rfl rfl (fun h5 => ?_)
        refine K_iload_n dX12_enter_73 rfl rfl ?_
        refine K_aload_n dX12_enter_74 rfl rfl ?_
        refine K_getC hE dX12_enter_75 f_X12_72_10 ha0 rfl rfl (fun h6 => ?_)
        refine K_bipush (v := 26) dX12_enter_78 (by decide) ?_
        refine K_iload_n dX12_enter_80 rfl rfl ?_
        refine K_imul dX12_enter_81 ?_
        refine K_iload_n dX12_enter_82 rfl rfl ?_
        refine K_iadd dX12_enter_83 ?_
        refine K_chk (fun h7 => ?_)
        refine K_iald dX12_enter_84 h6 h7 ?_
        refine K_chk (fun h8 => ?_)
        refine K_iast dX12_enter_85 h5 h8 ?_
        refine K_nmS (fun S9 => ?_)
        refine K_iinc (v := (x2 + 1)) (ls' := [(0, _), (1, _), (2, _)]) dX12_enter_86 rfl rfl (by decide) rfl ?_
        refine K_goto (tgt := 54) dX12_enter_89 (by decide) ?_
        refine K.keep [0, 1, 2] ?_
        exact hrc54 x1 (x2 + 1) S9
def sp_X12_enter (fu : Nat) (E : Ev) (S : St) (a0 : Nat) (x1 : Int32) : Option St :=
  if inb x1 100 = true then
    (
    if (S.2.1 (E.2 a0 30) x1.toNatClampNeg) = 0 then (
      if (S.1 a0 41) = 0 then (
        (sp_X12_fail fu E S a0 10 x1).bind fun u18 =>
        lp_X12_enter_54 fu E a0 fu x1 0 u18
      ) else (
        lp_X12_enter_54 fu E a0 fu x1 0 S
      )
    ) else (
      if (S.1 a0 41) = 0 then (
        lp_X12_enter_54 fu E a0 fu x1 0 S
      ) else (
        (sp_X12_fitsFrame fu E S a0 (E.2 a0 39) (E.2 a0 31) (26 * x1)).bind fun u14 =>
        if u14.1 = 0 then (
          (sp_X12_fail fu E u14.2 a0 10 x1).bind fun u15 =>
          lp_X12_enter_54 fu E a0 fu x1 0 u15
        ) else (
          lp_X12_enter_54 fu E a0 fu x1 0 u14.2
        )
      )
    )
    )
  else none
set_option maxRecDepth 100000 in
theorem k_X12_enter {l : Launch} (fu : Nat) {E : Ev} (hE : WE E) {a0 : Nat} (ha0 : E.1 a0 = some (0, 10, 0)) {x1 : Int32} {S : St} {t : St} (h : sp_X12_enter fu E S a0 x1 = some t) : Cn l mX12_enter [.ref a0, .int x1] (hp E S) (PoV E t) := by
  refine Cn.of (by decide) rfl (Nat.le_of_ble_eq_true rfl) (fun X _ _ hQ => ?_)
  refine (?_ : K mX12_enter X E 0 [(0, .ref a0), (1, .int x1)] [] S 0 0 (sp_X12_enter fu E S a0 x1) t) h
  unfold sp_X12_enter
  refine K_aload_n dX12_enter_0 rfl rfl ?_
  refine K_getC hE dX12_enter_1 f_X12_69_10 ha0 rfl rfl (fun h1 => ?_)
  refine K_iload_n dX12_enter_4 rfl rfl ?_
  refine K_chk (fun h2 => ?_)
  refine K_zald dX12_enter_5 h1 h2 ?_
  refine K_if_ne (tgt := 19) dX12_enter_6 (by decide) (fun c20 => ?_) (fun c20 => ?_)
  · refine K_aload_n dX12_enter_19 rfl rfl ?_
    refine K_getI dX12_enter_20 f_X12_338_10 ha0 rfl ?_
    refine K_if_eq (tgt := 52) dX12_enter_23 (by decide) (fun c17 => ?_) (fun c17 => ?_)
    · refine K_iconst (v := 0) dX12_enter_52 (by decide) ?_
      refine K_istore_n (ls' := [(0, _), (1, _), (2, _)]) dX12_enter_53 rfl (by decide) rfl ?_
      refine K.keep [0, 1, 2] ?_
      exact kl_X12_enter_54 hQ hE fu ha0 fu x1 0 S
    · refine K_aload_n dX12_enter_26 rfl rfl ?_
      refine K_aload_n dX12_enter_27 rfl rfl ?_
      refine K_getC hE dX12_enter_28 f_X12_81_10 ha0 rfl rfl (fun h12 => ?_)
      refine K_aload_n dX12_enter_31 rfl rfl ?_
      refine K_getC hE dX12_enter_32 f_X12_72_10 ha0 rfl rfl (fun h13 => ?_)
      refine K_bipush (v := 26) dX12_enter_35 (by decide) ?_
      refine K_iload_n dX12_enter_37 rfl rfl ?_
      refine K_imul dX12_enter_38 ?_
      refine K_bind (fun u14 hu14 => ?_)
      refine K_callVI (As := [.ref (E.2 a0 39), .ref (E.2 a0 31), .int (26 * x1)]) (k_X12_fitsFrame fu hE ha0 h12 h13 hu14) dX12_enter_39 v_X12_323 ha0 rfl rfl rfl rfl (Nat.le_of_ble_eq_true rfl) ⟨Nat.le_of_ble_eq_true rfl, Nat.le_of_ble_eq_true rfl, Nat.le_of_ble_eq_true rfl, Nat.le_of_ble_eq_true rfl⟩ ?_
      refine K_if_ne (tgt := 52) dX12_enter_42 (by decide) (fun c16 => ?_) (fun c16 => ?_)
      · refine K_iconst (v := 0) dX12_enter_52 (by decide) ?_
        refine K_istore_n (ls' := [(0, _), (1, _), (2, _)]) dX12_enter_53 rfl (by decide) rfl ?_
        refine K.keep [0, 1, 2] ?_
        exact kl_X12_enter_54 hQ hE fu ha0 fu x1 0 u14.2
      · refine K_aload_n dX12_enter_45 rfl rfl ?_
        refine K_bipush (v := 10) dX12_enter_46 (by decide) ?_
        refine K_iload_n dX12_enter_48 rfl rfl ?_
        refine K_bind (fun u15 hu15 => ?_)
        refine K_callVV (As := [.int 10, .int x1]) (k_X12_fail fu hE ha0 hu15) dX12_enter_49 v_X12_208 ha0 rfl rfl rfl rfl (Nat.le_of_ble_eq_true rfl) ⟨Nat.le_of_ble_eq_true rfl, Nat.le_of_ble_eq_true rfl, Nat.le_of_ble_eq_true rfl, Nat.le_of_ble_eq_true rfl⟩ ?_
        refine K_iconst (v := 0) dX12_enter_52 (by decide) ?_
        refine K_istore_n (ls' := [(0, _), (1, _), (2, _)]) dX12_enter_53 rfl (by decide) rfl ?_
        refine K.keep [0, 1, 2] ?_
        exact kl_X12_enter_54 hQ hE fu ha0 fu x1 0 u15
  · refine K_aload_n dX12_enter_9 rfl rfl ?_
    refine K_getI dX12_enter_10 f_X12_338_10 ha0 rfl ?_
    refine K_if_ne (tgt := 52) dX12_enter_13 (by decide) (fun c19 => ?_) (fun c19 => ?_)
    · refine K_iconst (v := 0) dX12_enter_52 (by decide) ?_
      refine K_istore_n (ls' := [(0, _), (1, _), (2, _)]) dX12_enter_53 rfl (by decide) rfl ?_
      refine K.keep [0, 1, 2] ?_
      exact kl_X12_enter_54 hQ hE fu ha0 fu x1 0 S
    · refine K_goto (tgt := 45) dX12_enter_16 (by decide) ?_
      refine K_aload_n dX12_enter_45 rfl rfl ?_
      refine K_bipush (v := 10) dX12_enter_46 (by decide) ?_
      refine K_iload_n dX12_enter_48 rfl rfl ?_
      refine K_bind (fun u18 hu18 => ?_)
      refine K_callVV (As := [.int 10, .int x1]) (k_X12_fail fu hE ha0 hu18) dX12_enter_49 v_X12_208 ha0 rfl rfl rfl rfl (Nat.le_of_ble_eq_true rfl) ⟨Nat.le_of_ble_eq_true rfl, Nat.le_of_ble_eq_true rfl, Nat.le_of_ble_eq_true rfl, Nat.le_of_ble_eq_true rfl⟩ ?_
      refine K_iconst (v := 0) dX12_enter_52 (by decide) ?_
      refine K_istore_n (ls' := [(0, _), (1, _), (2, _)]) dX12_enter_53 rfl (by decide) rfl ?_
      refine K.keep [0, 1, 2] ?_
      exact kl_X12_enter_54 hQ hE fu ha0 fu x1 0 u18
def bd_X12_check_45 (fu : Nat) (E : Ev) (a0 : Nat) (rc45 : Int32 → St → Option (Int32 × St)) (x1 : Int32) (S : St) : Option (Int32 × St) :=
  if (S.1 a0 19) ≤ x1 then (
    some (S.1 a0 35, S)
  ) else (
    (sp_X12_isWell fu E S a0).bind fun u6 =>
    if u6.1 = 0 then (
      some (u6.2.1 a0 35, u6.2)
    ) else (
      (sp_X12_enter fu E u6.2 a0 x1).bind fun u7 =>
      bnd (sF u7 a0 41 0) fun S8 =>
      (sp_X12_isWell fu E S8 a0).bind fun u9 =>
      if u9.1 = 0 then (
        rc45 (x1 + 1) u9.2
      ) else (
        (sp_X12_process fu E u9.2 a0 x1).bind fun u10 =>
        rc45 (x1 + 1) u10
      )
    )
  )
def lp_X12_check_45 (fu : Nat) (E : Ev) (a0 : Nat) : Nat → Int32 → St → Option (Int32 × St)
  | 0, _, _ => none
  | f + 1, x1, S => bd_X12_check_45 fu E a0 (lp_X12_check_45 fu E a0 f) x1 S
set_option maxRecDepth 100000 in
theorem kl_X12_check_45 {X : Cx} {E : Ev} {t : (Int32 × St)} {a0 : Nat} (hQ : EndR mX12_check X (PoI E t)) (hE : WE E) (fu : Nat) (ha0 : E.1 a0 = some (0, 10, 0)) : ∀ (f : Nat) (x1 : Int32) (S : St), K mX12_check X E 45 [(0, .ref a0), (1, .int x1)] [] S 0 0 (lp_X12_check_45 fu E a0 f x1 S) t := by
  intro f
  induction f with
  | zero => intro x1 S; exact K_none
  | succ f hrc45 =>
    intro x1 S
    show K _ _ _ _ _ _ _ _ _ (bd_X12_check_45 fu E a0 (lp_X12_check_45 fu E a0 f) x1 S) t
    unfold bd_X12_check_45
    refine K_iload_n dX12_check_45 rfl rfl ?_
    refine K_aload_n dX12_check_46 rfl rfl ?_
    refine K_getI dX12_check_47 f_X12_165_10 ha0 rfl ?_
    refine K_icmp_ge (tgt := 88) dX12_check_50 (by decide) (fun c13 => ?_) (fun c13 => ?_)
    · refine K_aload_n dX12_check_88 rfl rfl ?_
      refine K_getI dX12_check_89 f_X12_202_10 ha0 rfl ?_
      exact K_iret dX12_check_92 hQ rfl (Nat.le_of_ble_eq_true rfl) (Nat.le_of_ble_eq_true rfl)
    · refine K_aload_n dX12_check_53 rfl rfl ?_
      refine K_bind (fun u6 hu6 => ?_)
      refine K_callVI (As := []) (k_X12_isWell fu hE ha0 hu6) dX12_check_54 v_X12_218 ha0 rfl rfl rfl rfl (Nat.le_of_ble_eq_true rfl) ⟨Nat.le_of_ble_eq_true rfl, Nat.le_of_ble_eq_true rfl, Nat.le_of_ble_eq_true rfl, Nat.le_of_ble_eq_true rfl⟩ ?_
      refine K_if_eq (tgt := 88) dX12_check_57 (by decide) (fun c12 => ?_) (fun c12 => ?_)
      · refine K_aload_n dX12_check_88 rfl rfl ?_
        refine K_getI dX12_check_89 f_X12_202_10 ha0 rfl ?_
        exact K_iret dX12_check_92 hQ rfl (Nat.le_of_ble_eq_true rfl) (Nat.le_of_ble_eq_true rfl)
      · refine K_aload_n dX12_check_60 rfl rfl ?_
        refine K_iload_n dX12_check_61 rfl rfl ?_
        refine K_bind (fun u7 hu7 => ?_)
        refine K_callVV (As := [.int x1]) (k_X12_enter fu hE ha0 hu7) dX12_check_62 v_X12_356 ha0 rfl rfl rfl rfl (Nat.le_of_ble_eq_true rfl) ⟨Nat.le_of_ble_eq_true rfl, Nat.le_of_ble_eq_true rfl, Nat.le_of_ble_eq_true rfl, Nat.le_of_ble_eq_true rfl⟩ ?_
        refine K_aload_n dX12_check_65 rfl rfl ?_
        refine K_iconst (v := 0) dX12_check_66 (by decide) ?_
        refine K_putZ dX12_check_67 p_X12_338_10 ha0 rfl rfl ?_
        refine K_nmS (fun S8 => ?_)
        refine K_aload_n dX12_check_70 rfl rfl ?_
        refine K_bind (fun u9 hu9 => ?_)
        refine K_callVI (As := []) (k_X12_isWell fu hE ha0 hu9) dX12_check_71 v_X12_218 ha0 rfl rfl rfl rfl (Nat.le_of_ble_eq_true rfl) ⟨Nat.le_of_ble_eq_true rfl, Nat.le_of_ble_eq_true rfl, Nat.le_of_ble_eq_true rfl, Nat.le_of_ble_eq_true rfl⟩ ?_
        refine K_if_eq (tgt := 82) dX12_check_74 (by decide) (fun c11 => ?_) (fun c11 => ?_)
        · refine K_iinc (v := (x1 + 1)) (ls' := [(0, _), (1, _)]) dX12_check_82 rfl rfl (by decide) rfl ?_
          refine K_goto (tgt := 45) dX12_check_85 (by decide) ?_
          refine K.keep [0, 1] ?_
          exact hrc45 (x1 + 1) u9.2
        · refine K_aload_n dX12_check_77 rfl rfl ?_
          refine K_iload_n dX12_check_78 rfl rfl ?_
          refine K_bind (fun u10 hu10 => ?_)
          refine K_callVV (As := [.int x1]) (k_X12_process fu hE ha0 hu10) dX12_check_79 v_X12_353 ha0 rfl rfl rfl rfl (Nat.le_of_ble_eq_true rfl) ⟨Nat.le_of_ble_eq_true rfl, Nat.le_of_ble_eq_true rfl, Nat.le_of_ble_eq_true rfl, Nat.le_of_ble_eq_true rfl⟩ ?_
          refine K_iinc (v := (x1 + 1)) (ls' := [(0, _), (1, _)]) dX12_check_82 rfl rfl (by decide) rfl ?_
          refine K_goto (tgt := 45) dX12_check_85 (by decide) ?_
          refine K.keep [0, 1] ?_
          exact hrc45 (x1 + 1) u10
def sp_X12_check (fu : Nat) (E : Ev) (S : St) (a0 : Nat) : Option (Int32 × St) :=
  bnd (sF S a0 0 0) fun S1 =>
  if (S1.1 a0 15) = 0 then (
    (sp_X12_no fu E S1 a0 1).bind fun u17 =>
    some (u17.1, u17.2)
  ) else (
    bnd (sF S1 a0 38 1) fun S2 =>
    (sp_X12_examine fu E S2 a0).bind fun u3 =>
    (sp_X12_isWell fu E u3 a0).bind fun u4 =>
    if u4.1 = 0 then (
      bnd (sF u4.2 a0 41 1) fun S5 =>
      lp_X12_check_45 fu E a0 fu 0 S5
    ) else (
      (sp_X12_setFirst fu E u4.2 a0).bind fun u14 =>
      bnd (sF u14 a0 41 1) fun S15 =>
      lp_X12_check_45 fu E a0 fu 0 S15
    )
  )
set_option maxRecDepth 100000 in
theorem k_X12_check {l : Launch} (fu : Nat) {E : Ev} (hE : WE E) {a0 : Nat} (ha0 : E.1 a0 = some (0, 10, 0)) {S : St} {t : (Int32 × St)} (h : sp_X12_check fu E S a0 = some t) : Cn l mX12_check [.ref a0] (hp E S) (PoI E t) := by
  refine Cn.of (by decide) rfl (Nat.le_of_ble_eq_true rfl) (fun X _ _ hQ => ?_)
  refine (?_ : K mX12_check X E 0 [(0, .ref a0)] [] S 0 0 (sp_X12_check fu E S a0) t) h
  unfold sp_X12_check
  refine K_aload_n dX12_check_0 rfl rfl ?_
  refine K_iconst (v := 0) dX12_check_1 (by decide) ?_
  refine K_putI dX12_check_2 p_X12_90_10 ha0 rfl ?_
  refine K_nmS (fun S1 => ?_)
  refine K_aload_n dX12_check_5 rfl rfl ?_
  refine K_getI dX12_check_6 f_X12_152_10 ha0 rfl ?_
  refine K_if_ne (tgt := 18) dX12_check_9 (by decide) (fun c18 => ?_) (fun c18 => ?_)
  · refine K_aload_n dX12_check_18 rfl rfl ?_
    refine K_iconst (v := 1) dX12_check_19 (by decide) ?_
    refine K_putZ dX12_check_20 p_X12_316_10 ha0 rfl rfl ?_
    refine K_nmS (fun S2 => ?_)
    refine K_aload_n dX12_check_23 rfl rfl ?_
    refine K_bind (fun u3 hu3 => ?_)
    refine K_callVV (As := []) (k_X12_examine fu hE ha0 hu3) dX12_check_24 v_X12_341 ha0 rfl rfl rfl rfl (Nat.le_of_ble_eq_true rfl) ⟨Nat.le_of_ble_eq_true rfl, Nat.le_of_ble_eq_true rfl, Nat.le_of_ble_eq_true rfl, Nat.le_of_ble_eq_true rfl⟩ ?_
    refine K_aload_n dX12_check_27 rfl rfl ?_
    refine K_bind (fun u4 hu4 => ?_)
    refine K_callVI (As := []) (k_X12_isWell fu hE ha0 hu4) dX12_check_28 v_X12_218 ha0 rfl rfl rfl rfl (Nat.le_of_ble_eq_true rfl) ⟨Nat.le_of_ble_eq_true rfl, Nat.le_of_ble_eq_true rfl, Nat.le_of_ble_eq_true rfl, Nat.le_of_ble_eq_true rfl⟩ ?_
    refine K_if_eq (tgt := 38) dX12_check_31 (by decide) (fun c16 => ?_) (fun c16 => ?_)
    · refine K_aload_n dX12_check_38 rfl rfl ?_
      refine K_iconst (v := 1) dX12_check_39 (by decide) ?_
      refine K_putZ dX12_check_40 p_X12_338_10 ha0 rfl rfl ?_
      refine K_nmS (fun S5 => ?_)
      refine K_iconst (v := 0) dX12_check_43 (by decide) ?_
      refine K_istore_n (ls' := [(0, _), (1, _)]) dX12_check_44 rfl (by decide) rfl ?_
      refine K.keep [0, 1] ?_
      exact kl_X12_check_45 hQ hE fu ha0 fu 0 S5
    · refine K_aload_n dX12_check_34 rfl rfl ?_
      refine K_bind (fun u14 hu14 => ?_)
      refine K_callVV (As := []) (k_X12_setFirst fu hE ha0 hu14) dX12_check_35 v_X12_347 ha0 rfl rfl rfl rfl (Nat.le_of_ble_eq_true rfl) ⟨Nat.le_of_ble_eq_true rfl, Nat.le_of_ble_eq_true rfl, Nat.le_of_ble_eq_true rfl, Nat.le_of_ble_eq_true rfl⟩ ?_
      refine K_aload_n dX12_check_38 rfl rfl ?_
      refine K_iconst (v := 1) dX12_check_39 (by decide) ?_
      refine K_putZ dX12_check_40 p_X12_338_10 ha0 rfl rfl ?_
      refine K_nmS (fun S15 => ?_)
      refine K_iconst (v := 0) dX12_check_43 (by decide) ?_
      refine K_istore_n (ls' := [(0, _), (1, _)]) dX12_check_44 rfl (by decide) rfl ?_
      refine K.keep [0, 1] ?_
      exact kl_X12_check_45 hQ hE fu ha0 fu 0 S15
  · refine K_aload_n dX12_check_12 rfl rfl ?_
    refine K_iconst (v := 1) dX12_check_13 (by decide) ?_
    refine K_bind (fun u17 hu17 => ?_)
    refine K_callVI (As := [.int 1]) (k_X12_no fu hE ha0 hu17) dX12_check_14 v_X12_126 ha0 rfl rfl rfl rfl (Nat.le_of_ble_eq_true rfl) ⟨Nat.le_of_ble_eq_true rfl, Nat.le_of_ble_eq_true rfl, Nat.le_of_ble_eq_true rfl, Nat.le_of_ble_eq_true rfl⟩ ?_
    exact K_iret dX12_check_17 hQ rfl (Nat.le_of_ble_eq_true rfl) (Nat.le_of_ble_eq_true rfl)
def sp_X12_errorPosition (fu : Nat) (E : Ev) (S : St) (a0 : Nat) : Option (Int32 × St) :=
  bnd (sF S a0 0 0) fun S1 =>
  some (S1.1 a0 36, S1)
set_option maxRecDepth 100000 in
theorem k_X12_errorPosition {l : Launch} (fu : Nat) {E : Ev} (hE : WE E) {a0 : Nat} (ha0 : E.1 a0 = some (0, 10, 0)) {S : St} {t : (Int32 × St)} (h : sp_X12_errorPosition fu E S a0 = some t) : Cn l mX12_errorPosition [.ref a0] (hp E S) (PoI E t) := by
  refine Cn.of (by decide) rfl (Nat.le_of_ble_eq_true rfl) (fun X _ _ hQ => ?_)
  refine (?_ : K mX12_errorPosition X E 0 [(0, .ref a0)] [] S 0 0 (sp_X12_errorPosition fu E S a0) t) h
  unfold sp_X12_errorPosition
  refine K_aload_n dX12_errorPosition_0 rfl rfl ?_
  refine K_iconst (v := 0) dX12_errorPosition_1 (by decide) ?_
  refine K_putI dX12_errorPosition_2 p_X12_90_10 ha0 rfl ?_
  refine K_nmS (fun S1 => ?_)
  refine K_aload_n dX12_errorPosition_5 rfl rfl ?_
  refine K_getI dX12_errorPosition_6 f_X12_78_10 ha0 rfl ?_
  exact K_iret dX12_errorPosition_9 hQ rfl (Nat.le_of_ble_eq_true rfl) (Nat.le_of_ble_eq_true rfl)
def sp_X12_visits (fu : Nat) (E : Ev) (S : St) (a0 : Nat) : Option (Int32 × St) :=
  bnd (sF S a0 0 0) fun S1 =>
  some (S1.1 a0 37, S1)
set_option maxRecDepth 100000 in
theorem k_X12_visits {l : Launch} (fu : Nat) {E : Ev} (hE : WE E) {a0 : Nat} (ha0 : E.1 a0 = some (0, 10, 0)) {S : St} {t : (Int32 × St)} (h : sp_X12_visits fu E S a0 = some t) : Cn l mX12_visits [.ref a0] (hp E S) (PoI E t) := by
  refine Cn.of (by decide) rfl (Nat.le_of_ble_eq_true rfl) (fun X _ _ hQ => ?_)
  refine (?_ : K mX12_visits X E 0 [(0, .ref a0)] [] S 0 0 (sp_X12_visits fu E S a0) t) h
  unfold sp_X12_visits
  refine K_aload_n dX12_visits_0 rfl rfl ?_
  refine K_iconst (v := 0) dX12_visits_1 (by decide) ?_
  refine K_putI dX12_visits_2 p_X12_90_10 ha0 rfl ?_
  refine K_nmS (fun S1 => ?_)
  refine K_aload_n dX12_visits_5 rfl rfl ?_
  refine K_getI dX12_visits_6 f_X12_205_10 ha0 rfl ?_
  exact K_iret dX12_visits_9 hQ rfl (Nat.le_of_ble_eq_true rfl) (Nat.le_of_ble_eq_true rfl)
def sp_X12_isIndex (fu : Nat) (E : Ev) (S : St) (a0 : Nat) (x1 : Int32) : Option (Int32 × St) :=
  if x1 < 0 then (
    some (0, S)
  ) else (
    if (S.1 a0 19) ≤ x1 then (
      some (0, S)
    ) else (
      some (1, S)
    )
  )
set_option maxRecDepth 100000 in
theorem k_X12_isIndex {l : Launch} (fu : Nat) {E : Ev} (hE : WE E) {a0 : Nat} (ha0 : E.1 a0 = some (0, 10, 0)) {x1 : Int32} {S : St} {t : (Int32 × St)} (h : sp_X12_isIndex fu E S a0 x1 = some t) : Cn l mX12_isIndex [.ref a0, .int x1] (hp E S) (PoI E t) := by
  refine Cn.of (by decide) rfl (Nat.le_of_ble_eq_true rfl) (fun X _ _ hQ => ?_)
  refine (?_ : K mX12_isIndex X E 0 [(0, .ref a0), (1, .int x1)] [] S 0 0 (sp_X12_isIndex fu E S a0 x1) t) h
  unfold sp_X12_isIndex
  refine K_iload_n dX12_isIndex_0 rfl rfl ?_
  refine K_if_lt (tgt := 16) dX12_isIndex_1 (by decide) (fun c2 => ?_) (fun c2 => ?_)
  · refine K_iconst (v := 0) dX12_isIndex_16 (by decide) ?_
    exact K_zret dX12_isIndex_17 hQ rfl rfl (Nat.le_of_ble_eq_true rfl) (Nat.le_of_ble_eq_true rfl)
  · refine K_iload_n dX12_isIndex_4 rfl rfl ?_
    refine K_aload_n dX12_isIndex_5 rfl rfl ?_
    refine K_getI dX12_isIndex_6 f_X12_165_10 ha0 rfl ?_
    refine K_icmp_ge (tgt := 16) dX12_isIndex_9 (by decide) (fun c1 => ?_) (fun c1 => ?_)
    · refine K_iconst (v := 0) dX12_isIndex_16 (by decide) ?_
      exact K_zret dX12_isIndex_17 hQ rfl rfl (Nat.le_of_ble_eq_true rfl) (Nat.le_of_ble_eq_true rfl)
    · refine K_iconst (v := 1) dX12_isIndex_12 (by decide) ?_
      refine K_goto (tgt := 17) dX12_isIndex_13 (by decide) ?_
      exact K_zret dX12_isIndex_17 hQ rfl rfl (Nat.le_of_ble_eq_true rfl) (Nat.le_of_ble_eq_true rfl)
def sp_X12_hasFrame (fu : Nat) (E : Ev) (S : St) (a0 : Nat) (x1 : Int32) : Option (Int32 × St) :=
  bnd (sF S a0 0 0) fun S1 =>
  (sp_X12_isIndex fu E S1 a0 x1).bind fun u2 =>
  if u2.1 = 0 then (
    (sp_X12_no fu E u2.2 a0 1).bind fun u3 =>
    if u3.1 ≤ 0 then (
      some (0, u3.2)
    ) else (
      some (1, u3.2)
    )
  ) else (
    if inb x1 100 = true then
      (
      if isB (u2.2.2.1 (E.2 a0 28) x1.toNatClampNeg) = true then some (u2.2.2.1 (E.2 a0 28) x1.toNatClampNeg, u2.2) else none
      )
    else none
  )
set_option maxRecDepth 100000 in
theorem k_X12_hasFrame {l : Launch} (fu : Nat) {E : Ev} (hE : WE E) {a0 : Nat} (ha0 : E.1 a0 = some (0, 10, 0)) {x1 : Int32} {S : St} {t : (Int32 × St)} (h : sp_X12_hasFrame fu E S a0 x1 = some t) : Cn l mX12_hasFrame [.ref a0, .int x1] (hp E S) (PoI E t) := by
  refine Cn.of (by decide) rfl (Nat.le_of_ble_eq_true rfl) (fun X _ _ hQ => ?_)
  refine (?_ : K mX12_hasFrame X E 0 [(0, .ref a0), (1, .int x1)] [] S 0 0 (sp_X12_hasFrame fu E S a0 x1) t) h
  unfold sp_X12_hasFrame
  refine K_aload_n dX12_hasFrame_0 rfl rfl ?_
  refine K_iconst (v := 0) dX12_hasFrame_1 (by decide) ?_
  refine K_putI dX12_hasFrame_2 p_X12_90_10 ha0 rfl ?_
  refine K_nmS (fun S1 => ?_)
  refine K_aload_n dX12_hasFrame_5 rfl rfl ?_
  refine K_iload_n dX12_hasFrame_6 rfl rfl ?_
  refine K_bind (fun u2 hu2 => ?_)
  refine K_callVI (As := [.int x1]) (k_X12_isIndex fu hE ha0 hu2) dX12_hasFrame_7 v_X12_359 ha0 rfl rfl rfl rfl (Nat.le_of_ble_eq_true rfl) ⟨Nat.le_of_ble_eq_true rfl, Nat.le_of_ble_eq_true rfl, Nat.le_of_ble_eq_true rfl, Nat.le_of_ble_eq_true rfl⟩ ?_
  refine K_if_eq (tgt := 22) dX12_hasFrame_10 (by decide) (fun c8 => ?_) (fun c8 => ?_)
  · refine K_aload_n dX12_hasFrame_22 rfl rfl ?_
    refine K_iconst (v := 1) dX12_hasFrame_23 (by decide) ?_
    refine K_bind (fun u3 hu3 => ?_)
    refine K_callVI (As := [.int 1]) (k_X12_no fu hE ha0 hu3) dX12_hasFrame_24 v_X12_126 ha0 rfl rfl rfl rfl (Nat.le_of_ble_eq_true rfl) ⟨Nat.le_of_ble_eq_true rfl, Nat.le_of_ble_eq_true rfl, Nat.le_of_ble_eq_true rfl, Nat.le_of_ble_eq_true rfl⟩ ?_
    refine K_if_le (tgt := 34) dX12_hasFrame_27 (by decide) (fun c4 => ?_) (fun c4 => ?_)
    · refine K_iconst (v := 0) dX12_hasFrame_34 (by decide) ?_
      exact K_zret dX12_hasFrame_35 hQ rfl rfl (Nat.le_of_ble_eq_true rfl) (Nat.le_of_ble_eq_true rfl)
    · refine K_iconst (v := 1) dX12_hasFrame_30 (by decide) ?_
      refine K_goto (tgt := 35) dX12_hasFrame_31 (by decide) ?_
      exact K_zret dX12_hasFrame_35 hQ rfl rfl (Nat.le_of_ble_eq_true rfl) (Nat.le_of_ble_eq_true rfl)
  · refine K_aload_n dX12_hasFrame_13 rfl rfl ?_
    refine K_getC hE dX12_hasFrame_14 f_X12_63_10 ha0 rfl rfl (fun h5 => ?_)
    refine K_iload_n dX12_hasFrame_17 rfl rfl ?_
    refine K_chk (fun h6 => ?_)
    refine K_zald dX12_hasFrame_18 h5 h6 ?_
    refine K_goto (tgt := 35) dX12_hasFrame_19 (by decide) ?_
    refine K_chk (fun h7 => ?_)
    exact K_zret dX12_hasFrame_35 hQ rfl h7 (Nat.le_of_ble_eq_true rfl) (Nat.le_of_ble_eq_true rfl)
def jb_X12_isLooked_27 (fu : Nat) (E : Ev) (a0 b0 : Nat) (y1 : Int32) (S : St) : Option (Int32 × St) :=
  bnd (sF S b0 0 y1) fun S4 =>
  if (S4.1 a0 0) = 0 then (
    some (1, S4)
  ) else (
    some (0, S4)
  )
set_option maxRecDepth 100000 in
theorem kj_X12_isLooked_27 {X : Cx} {E : Ev} {t : (Int32 × St)} {a0 b0 : Nat} (hQ : EndR mX12_isLooked X (PoI E t)) (hE : WE E) (fu : Nat) (ha0 : E.1 a0 = some (0, 10, 0)) (hb0 : E.1 b0 = some (0, 10, 0)) (y1 : Int32) (S : St) : K mX12_isLooked X E 27 [(0, .ref a0)] [.int y1, .ref b0] S 0 0 (jb_X12_isLooked_27 fu E a0 b0 y1 S) t := by
  unfold jb_X12_isLooked_27
  refine K_putI dX12_isLooked_27 p_X12_90_10 hb0 rfl ?_
  refine K_nmS (fun S4 => ?_)
  refine K_aload_n dX12_isLooked_30 rfl rfl ?_
  refine K_getI dX12_isLooked_31 f_X12_90_10 ha0 rfl ?_
  refine K_if_ne (tgt := 41) dX12_isLooked_34 (by decide) (fun c5 => ?_) (fun c5 => ?_)
  · refine K_iconst (v := 0) dX12_isLooked_41 (by decide) ?_
    exact K_zret dX12_isLooked_42 hQ rfl rfl (Nat.le_of_ble_eq_true rfl) (Nat.le_of_ble_eq_true rfl)
  · refine K_iconst (v := 1) dX12_isLooked_37 (by decide) ?_
    refine K_goto (tgt := 42) dX12_isLooked_38 (by decide) ?_
    exact K_zret dX12_isLooked_42 hQ rfl rfl (Nat.le_of_ble_eq_true rfl) (Nat.le_of_ble_eq_true rfl)
def sp_X12_isLooked (fu : Nat) (E : Ev) (S : St) (a0 : Nat) (x1 : Int32) : Option (Int32 × St) :=
  (sp_X12_isIndex fu E S a0 x1).bind fun u1 =>
  if u1.1 = 0 then (
    jb_X12_isLooked_27 fu E a0 a0 1 u1.2
  ) else (
    if inb x1 100 = true then
      (
      if (u1.2.2.1 (E.2 a0 28) x1.toNatClampNeg) = 0 then (
        jb_X12_isLooked_27 fu E a0 a0 2 u1.2
      ) else (
        jb_X12_isLooked_27 fu E a0 a0 0 u1.2
      )
      )
    else none
  )
set_option maxRecDepth 100000 in
theorem k_X12_isLooked {l : Launch} (fu : Nat) {E : Ev} (hE : WE E) {a0 : Nat} (ha0 : E.1 a0 = some (0, 10, 0)) {x1 : Int32} {S : St} {t : (Int32 × St)} (h : sp_X12_isLooked fu E S a0 x1 = some t) : Cn l mX12_isLooked [.ref a0, .int x1] (hp E S) (PoI E t) := by
  refine Cn.of (by decide) rfl (Nat.le_of_ble_eq_true rfl) (fun X _ _ hQ => ?_)
  refine (?_ : K mX12_isLooked X E 0 [(0, .ref a0), (1, .int x1)] [] S 0 0 (sp_X12_isLooked fu E S a0 x1) t) h
  unfold sp_X12_isLooked
  refine K_aload_n dX12_isLooked_0 rfl rfl ?_
  refine K_aload_n dX12_isLooked_1 rfl rfl ?_
  refine K_iload_n dX12_isLooked_2 rfl rfl ?_
  refine K_bind (fun u1 hu1 => ?_)
  refine K_callVI (As := [.int x1]) (k_X12_isIndex fu hE ha0 hu1) dX12_isLooked_3 v_X12_359 ha0 rfl rfl rfl rfl (Nat.le_of_ble_eq_true rfl) ⟨Nat.le_of_ble_eq_true rfl, Nat.le_of_ble_eq_true rfl, Nat.le_of_ble_eq_true rfl, Nat.le_of_ble_eq_true rfl⟩ ?_
  refine K_if_ne (tgt := 13) dX12_isLooked_6 (by decide) (fun c7 => ?_) (fun c7 => ?_)
  · refine K_aload_n dX12_isLooked_13 rfl rfl ?_
    refine K_getC hE dX12_isLooked_14 f_X12_63_10 ha0 rfl rfl (fun h2 => ?_)
    refine K_iload_n dX12_isLooked_17 rfl rfl ?_
    refine K_chk (fun h3 => ?_)
    refine K_zald dX12_isLooked_18 h2 h3 ?_
    refine K_if_ne (tgt := 26) dX12_isLooked_19 (by decide) (fun c6 => ?_) (fun c6 => ?_)
    · refine K_iconst (v := 0) dX12_isLooked_26 (by decide) ?_
      refine K.keep [0] ?_
      exact kj_X12_isLooked_27 hQ hE fu ha0 ha0 0 u1.2
    · refine K_iconst (v := 2) dX12_isLooked_22 (by decide) ?_
      refine K_goto (tgt := 27) dX12_isLooked_23 (by decide) ?_
      refine K.keep [0] ?_
      exact kj_X12_isLooked_27 hQ hE fu ha0 ha0 2 u1.2
  · refine K_iconst (v := 1) dX12_isLooked_9 (by decide) ?_
    refine K_goto (tgt := 27) dX12_isLooked_10 (by decide) ?_
    refine K.keep [0] ?_
    exact kj_X12_isLooked_27 hQ hE fu ha0 ha0 1 u1.2
def sp_X12_stackHeight (fu : Nat) (E : Ev) (S : St) (a0 : Nat) (x1 : Int32) : Option (Int32 × St) :=
  (sp_X12_isLooked fu E S a0 x1).bind fun u1 =>
  if u1.1 = 0 then (
    some (0, u1.2)
  ) else (
    if inb ((26 * x1) + 24) 2600 = true then
      (
      some (u1.2.2.1 (E.2 a0 29) ((26 * x1) + 24).toNatClampNeg, u1.2)
      )
    else none
  )
set_option maxRecDepth 100000 in
theorem k_X12_stackHeight {l : Launch} (fu : Nat) {E : Ev} (hE : WE E) {a0 : Nat} (ha0 : E.1 a0 = some (0, 10, 0)) {x1 : Int32} {S : St} {t : (Int32 × St)} (h : sp_X12_stackHeight fu E S a0 x1 = some t) : Cn l mX12_stackHeight [.ref a0, .int x1] (hp E S) (PoI E t) := by
  refine Cn.of (by decide) rfl (Nat.le_of_ble_eq_true rfl) (fun X _ _ hQ => ?_)
  refine (?_ : K mX12_stackHeight X E 0 [(0, .ref a0), (1, .int x1)] [] S 0 0 (sp_X12_stackHeight fu E S a0 x1) t) h
  unfold sp_X12_stackHeight
  refine K_aload_n dX12_stackHeight_0 rfl rfl ?_
  refine K_iload_n dX12_stackHeight_1 rfl rfl ?_
  refine K_bind (fun u1 hu1 => ?_)
  refine K_callVI (As := [.int x1]) (k_X12_isLooked fu hE ha0 hu1) dX12_stackHeight_2 v_X12_362 ha0 rfl rfl rfl rfl (Nat.le_of_ble_eq_true rfl) ⟨Nat.le_of_ble_eq_true rfl, Nat.le_of_ble_eq_true rfl, Nat.le_of_ble_eq_true rfl, Nat.le_of_ble_eq_true rfl⟩ ?_
  refine K_if_eq (tgt := 23) dX12_stackHeight_5 (by decide) (fun c4 => ?_) (fun c4 => ?_)
  · refine K_iconst (v := 0) dX12_stackHeight_23 (by decide) ?_
    exact K_iret dX12_stackHeight_24 hQ rfl (Nat.le_of_ble_eq_true rfl) (Nat.le_of_ble_eq_true rfl)
  · refine K_aload_n dX12_stackHeight_8 rfl rfl ?_
    refine K_getC hE dX12_stackHeight_9 f_X12_66_10 ha0 rfl rfl (fun h2 => ?_)
    refine K_bipush (v := 26) dX12_stackHeight_12 (by decide) ?_
    refine K_iload_n dX12_stackHeight_14 rfl rfl ?_
    refine K_imul dX12_stackHeight_15 ?_
    refine K_bipush (v := 24) dX12_stackHeight_16 (by decide) ?_
    refine K_iadd dX12_stackHeight_18 ?_
    refine K_chk (fun h3 => ?_)
    refine K_iald dX12_stackHeight_19 h2 h3 ?_
    refine K_goto (tgt := 24) dX12_stackHeight_20 (by decide) ?_
    exact K_iret dX12_stackHeight_24 hQ rfl (Nat.le_of_ble_eq_true rfl) (Nat.le_of_ble_eq_true rfl)
def sp_X12_stackSlot (fu : Nat) (E : Ev) (S : St) (a0 : Nat) (x1 : Int32) (x2 : Int32) : Option (Int32 × St) :=
  (sp_X12_isLooked fu E S a0 x1).bind fun u1 =>
  if u1.1 = 0 then (
    some (0, u1.2)
  ) else (
    if x2 < 0 then (
      (sp_X12_no fu E u1.2 a0 3).bind fun u2 =>
      some (u2.1, u2.2)
    ) else (
      if inb ((26 * x1) + 24) 2600 = true then
        (
        if (u1.2.2.1 (E.2 a0 29) ((26 * x1) + 24).toNatClampNeg) ≤ x2 then (
          (sp_X12_no fu E u1.2 a0 3).bind fun u5 =>
          some (u5.1, u5.2)
        ) else (
          if inb (((26 * x1) + 12) + x2) 2600 = true then
            (
            some (u1.2.2.1 (E.2 a0 29) (((26 * x1) + 12) + x2).toNatClampNeg, u1.2)
            )
          else none
        )
        )
      else none
    )
  )
set_option maxRecDepth 100000 in
theorem k_X12_stackSlot {l : Launch} (fu : Nat) {E : Ev} (hE : WE E) {a0 : Nat} (ha0 : E.1 a0 = some (0, 10, 0)) {x1 : Int32} {x2 : Int32} {S : St} {t : (Int32 × St)} (h : sp_X12_stackSlot fu E S a0 x1 x2 = some t) : Cn l mX12_stackSlot [.ref a0, .int x1, .int x2] (hp E S) (PoI E t) := by
  refine Cn.of (by decide) rfl (Nat.le_of_ble_eq_true rfl) (fun X _ _ hQ => ?_)
  refine (?_ : K mX12_stackSlot X E 0 [(0, .ref a0), (1, .int x1), (2, .int x2)] [] S 0 0 (sp_X12_stackSlot fu E S a0 x1 x2) t) h
  unfold sp_X12_stackSlot
  refine K_aload_n dX12_stackSlot_0 rfl rfl ?_
  refine K_iload_n dX12_stackSlot_1 rfl rfl ?_
  refine K_bind (fun u1 hu1 => ?_)
  refine K_callVI (As := [.int x1]) (k_X12_isLooked fu hE ha0 hu1) dX12_stackSlot_2 v_X12_362 ha0 rfl rfl rfl rfl (Nat.le_of_ble_eq_true rfl) ⟨Nat.le_of_ble_eq_true rfl, Nat.le_of_ble_eq_true rfl, Nat.le_of_ble_eq_true rfl, Nat.le_of_ble_eq_true rfl⟩ ?_
  refine K_if_ne (tgt := 10) dX12_stackSlot_5 (by decide) (fun c10 => ?_) (fun c10 => ?_)
  · refine K_iload_n dX12_stackSlot_10 rfl rfl ?_
    refine K_if_lt (tgt := 47) dX12_stackSlot_11 (by decide) (fun c9 => ?_) (fun c9 => ?_)
    · refine K_aload_n dX12_stackSlot_47 rfl rfl ?_
      refine K_iconst (v := 3) dX12_stackSlot_48 (by decide) ?_
      refine K_bind (fun u2 hu2 => ?_)
      refine K_callVI (As := [.int 3]) (k_X12_no fu hE ha0 hu2) dX12_stackSlot_49 v_X12_126 ha0 rfl rfl rfl rfl (Nat.le_of_ble_eq_true rfl) ⟨Nat.le_of_ble_eq_true rfl, Nat.le_of_ble_eq_true rfl, Nat.le_of_ble_eq_true rfl, Nat.le_of_ble_eq_true rfl⟩ ?_
      exact K_iret dX12_stackSlot_52 hQ rfl (Nat.le_of_ble_eq_true rfl) (Nat.le_of_ble_eq_true rfl)
    · refine K_iload_n dX12_stackSlot_14 rfl rfl ?_
      refine K_aload_n dX12_stackSlot_15 rfl rfl ?_
      refine K_getC hE dX12_stackSlot_16 f_X12_66_10 ha0 rfl rfl (fun h3 => ?_)
      refine K_bipush (v := 26) dX12_stackSlot_19 (by decide) ?_
      refine K_iload_n dX12_stackSlot_21 rfl rfl ?_
      refine K_imul dX12_stackSlot_22 ?_
      refine K_bipush (v := 24) dX12_stackSlot_23 (by decide) ?_
      refine K_iadd dX12_stackSlot_25 ?_
      refine K_chk (fun h4 => ?_)
      refine K_iald dX12_stackSlot_26 h3 h4 ?_
      refine K_icmp_ge (tgt := 47) dX12_stackSlot_27 (by decide) (fun c8 => ?_) (fun c8 => ?_)
      · refine K_aload_n dX12_stackSlot_47 rfl rfl ?_
        refine K_iconst (v := 3) dX12_stackSlot_48 (by decide) ?_
        refine K_bind (fun u5 hu5 => ?_)
        refine K_callVI (As := [.int 3]) (k_X12_no fu hE ha0 hu5) dX12_stackSlot_49 v_X12_126 ha0 rfl rfl rfl rfl (Nat.le_of_ble_eq_true rfl) ⟨Nat.le_of_ble_eq_true rfl, Nat.le_of_ble_eq_true rfl, Nat.le_of_ble_eq_true rfl, Nat.le_of_ble_eq_true rfl⟩ ?_
        exact K_iret dX12_stackSlot_52 hQ rfl (Nat.le_of_ble_eq_true rfl) (Nat.le_of_ble_eq_true rfl)
      · refine K_aload_n dX12_stackSlot_30 rfl rfl ?_
        refine K_getC hE dX12_stackSlot_31 f_X12_66_10 ha0 rfl rfl (fun h6 => ?_)
        refine K_bipush (v := 26) dX12_stackSlot_34 (by decide) ?_
        refine K_iload_n dX12_stackSlot_36 rfl rfl ?_
        refine K_imul dX12_stackSlot_37 ?_
        refine K_bipush (v := 12) dX12_stackSlot_38 (by decide) ?_
        refine K_iadd dX12_stackSlot_40 ?_
        refine K_iload_n dX12_stackSlot_41 rfl rfl ?_
        refine K_iadd dX12_stackSlot_42 ?_
        refine K_chk (fun h7 => ?_)
        refine K_iald dX12_stackSlot_43 h6 h7 ?_
        refine K_goto (tgt := 52) dX12_stackSlot_44 (by decide) ?_
        exact K_iret dX12_stackSlot_52 hQ rfl (Nat.le_of_ble_eq_true rfl) (Nat.le_of_ble_eq_true rfl)
  · refine K_iconst (v := 0) dX12_stackSlot_8 (by decide) ?_
    exact K_iret dX12_stackSlot_9 hQ rfl (Nat.le_of_ble_eq_true rfl) (Nat.le_of_ble_eq_true rfl)
def sp_X12_localSlot (fu : Nat) (E : Ev) (S : St) (a0 : Nat) (x1 : Int32) (x2 : Int32) : Option (Int32 × St) :=
  (sp_X12_isLooked fu E S a0 x1).bind fun u1 =>
  if u1.1 = 0 then (
    some (0, u1.2)
  ) else (
    if x2 < 0 then (
      (sp_X12_no fu E u1.2 a0 3).bind fun u2 =>
      some (u2.1, u2.2)
    ) else (
      if (u1.2.1 a0 18) ≤ x2 then (
        (sp_X12_no fu E u1.2 a0 3).bind fun u3 =>
        some (u3.1, u3.2)
      ) else (
        if inb ((26 * x1) + x2) 2600 = true then
          (
          some (u1.2.2.1 (E.2 a0 29) ((26 * x1) + x2).toNatClampNeg, u1.2)
          )
        else none
      )
    )
  )
set_option maxRecDepth 100000 in
theorem k_X12_localSlot {l : Launch} (fu : Nat) {E : Ev} (hE : WE E) {a0 : Nat} (ha0 : E.1 a0 = some (0, 10, 0)) {x1 : Int32} {x2 : Int32} {S : St} {t : (Int32 × St)} (h : sp_X12_localSlot fu E S a0 x1 x2 = some t) : Cn l mX12_localSlot [.ref a0, .int x1, .int x2] (hp E S) (PoI E t) := by
  refine Cn.of (by decide) rfl (Nat.le_of_ble_eq_true rfl) (fun X _ _ hQ => ?_)
  refine (?_ : K mX12_localSlot X E 0 [(0, .ref a0), (1, .int x1), (2, .int x2)] [] S 0 0 (sp_X12_localSlot fu E S a0 x1 x2) t) h
  unfold sp_X12_localSlot
  refine K_aload_n dX12_localSlot_0 rfl rfl ?_
  refine K_iload_n dX12_localSlot_1 rfl rfl ?_
  refine K_bind (fun u1 hu1 => ?_)
  refine K_callVI (As := [.int x1]) (k_X12_isLooked fu hE ha0 hu1) dX12_localSlot_2 v_X12_362 ha0 rfl rfl rfl rfl (Nat.le_of_ble_eq_true rfl) ⟨Nat.le_of_ble_eq_true rfl, Nat.le_of_ble_eq_true rfl, Nat.le_of_ble_eq_true rfl, Nat.le_of_ble_eq_true rfl⟩ ?_
  refine K_if_ne (tgt := 10) dX12_localSlot_5 (by decide) (fun c8 => ?_) (fun c8 => ?_)
  · refine K_iload_n dX12_localSlot_10 rfl rfl ?_
    refine K_if_lt (tgt := 36) dX12_localSlot_11 (by decide) (fun c7 => ?_) (fun c7 => ?_)
    · refine K_aload_n dX12_localSlot_36 rfl rfl ?_
      refine K_iconst (v := 3) dX12_localSlot_37 (by decide) ?_
      refine K_bind (fun u2 hu2 => ?_)
      refine K_callVI (As := [.int 3]) (k_X12_no fu hE ha0 hu2) dX12_localSlot_38 v_X12_126 ha0 rfl rfl rfl rfl (Nat.le_of_ble_eq_true rfl) ⟨Nat.le_of_ble_eq_true rfl, Nat.le_of_ble_eq_true rfl, Nat.le_of_ble_eq_true rfl, Nat.le_of_ble_eq_true rfl⟩ ?_
      exact K_iret dX12_localSlot_41 hQ rfl (Nat.le_of_ble_eq_true rfl) (Nat.le_of_ble_eq_true rfl)
    · refine K_iload_n dX12_localSlot_14 rfl rfl ?_
      refine K_aload_n dX12_localSlot_15 rfl rfl ?_
      refine K_getI dX12_localSlot_16 f_X12_162_10 ha0 rfl ?_
      refine K_icmp_ge (tgt := 36) dX12_localSlot_19 (by decide) (fun c6 => ?_) (fun c6 => ?_)
      · refine K_aload_n dX12_localSlot_36 rfl rfl ?_
        refine K_iconst (v := 3) dX12_localSlot_37 (by decide) ?_
        refine K_bind (fun u3 hu3 => ?_)
        refine K_callVI (As := [.int 3]) (k_X12_no fu hE ha0 hu3) dX12_localSlot_38 v_X12_126 ha0 rfl rfl rfl rfl (Nat.le_of_ble_eq_true rfl) ⟨Nat.le_of_ble_eq_true rfl, Nat.le_of_ble_eq_true rfl, Nat.le_of_ble_eq_true rfl, Nat.le_of_ble_eq_true rfl⟩ ?_
        exact K_iret dX12_localSlot_41 hQ rfl (Nat.le_of_ble_eq_true rfl) (Nat.le_of_ble_eq_true rfl)
      · refine K_aload_n dX12_localSlot_22 rfl rfl ?_
        refine K_getC hE dX12_localSlot_23 f_X12_66_10 ha0 rfl rfl (fun h4 => ?_)
        refine K_bipush (v := 26) dX12_localSlot_26 (by decide) ?_
        refine K_iload_n dX12_localSlot_28 rfl rfl ?_
        refine K_imul dX12_localSlot_29 ?_
        refine K_iload_n dX12_localSlot_30 rfl rfl ?_
        refine K_iadd dX12_localSlot_31 ?_
        refine K_chk (fun h5 => ?_)
        refine K_iald dX12_localSlot_32 h4 h5 ?_
        refine K_goto (tgt := 41) dX12_localSlot_33 (by decide) ?_
        exact K_iret dX12_localSlot_41 hQ rfl (Nat.le_of_ble_eq_true rfl) (Nat.le_of_ble_eq_true rfl)
  · refine K_iconst (v := 0) dX12_localSlot_8 (by decide) ?_
    exact K_iret dX12_localSlot_9 hQ rfl (Nat.le_of_ble_eq_true rfl) (Nat.le_of_ble_eq_true rfl)
def sp_X12_isMarked (fu : Nat) (E : Ev) (S : St) (a0 : Nat) (x1 : Int32) : Option (Int32 × St) :=
  (sp_X12_isLooked fu E S a0 x1).bind fun u1 =>
  if u1.1 = 0 then (
    some (0, u1.2)
  ) else (
    if inb ((26 * x1) + 25) 2600 = true then
      (
      if (u1.2.2.1 (E.2 a0 29) ((26 * x1) + 25).toNatClampNeg) = 1 then (
        some (1, u1.2)
      ) else (
        some (0, u1.2)
      )
      )
    else none
  )
set_option maxRecDepth 100000 in
theorem k_X12_isMarked {l : Launch} (fu : Nat) {E : Ev} (hE : WE E) {a0 : Nat} (ha0 : E.1 a0 = some (0, 10, 0)) {x1 : Int32} {S : St} {t : (Int32 × St)} (h : sp_X12_isMarked fu E S a0 x1 = some t) : Cn l mX12_isMarked [.ref a0, .int x1] (hp E S) (PoI E t) := by
  refine Cn.of (by decide) rfl (Nat.le_of_ble_eq_true rfl) (fun X _ _ hQ => ?_)
  refine (?_ : K mX12_isMarked X E 0 [(0, .ref a0), (1, .int x1)] [] S 0 0 (sp_X12_isMarked fu E S a0 x1) t) h
  unfold sp_X12_isMarked
  refine K_aload_n dX12_isMarked_0 rfl rfl ?_
  refine K_iload_n dX12_isMarked_1 rfl rfl ?_
  refine K_bind (fun u1 hu1 => ?_)
  refine K_callVI (As := [.int x1]) (k_X12_isLooked fu hE ha0 hu1) dX12_isMarked_2 v_X12_362 ha0 rfl rfl rfl rfl (Nat.le_of_ble_eq_true rfl) ⟨Nat.le_of_ble_eq_true rfl, Nat.le_of_ble_eq_true rfl, Nat.le_of_ble_eq_true rfl, Nat.le_of_ble_eq_true rfl⟩ ?_
  refine K_if_eq (tgt := 28) dX12_isMarked_5 (by decide) (fun c5 => ?_) (fun c5 => ?_)
  · refine K_iconst (v := 0) dX12_isMarked_28 (by decide) ?_
    exact K_zret dX12_isMarked_29 hQ rfl rfl (Nat.le_of_ble_eq_true rfl) (Nat.le_of_ble_eq_true rfl)
  · refine K_aload_n dX12_isMarked_8 rfl rfl ?_
    refine K_getC hE dX12_isMarked_9 f_X12_66_10 ha0 rfl rfl (fun h2 => ?_)
    refine K_bipush (v := 26) dX12_isMarked_12 (by decide) ?_
    refine K_iload_n dX12_isMarked_14 rfl rfl ?_
    refine K_imul dX12_isMarked_15 ?_
    refine K_bipush (v := 25) dX12_isMarked_16 (by decide) ?_
    refine K_iadd dX12_isMarked_18 ?_
    refine K_chk (fun h3 => ?_)
    refine K_iald dX12_isMarked_19 h2 h3 ?_
    refine K_iconst (v := 1) dX12_isMarked_20 (by decide) ?_
    refine K_icmp_ne (tgt := 28) dX12_isMarked_21 (by decide) (fun c4 => ?_) (fun c4 => ?_)
    · refine K_iconst (v := 0) dX12_isMarked_28 (by decide) ?_
      exact K_zret dX12_isMarked_29 hQ rfl rfl (Nat.le_of_ble_eq_true rfl) (Nat.le_of_ble_eq_true rfl)
    · refine K_iconst (v := 1) dX12_isMarked_24 (by decide) ?_
      refine K_goto (tgt := 29) dX12_isMarked_25 (by decide) ?_
      exact K_zret dX12_isMarked_29 hQ rfl rfl (Nat.le_of_ble_eq_true rfl) (Nat.le_of_ble_eq_true rfl)
def bd_X12_digest_169 (fu : Nat) (E : Ev) (a0 : Nat) (rc67 : Int64 → Int32 → St → Option (Int64 × St)) (rc169 : Int64 → Int32 → Int32 → St → Option (Int64 × St)) (x1 : Int64) (x3 : Int32) (x4 : Int32) (S : St) : Option (Int64 × St) :=
  if inb ((26 * x3) + 24) 2600 = true then
    (
    if (S.2.1 (E.2 a0 29) ((26 * x3) + 24).toNatClampNeg) ≤ x4 then (
      if inb ((26 * x3) + 25) 2600 = true then
        (
        bnd ((x1 * 31) + ((S.2.1 (E.2 a0 29) ((26 * x3) + 25).toNatClampNeg).toInt64)) fun v16 =>
        rc67 v16 (x3 + 1) S
        )
      else none
    ) else (
      if inb (((26 * x3) + 12) + x4) 2600 = true then
        (
        bnd ((x1 * 31) + ((S.2.1 (E.2 a0 29) (((26 * x3) + 12) + x4).toNatClampNeg).toInt64)) fun v19 =>
        rc169 v19 x3 (x4 + 1) S
        )
      else none
    )
    )
  else none
def lp_X12_digest_169 (fu : Nat) (E : Ev) (a0 : Nat) (rc67 : Int64 → Int32 → St → Option (Int64 × St)) : Nat → Int64 → Int32 → Int32 → St → Option (Int64 × St)
  | 0, _, _, _, _ => none
  | f + 1, x1, x3, x4, S => bd_X12_digest_169 fu E a0 rc67 (lp_X12_digest_169 fu E a0 rc67 f) x1 x3 x4 S
set_option maxRecDepth 100000 in
theorem kl_X12_digest_169 {X : Cx} {E : Ev} {t : (Int64 × St)} {a0 : Nat} {rc67 : Int64 → Int32 → St → Option (Int64 × St)} (hQ : EndR mX12_digest X (PoL E t)) (hE : WE E) (fu : Nat) (ha0 : E.1 a0 = some (0, 10, 0)) (hrc67 : ∀ (x1 : Int64) (x3 : Int32) (S : St), K mX12_digest X E 67 [(0, .ref a0), (1, .long x1), (3, .int x3)] [] S 0 0 (rc67 x1 x3 S) t) : ∀ (f : Nat) (x1 : Int64) (x3 : Int32) (x4 : Int32) (S : St), K mX12_digest X E 169 [(0, .ref a0), (1, .long x1), (3, .int x3), (4, .int x4)] [] S 0 0 (lp_X12_digest_169 fu E a0 rc67 f x1 x3 x4 S) t := by
  intro f
  induction f with
  | zero => intro x1 x3 x4 S; exact K_none
  | succ f hrc169 =>
    intro x1 x3 x4 S
    show K _ _ _ _ _ _ _ _ _ (bd_X12_digest_169 fu E a0 rc67 (lp_X12_digest_169 fu E a0 rc67 f) x1 x3 x4 S) t
    unfold bd_X12_digest_169
    refine K_iload dX12_digest_169 rfl ?_
    refine K_aload_n dX12_digest_171 rfl rfl ?_
    refine K_getC hE dX12_digest_172 f_X12_66_10 ha0 rfl rfl (fun h12 => ?_)
    refine K_bipush (v := 26) dX12_digest_175 (by decide) ?_
    refine K_iload_n dX12_digest_177 rfl rfl ?_
    refine K_imul dX12_digest_178 ?_
    refine K_bipush (v := 24) dX12_digest_179 (by decide) ?_
    refine K_iadd dX12_digest_181 ?_
    refine K_chk (fun h13 => ?_)
    refine K_iald dX12_digest_182 h12 h13 ?_
    refine K_icmp_ge (tgt := 215) dX12_digest_183 (by decide) (fun c20 => ?_) (fun c20 => ?_)
    · refine K_lload_n dX12_digest_215 rfl rfl ?_
      refine K_ldc2 (v := 31) dX12_digest_216 c2_X12_367 ?_
      refine K_lmul dX12_digest_219 ?_
      refine K_aload_n dX12_digest_220 rfl rfl ?_
      refine K_getC hE dX12_digest_221 f_X12_66_10 ha0 rfl rfl (fun h14 => ?_)
      refine K_bipush (v := 26) dX12_digest_224 (by decide) ?_
      refine K_iload_n dX12_digest_226 rfl rfl ?_
      refine K_imul dX12_digest_227 ?_
      refine K_bipush (v := 25) dX12_digest_228 (by decide) ?_
      refine K_iadd dX12_digest_230 ?_
      refine K_chk (fun h15 => ?_)
      refine K_iald dX12_digest_231 h14 h15 ?_
      refine K_i2l dX12_digest_232 ?_
      refine K_ladd dX12_digest_233 ?_
      refine K_nmL (fun v16 => ?_)
      refine K_lstore_n (ls' := [(1, _), (0, _), (3, _), (4, _)]) dX12_digest_234 rfl (by decide) rfl ?_
      refine K_iinc (v := (x3 + 1)) (ls' := [(1, _), (0, _), (3, _), (4, _)]) dX12_digest_235 rfl rfl (by decide) rfl ?_
      refine K_goto (tgt := 67) dX12_digest_238 (by decide) ?_
      refine K.keep [0, 1, 3] ?_
      exact hrc67 v16 (x3 + 1) S
    · refine K_lload_n dX12_digest_186 rfl rfl ?_
      refine K_ldc2 (v := 31) dX12_digest_187 c2_X12_367 ?_
      refine K_lmul dX12_digest_190 ?_
      refine K_aload_n dX12_digest_191 rfl rfl ?_
      refine K_getC hE dX12_digest_192 f_X12_66_10 ha0 rfl rfl (fun h17 => ?_)
      refine K_bipush (v := 26) dX12_digest_195 (by decide) ?_
      refine K_iload_n dX12_digest_197 rfl rfl ?_
      refine K_imul dX12_digest_198 ?_
      refine K_bipush (v := 12) dX12_digest_199 (by decide) ?_
      refine K_iadd dX12_digest_201 ?_
      refine K_iload dX12_digest_202 rfl ?_
      refine K_iadd dX12_digest_204 ?_
      refine K_chk (fun h18 => ?_)
      refine K_iald dX12_digest_205 h17 h18 ?_
      refine K_i2l dX12_digest_206 ?_
      refine K_ladd dX12_digest_207 ?_
      refine K_nmL (fun v19 => ?_)
      refine K_lstore_n (ls' := [(1, _), (0, _), (3, _), (4, _)]) dX12_digest_208 rfl (by decide) rfl ?_
      refine K_iinc (v := (x4 + 1)) (ls' := [(1, _), (0, _), (3, _), (4, _)]) dX12_digest_209 rfl rfl (by decide) rfl ?_
      refine K_goto (tgt := 169) dX12_digest_212 (by decide) ?_
      refine K.keep [0, 1, 3, 4] ?_
      exact hrc169 v19 x3 (x4 + 1) S
def bd_X12_digest_131 (fu : Nat) (E : Ev) (a0 : Nat) (rc67 : Int64 → Int32 → St → Option (Int64 × St)) (rc131 : Int64 → Int32 → Int32 → St → Option (Int64 × St)) (x1 : Int64) (x3 : Int32) (x4 : Int32) (S : St) : Option (Int64 × St) :=
  if (S.1 a0 18) ≤ x4 then (
    lp_X12_digest_169 fu E a0 rc67 fu x1 x3 0 S
  ) else (
    if inb ((26 * x3) + x4) 2600 = true then
      (
      bnd ((x1 * 31) + ((S.2.1 (E.2 a0 29) ((26 * x3) + x4).toNatClampNeg).toInt64)) fun v23 =>
      rc131 v23 x3 (x4 + 1) S
      )
    else none
  )
def lp_X12_digest_131 (fu : Nat) (E : Ev) (a0 : Nat) (rc67 : Int64 → Int32 → St → Option (Int64 × St)) : Nat → Int64 → Int32 → Int32 → St → Option (Int64 × St)
  | 0, _, _, _, _ => none
  | f + 1, x1, x3, x4, S => bd_X12_digest_131 fu E a0 rc67 (lp_X12_digest_131 fu E a0 rc67 f) x1 x3 x4 S
set_option maxRecDepth 100000 in
theorem kl_X12_digest_131 {X : Cx} {E : Ev} {t : (Int64 × St)} {a0 : Nat} {rc67 : Int64 → Int32 → St → Option (Int64 × St)} (hQ : EndR mX12_digest X (PoL E t)) (hE : WE E) (fu : Nat) (ha0 : E.1 a0 = some (0, 10, 0)) (hrc67 : ∀ (x1 : Int64) (x3 : Int32) (S : St), K mX12_digest X E 67 [(0, .ref a0), (1, .long x1), (3, .int x3)] [] S 0 0 (rc67 x1 x3 S) t) : ∀ (f : Nat) (x1 : Int64) (x3 : Int32) (x4 : Int32) (S : St), K mX12_digest X E 131 [(0, .ref a0), (1, .long x1), (3, .int x3), (4, .int x4)] [] S 0 0 (lp_X12_digest_131 fu E a0 rc67 f x1 x3 x4 S) t := by
  intro f
  induction f with
  | zero => intro x1 x3 x4 S; exact K_none
  | succ f hrc131 =>
    intro x1 x3 x4 S
    show K _ _ _ _ _ _ _ _ _ (bd_X12_digest_131 fu E a0 rc67 (lp_X12_digest_131 fu E a0 rc67 f) x1 x3 x4 S) t
    unfold bd_X12_digest_131
    refine K_iload dX12_digest_131 rfl ?_
    refine K_aload_n dX12_digest_133 rfl rfl ?_
    refine K_getI dX12_digest_134 f_X12_162_10 ha0 rfl ?_
    refine K_icmp_ge (tgt := 166) dX12_digest_137 (by decide) (fun c24 => ?_) (fun c24 => ?_)
    · refine K_iconst (v := 0) dX12_digest_166 (by decide) ?_
      refine K_istore (ls' := [(0, _), (1, _), (3, _), (4, _)]) dX12_digest_167 (by decide) rfl ?_
      refine K.keep [0, 1, 3, 4] ?_
      exact kl_X12_digest_169 hQ hE fu ha0 hrc67 fu x1 x3 0 S
    · refine K_lload_n dX12_digest_140 rfl rfl ?_
      refine K_ldc2 (v := 31) dX12_digest_141 c2_X12_367 ?_
      refine K_lmul dX12_digest_144 ?_
      refine K_aload_n dX12_digest_145 rfl rfl ?_
      refine K_getC hE dX12_digest_146 f_X12_66_10 ha0 rfl rfl (fun h21 => ?_)
      refine K_bipush (v := 26) dX12_digest_149 (by decide) ?_
      refine K_iload_n dX12_digest_151 rfl rfl ?_
      refine K_imul dX12_digest_152 ?_
      refine K_iload dX12_digest_153 rfl ?_
      refine K_iadd dX12_digest_155 ?_
      refine K_chk (fun h22 => ?_)
      refine K_iald dX12_digest_156 h21 h22 ?_
      refine K_i2l dX12_digest_157 ?_
      refine K_ladd dX12_digest_158 ?_
      refine K_nmL (fun v23 => ?_)
      refine K_lstore_n (ls' := [(1, _), (0, _), (3, _), (4, _)]) dX12_digest_159 rfl (by decide) rfl ?_
      refine K_iinc (v := (x4 + 1)) (ls' := [(1, _), (0, _), (3, _), (4, _)]) dX12_digest_160 rfl rfl (by decide) rfl ?_
      refine K_goto (tgt := 131) dX12_digest_163 (by decide) ?_
      refine K.keep [0, 1, 3, 4] ?_
      exact hrc131 v23 x3 (x4 + 1) S
def jb_X12_digest_94 (fu : Nat) (E : Ev) (a0 : Nat) (rc67 : Int64 → Int32 → St → Option (Int64 × St)) (x3 : Int32) (y0 : Int64) (y1 : Int64) (S : St) : Option (Int64 × St) :=
  bnd (y0 + y1) fun v6 =>
  if inb x3 100 = true then
    (
    if (S.2.1 (E.2 a0 28) x3.toNatClampNeg) = 0 then (
      rc67 v6 (x3 + 1) S
    ) else (
      if inb ((26 * x3) + 24) 2600 = true then
        (
        bnd ((v6 * 31) + ((S.2.1 (E.2 a0 29) ((26 * x3) + 24).toNatClampNeg).toInt64)) fun v11 =>
        lp_X12_digest_131 fu E a0 rc67 fu v11 x3 0 S
        )
      else none
    )
    )
  else none
set_option maxRecDepth 100000 in
theorem kj_X12_digest_94 {X : Cx} {E : Ev} {t : (Int64 × St)} {a0 : Nat} {rc67 : Int64 → Int32 → St → Option (Int64 × St)} (hQ : EndR mX12_digest X (PoL E t)) (hE : WE E) (fu : Nat) (ha0 : E.1 a0 = some (0, 10, 0)) (hrc67 : ∀ (x1 : Int64) (x3 : Int32) (S : St), K mX12_digest X E 67 [(0, .ref a0), (1, .long x1), (3, .int x3)] [] S 0 0 (rc67 x1 x3 S) t) (x3 : Int32) (y0 : Int64) (y1 : Int64) (S : St) : K mX12_digest X E 94 [(0, .ref a0), (3, .int x3)] [.long y1, .long y0] S 0 0 (jb_X12_digest_94 fu E a0 rc67 x3 y0 y1 S) t := by
  unfold jb_X12_digest_94
  refine K_ladd dX12_digest_94 ?_
  refine K_nmL (fun v6 => ?_)
  refine K_lstore_n (ls' := [(1, _), (0, _), (3, _)]) dX12_digest_95 rfl (by decide) rfl ?_
  refine K_aload_n dX12_digest_96 rfl rfl ?_
  refine K_getC hE dX12_digest_97 f_X12_63_10 ha0 rfl rfl (fun h7 => ?_)
  refine K_iload_n dX12_digest_100 rfl rfl ?_
  refine K_chk (fun h8 => ?_)
  refine K_zald dX12_digest_101 h7 h8 ?_
  refine K_if_ne (tgt := 108) dX12_digest_102 (by decide) (fun c25 => ?_) (fun c25 => ?_)
  · refine K_lload_n dX12_digest_108 rfl rfl ?_
    refine K_ldc2 (v := 31) dX12_digest_109 c2_X12_367 ?_
    refine K_lmul dX12_digest_112 ?_
    refine K_aload_n dX12_digest_113 rfl rfl ?_
    refine K_getC hE dX12_digest_114 f_X12_66_10 ha0 rfl rfl (fun h9 => ?_)
    refine K_bipush (v := 26) dX12_digest_117 (by decide) ?_
    refine K_iload_n dX12_digest_119 rfl rfl ?_
    refine K_imul dX12_digest_120 ?_
    refine K_bipush (v := 24) dX12_digest_121 (by decide) ?_
    refine K_iadd dX12_digest_123 ?_
    refine K_chk (fun h10 => ?_)
    refine K_iald dX12_digest_124 h9 h10 ?_
    refine K_i2l dX12_digest_125 ?_
    refine K_ladd dX12_digest_126 ?_
    refine K_nmL (fun v11 => ?_)
    refine K_lstore_n (ls' := [(1, _), (0, _), (3, _)]) dX12_digest_127 rfl (by decide) rfl ?_
    refine K_iconst (v := 0) dX12_digest_128 (by decide) ?_
    refine K_istore (ls' := [(1, _), (0, _), (3, _), (4, _)]) dX12_digest_129 (by decide) rfl ?_
    refine K.keep [0, 1, 3, 4] ?_
    exact kl_X12_digest_131 hQ hE fu ha0 hrc67 fu v11 x3 0 S
  · refine K_goto (tgt := 235) dX12_digest_105 (by decide) ?_
    refine K_iinc (v := (x3 + 1)) (ls' := [(1, _), (0, _), (3, _)]) dX12_digest_235 rfl rfl (by decide) rfl ?_
    refine K_goto (tgt := 67) dX12_digest_238 (by decide) ?_
    refine K.keep [0, 1, 3] ?_
    exact hrc67 v6 (x3 + 1) S
def bd_X12_digest_67 (fu : Nat) (E : Ev) (a0 : Nat) (rc67 : Int64 → Int32 → St → Option (Int64 × St)) (x1 : Int64) (x3 : Int32) (S : St) : Option (Int64 × St) :=
  if (S.1 a0 19) ≤ x3 then (
    some (x1, S)
  ) else (
    if inb x3 100 = true then
      (
      if (S.2.1 (E.2 a0 28) x3.toNatClampNeg) = 0 then (
        jb_X12_digest_94 fu E a0 rc67 x3 (x1 * 31) 0 S
      ) else (
        jb_X12_digest_94 fu E a0 rc67 x3 (x1 * 31) 1 S
      )
      )
    else none
  )
def lp_X12_digest_67 (fu : Nat) (E : Ev) (a0 : Nat) : Nat → Int64 → Int32 → St → Option (Int64 × St)
  | 0, _, _, _ => none
  | f + 1, x1, x3, S => bd_X12_digest_67 fu E a0 (lp_X12_digest_67 fu E a0 f) x1 x3 S
set_option maxRecDepth 100000 in
theorem kl_X12_digest_67 {X : Cx} {E : Ev} {t : (Int64 × St)} {a0 : Nat} (hQ : EndR mX12_digest X (PoL E t)) (hE : WE E) (fu : Nat) (ha0 : E.1 a0 = some (0, 10, 0)) : ∀ (f : Nat) (x1 : Int64) (x3 : Int32) (S : St), K mX12_digest X E 67 [(0, .ref a0), (1, .long x1), (3, .int x3)] [] S 0 0 (lp_X12_digest_67 fu E a0 f x1 x3 S) t := by
  intro f
  induction f with
  | zero => intro x1 x3 S; exact K_none
  | succ f hrc67 =>
    intro x1 x3 S
    show K _ _ _ _ _ _ _ _ _ (bd_X12_digest_67 fu E a0 (lp_X12_digest_67 fu E a0 f) x1 x3 S) t
    unfold bd_X12_digest_67
    refine K_iload_n dX12_digest_67 rfl rfl ?_
    refine K_aload_n dX12_digest_68 rfl rfl ?_
    refine K_getI dX12_digest_69 f_X12_165_10 ha0 rfl ?_
    refine K_icmp_ge (tgt := 241) dX12_digest_72 (by decide) (fun c27 => ?_) (fun c27 => ?_)
    · refine K_lload_n dX12_digest_241 rfl rfl ?_
      exact K_lret dX12_digest_242 hQ rfl (Nat.le_of_ble_eq_true rfl) (Nat.le_of_ble_eq_true rfl)
    · refine K_lload_n dX12_digest_75 rfl rfl ?_
      refine K_ldc2 (v := 31) dX12_digest_76 c2_X12_367 ?_
      refine K_lmul dX12_digest_79 ?_
      refine K_aload_n dX12_digest_80 rfl rfl ?_
      refine K_getC hE dX12_digest_81 f_X12_63_10 ha0 rfl rfl (fun h4 => ?_)
      refine K_iload_n dX12_digest_84 rfl rfl ?_
      refine K_chk (fun h5 => ?_)
      refine K_zald dX12_digest_85 h4 h5 ?_
      refine K_if_eq (tgt := 93) dX12_digest_86 (by decide) (fun c26 => ?_) (fun c26 => ?_)
      · refine K_lconst (v := 0) dX12_digest_93 rfl ?_
        refine K.keep [0, 3] ?_
        exact kj_X12_digest_94 hQ hE fu ha0 hrc67 x3 (x1 * 31) 0 S
      · refine K_lconst (v := 1) dX12_digest_89 rfl ?_
        refine K_goto (tgt := 94) dX12_digest_90 (by decide) ?_
        refine K.keep [0, 3] ?_
        exact kj_X12_digest_94 hQ hE fu ha0 hrc67 x3 (x1 * 31) 1 S
def sp_X12_digest (fu : Nat) (E : Ev) (S : St) (a0 : Nat) : Option (Int64 × St) :=
  bnd (sF S a0 0 0) fun S1 =>
  (sp_X12_declaredCount fu E S1 a0).bind fun u2 =>
  bnd (((((((((((1147 + ((S1.1 a0 1).toInt64)) * 31) + ((S1.1 a0 4).toInt64)) * 31) + ((S1.1 a0 7).toInt64)) * 31) + ((S1.1 a0 19).toInt64)) * 31) + ((S1.1 a0 22).toInt64)) * 31) + u2.1.toInt64) fun v3 =>
  lp_X12_digest_67 fu E a0 fu v3 0 u2.2
set_option maxRecDepth 100000 in
theorem k_X12_digest {l : Launch} (fu : Nat) {E : Ev} (hE : WE E) {a0 : Nat} (ha0 : E.1 a0 = some (0, 10, 0)) {S : St} {t : (Int64 × St)} (h : sp_X12_digest fu E S a0 = some t) : Cn l mX12_digest [.ref a0] (hp E S) (PoL E t) := by
  refine Cn.of (by decide) rfl (Nat.le_of_ble_eq_true rfl) (fun X _ _ hQ => ?_)
  refine (?_ : K mX12_digest X E 0 [(0, .ref a0)] [] S 0 0 (sp_X12_digest fu E S a0) t) h
  unfold sp_X12_digest
  refine K_aload_n dX12_digest_0 rfl rfl ?_
  refine K_iconst (v := 0) dX12_digest_1 (by decide) ?_
  refine K_putI dX12_digest_2 p_X12_90_10 ha0 rfl ?_
  refine K_nmS (fun S1 => ?_)
  refine K_ldc2 (v := 1147) dX12_digest_5 c2_X12_365 ?_
  refine K_aload_n dX12_digest_8 rfl rfl ?_
  refine K_getI dX12_digest_9 f_X12_9_10 ha0 rfl ?_
  refine K_i2l dX12_digest_12 ?_
  refine K_ladd dX12_digest_13 ?_
  refine K_ldc2 (v := 31) dX12_digest_14 c2_X12_367 ?_
  refine K_lmul dX12_digest_17 ?_
  refine K_aload_n dX12_digest_18 rfl rfl ?_
  refine K_getI dX12_digest_19 f_X12_136_10 ha0 rfl ?_
  refine K_i2l dX12_digest_22 ?_
  refine K_ladd dX12_digest_23 ?_
  refine K_ldc2 (v := 31) dX12_digest_24 c2_X12_367 ?_
  refine K_lmul dX12_digest_27 ?_
  refine K_aload_n dX12_digest_28 rfl rfl ?_
  refine K_getI dX12_digest_29 f_X12_149_10 ha0 rfl ?_
  refine K_i2l dX12_digest_32 ?_
  refine K_ladd dX12_digest_33 ?_
  refine K_ldc2 (v := 31) dX12_digest_34 c2_X12_367 ?_
  refine K_lmul dX12_digest_37 ?_
  refine K_aload_n dX12_digest_38 rfl rfl ?_
  refine K_getI dX12_digest_39 f_X12_165_10 ha0 rfl ?_
  refine K_i2l dX12_digest_42 ?_
  refine K_ladd dX12_digest_43 ?_
  refine K_ldc2 (v := 31) dX12_digest_44 c2_X12_367 ?_
  refine K_lmul dX12_digest_47 ?_
  refine K_aload_n dX12_digest_48 rfl rfl ?_
  refine K_getI dX12_digest_49 f_X12_168_10 ha0 rfl ?_
  refine K_i2l dX12_digest_52 ?_
  refine K_ladd dX12_digest_53 ?_
  refine K_ldc2 (v := 31) dX12_digest_54 c2_X12_367 ?_
  refine K_lmul dX12_digest_57 ?_
  refine K_aload_n dX12_digest_58 rfl rfl ?_
  refine K_bind (fun u2 hu2 => ?_)
  refine K_callVI (As := []) (k_X12_declaredCount fu hE ha0 hu2) dX12_digest_59 v_X12_189 ha0 rfl rfl rfl rfl (Nat.le_of_ble_eq_true rfl) ⟨Nat.le_of_ble_eq_true rfl, Nat.le_of_ble_eq_true rfl, Nat.le_of_ble_eq_true rfl, Nat.le_of_ble_eq_true rfl⟩ ?_
  refine K_i2l dX12_digest_62 ?_
  refine K_ladd dX12_digest_63 ?_
  refine K_nmL (fun v3 => ?_)
  refine K_lstore_n (ls' := [(1, _), (0, _)]) dX12_digest_64 rfl (by decide) rfl ?_
  refine K_iconst (v := 0) dX12_digest_65 (by decide) ?_
  refine K_istore_n (ls' := [(1, _), (0, _), (3, _)]) dX12_digest_66 rfl (by decide) rfl ?_
  refine K.keep [0, 1, 3] ?_
  exact kl_X12_digest_67 hQ hE fu ha0 fu v3 0 u2.2
