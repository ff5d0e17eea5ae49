def sp_X1_start (fu : Nat) (E : Ev) (S : St) (a0 : Nat) (x1 : Int32) (x2 : Int32) (x3 : Int32) : Option St :=
  bnd (sF S a0 0 1) fun S1 =>
  bnd (sF S1 a0 1 x1) fun S2 =>
  bnd (sF S2 a0 2 x2) fun S3 =>
  bnd (sF S3 a0 3 x3) fun S4 =>
  bnd (sF S4 a0 6 0) fun S5 =>
  bnd (sF S5 a0 11 0) fun S6 =>
  some S6
set_option maxRecDepth 100000 in
theorem k_X1_start {l : Launch} (fu : Nat) {E : Ev} (hE : WE E) {a0 : Nat} (ha0 : E.1 a0 = some (0, 0, 0)) {x1 : Int32} {x2 : Int32} {x3 : Int32} {S : St} {t : St} (h : sp_X1_start fu E S a0 x1 x2 x3 = some t) : Cn l mX1_start [.ref a0, .int x1, .int x2, .int x3] (hp E S) (PoV E t) := by
  refine Cn.of (by decide) rfl (Nat.le_of_ble_eq_true rfl) (fun X _ _ hQ => ?_)
  refine (?_ : K mX1_start X E 0 [(0, .ref a0), (1, .int x1), (2, .int x2), (3, .int x3)] [] S 0 0 (sp_X1_start fu E S a0 x1 x2 x3) t) h
  unfold sp_X1_start
  refine K_aload_n dX1_start_0 rfl rfl ?_
  refine K_iconst (v := 1) dX1_start_1 (by decide) ?_
  refine K_putZ dX1_start_2 p_X1_30_0 ha0 rfl rfl ?_
  refine K_nmS (fun S1 => ?_)
  refine K_aload_n dX1_start_5 rfl rfl ?_
  refine K_iload_n dX1_start_6 rfl rfl ?_
  refine K_putI dX1_start_7 p_X1_34_0 ha0 rfl ?_
  refine K_nmS (fun S2 => ?_)
  refine K_aload_n dX1_start_10 rfl rfl ?_
  refine K_iload_n dX1_start_11 rfl rfl ?_
  refine K_putI dX1_start_12 p_X1_38_0 ha0 rfl ?_
  refine K_nmS (fun S3 => ?_)
  refine K_aload_n dX1_start_15 rfl rfl ?_
  refine K_iload_n dX1_start_16 rfl rfl ?_
  refine K_putI dX1_start_17 p_X1_41_0 ha0 rfl ?_
  refine K_nmS (fun S4 => ?_)
  refine K_aload_n dX1_start_20 rfl rfl ?_
  refine K_iconst (v := 0) dX1_start_21 (by decide) ?_
  refine K_putI dX1_start_22 p_X1_44_0 ha0 rfl ?_
  refine K_nmS (fun S5 => ?_)
  refine K_aload_n dX1_start_25 rfl rfl ?_
  refine K_iconst (v := 0) dX1_start_26 (by decide) ?_
  refine K_putI dX1_start_27 p_X1_47_0 ha0 rfl ?_
  refine K_nmS (fun S6 => ?_)
  exact K_vret dX1_start_30 hQ rfl (Nat.le_of_ble_eq_true rfl) (Nat.le_of_ble_eq_true rfl)
def sp_X1_addInstruction (fu : Nat) (E : Ev) (S : St) (a0 : Nat) (x1 : Int32) (x2 : Int32) : Option (Int32 × St) :=
  if inb (S.1 a0 6) 100 = true then (
    bnd (sG S (E.2 a0 4) ((S.1 a0 6).toNatClampNeg) x1) fun S3 =>
    if inb (S3.1 a0 6) 100 = true then (
      bnd (sG S3 (E.2 a0 5) ((S3.1 a0 6).toNatClampNeg) x2) fun S6 =>
      bnd (sF S6 a0 6 ((S6.1 a0 6) + 1)) fun S7 =>
      some ((S7.1 a0 6) - 1, S7)
    ) else none
  ) else none
set_option maxRecDepth 100000 in
theorem k_X1_addInstruction {l : Launch} (fu : Nat) {E : Ev} (hE : WE E) {a0 : Nat} (ha0 : E.1 a0 = some (0, 0, 0)) {x1 : Int32} {x2 : Int32} {S : St} {t : (Int32 × St)} (h : sp_X1_addInstruction fu E S a0 x1 x2 = some t) : Cn l mX1_addInstruction [.ref a0, .int x1, .int x2] (hp E S) (PoI E t) := by
  refine Cn.of (by decide) rfl (Nat.le_of_ble_eq_true rfl) (fun X _ _ hQ => ?_)
  refine (?_ : K mX1_addInstruction X E 0 [(0, .ref a0), (1, .int x1), (2, .int x2)] [] S 0 0 (sp_X1_addInstruction fu E S a0 x1 x2) t) h
  unfold sp_X1_addInstruction
  refine K_aload_n dX1_addInstruction_0 rfl rfl ?_
  refine K_getC hE dX1_addInstruction_1 f_X1_9_0 ha0 rfl rfl (fun h1 => ?_)
  refine K_aload_n dX1_addInstruction_4 rfl rfl ?_
  refine K_getI dX1_addInstruction_5 f_X1_44_0 ha0 rfl ?_
  refine K_iload_n dX1_addInstruction_8 rfl rfl ?_
  refine K_chk (fun h2 => ?_)
  refine K_iast dX1_addInstruction_9 h1 h2 ?_
  refine K_nmS (fun S3 => ?_)
  refine K_aload_n dX1_addInstruction_10 rfl rfl ?_
  refine K_getC hE dX1_addInstruction_11 f_X1_15_0 ha0 rfl rfl (fun h4 => ?_)
  refine K_aload_n dX1_addInstruction_14 rfl rfl ?_
  refine K_getI dX1_addInstruction_15 f_X1_44_0 ha0 rfl ?_
  refine K_iload_n dX1_addInstruction_18 rfl rfl ?_
  refine K_chk (fun h5 => ?_)
  refine K_iast dX1_addInstruction_19 h4 h5 ?_
  refine K_nmS (fun S6 => ?_)
  refine K_aload_n dX1_addInstruction_20 rfl rfl ?_
  refine K_dup dX1_addInstruction_21 rfl ?_
  refine K_getI dX1_addInstruction_22 f_X1_44_0 ha0 rfl ?_
  refine K_iconst (v := 1) dX1_addInstruction_25 (by decide) ?_
  refine K_iadd dX1_addInstruction_26 ?_
  refine K_putI dX1_addInstruction_27 p_X1_44_0 ha0 rfl ?_
  refine K_nmS (fun S7 => ?_)
  refine K_aload_n dX1_addInstruction_30 rfl rfl ?_
  refine K_getI dX1_addInstruction_31 f_X1_44_0 ha0 rfl ?_
  refine K_iconst (v := 1) dX1_addInstruction_34 (by decide) ?_
  refine K_isub dX1_addInstruction_35 ?_
  exact K_iret dX1_addInstruction_36 hQ rfl (Nat.le_of_ble_eq_true rfl) (Nat.le_of_ble_eq_true rfl)
def sp_X1_addProtection (fu : Nat) (E : Ev) (S : St) (a0 : Nat) (x1 : Int32) (x2 : Int32) (x3 : Int32) (x4 : Int32) : Option (Int32 × St) :=
  if inb (S.1 a0 11) 10 = true then (
    bnd (sG S (E.2 a0 7) ((S.1 a0 11).toNatClampNeg) x1) fun S3 =>
    if inb (S3.1 a0 11) 10 = true then (
      bnd (sG S3 (E.2 a0 8) ((S3.1 a0 11).toNatClampNeg) x2) fun S6 =>
      if inb (S6.1 a0 11) 10 = true then (
        bnd (sG S6 (E.2 a0 9) ((S6.1 a0 11).toNatClampNeg) x3) fun S9 =>
        if inb (S9.1 a0 11) 10 = true then (
          bnd (sG S9 (E.2 a0 10) ((S9.1 a0 11).toNatClampNeg) x4) fun S12 =>
          bnd (sF S12 a0 11 ((S12.1 a0 11) + 1)) fun S13 =>
          some ((S13.1 a0 11) - 1, S13)
        ) else none
      ) else none
    ) else none
  ) else none
set_option maxRecDepth 100000 in
theorem k_X1_addProtection {l : Launch} (fu : Nat) {E : Ev} (hE : WE E) {a0 : Nat} (ha0 : E.1 a0 = some (0, 0, 0)) {x1 : Int32} {x2 : Int32} {x3 : Int32} {x4 : Int32} {S : St} {t : (Int32 × St)} (h : sp_X1_addProtection fu E S a0 x1 x2 x3 x4 = some t) : Cn l mX1_addProtection [.ref a0, .int x1, .int x2, .int x3, .int x4] (hp E S) (PoI E t) := by
  refine Cn.of (by decide) rfl (Nat.le_of_ble_eq_true rfl) (fun X _ _ hQ => ?_)
  refine (?_ : K mX1_addProtection X E 0 [(0, .ref a0), (1, .int x1), (2, .int x2), (3, .int x3), (4, .int x4)] [] S 0 0 (sp_X1_addProtection fu E S a0 x1 x2 x3 x4) t) h
  unfold sp_X1_addProtection
  refine K_aload_n dX1_addProtection_0 rfl rfl ?_
  refine K_getC hE dX1_addProtection_1 f_X1_18_0 ha0 rfl rfl (fun h1 => ?_)
  refine K_aload_n dX1_addProtection_4 rfl rfl ?_
  refine K_getI dX1_addProtection_5 f_X1_47_0 ha0 rfl ?_
  refine K_iload_n dX1_addProtection_8 rfl rfl ?_
  refine K_chk (fun h2 => ?_)
  refine K_iast dX1_addProtection_9 h1 h2 ?_
  refine K_nmS (fun S3 => ?_)
  refine K_aload_n dX1_addProtection_10 rfl rfl ?_
  refine K_getC hE dX1_addProtection_11 f_X1_21_0 ha0 rfl rfl (fun h4 => ?_)
  refine K_aload_n dX1_addProtection_14 rfl rfl ?_
  refine K_getI dX1_addProtection_15 f_X1_47_0 ha0 rfl ?_
  refine K_iload_n dX1_addProtection_18 rfl rfl ?_
  refine K_chk (fun h5 => ?_)
  refine K_iast dX1_addProtection_19 h4 h5 ?_
  refine K_nmS (fun S6 => ?_)
  refine K_aload_n dX1_addProtection_20 rfl rfl ?_
  refine K_getC hE dX1_addProtection_21 f_X1_24_0 ha0 rfl rfl (fun h7 => ?_)
  refine K_aload_n dX1_addProtection_24 rfl rfl ?_
  refine K_getI dX1_addProtection_25 f_X1_47_0 ha0 rfl ?_
  refine K_iload_n dX1_addProtection_28 rfl rfl ?_
  refine K_chk (fun h8 => ?_)
  refine K_iast dX1_addProtection_29 h7 h8 ?_
  refine K_nmS (fun S9 => ?_)
  refine K_aload_n dX1_addProtection_30 rfl rfl ?_
  refine K_getC hE dX1_addProtection_31 f_X1_27_0 ha0 rfl rfl (fun h10 => ?_)
  refine K_aload_n dX1_addProtection_34 rfl rfl ?_
  refine K_getI dX1_addProtection_35 f_X1_47_0 ha0 rfl ?_
  refine K_iload dX1_addProtection_38 rfl ?_
  refine K_chk (fun h11 => ?_)
  refine K_iast dX1_addProtection_40 h10 h11 ?_
  refine K_nmS (fun S12 => ?_)
  refine K_aload_n dX1_addProtection_41 rfl rfl ?_
  refine K_dup dX1_addProtection_42 rfl ?_
  refine K_getI dX1_addProtection_43 f_X1_47_0 ha0 rfl ?_
  refine K_iconst (v := 1) dX1_addProtection_46 (by decide) ?_
  refine K_iadd dX1_addProtection_47 ?_
  refine K_putI dX1_addProtection_48 p_X1_47_0 ha0 rfl ?_
  refine K_nmS (fun S13 => ?_)
  refine K_aload_n dX1_addProtection_51 rfl rfl ?_
  refine K_getI dX1_addProtection_52 f_X1_47_0 ha0 rfl ?_
  refine K_iconst (v := 1) dX1_addProtection_55 (by decide) ?_
  refine K_isub dX1_addProtection_56 ?_
  exact K_iret dX1_addProtection_57 hQ rfl (Nat.le_of_ble_eq_true rfl) (Nat.le_of_ble_eq_true rfl)
def sp_X1_isIndex (fu : Nat) (E : Ev) (S : St) (a0 : Nat) (x1 : Int32) : Option (Int32 × St) :=
  if x1 < 0 then (
    some (0, S)
  ) else (
    if (S.1 a0 6) ≤ x1 then (
      some (0, S)
    ) else (
      some (1, S)
    )
  )
set_option maxRecDepth 100000 in
theorem k_X1_isIndex {l : Launch} (fu : Nat) {E : Ev} (hE : WE E) {a0 : Nat} (ha0 : E.1 a0 = some (0, 0, 0)) {x1 : Int32} {S : St} {t : (Int32 × St)} (h : sp_X1_isIndex fu E S a0 x1 = some t) : Cn l mX1_isIndex [.ref a0, .int x1] (hp E S) (PoI E t) := by
  refine Cn.of (by decide) rfl (Nat.le_of_ble_eq_true rfl) (fun X _ _ hQ => ?_)
  refine (?_ : K mX1_isIndex X E 0 [(0, .ref a0), (1, .int x1)] [] S 0 0 (sp_X1_isIndex fu E S a0 x1) t) h
  unfold sp_X1_isIndex
  refine K_iload_n dX1_isIndex_0 rfl rfl ?_
  refine K_if_lt (tgt := 16) dX1_isIndex_1 (by decide) (fun c2 => ?_) (fun c2 => ?_)
  · refine K_iconst (v := 0) dX1_isIndex_16 (by decide) ?_
    exact K_zret dX1_isIndex_17 hQ rfl rfl (Nat.le_of_ble_eq_true rfl) (Nat.le_of_ble_eq_true rfl)
  · refine K_iload_n dX1_isIndex_4 rfl rfl ?_
    refine K_aload_n dX1_isIndex_5 rfl rfl ?_
    refine K_getI dX1_isIndex_6 f_X1_44_0 ha0 rfl ?_
    refine K_icmp_ge (tgt := 16) dX1_isIndex_9 (by decide) (fun c1 => ?_) (fun c1 => ?_)
    · refine K_iconst (v := 0) dX1_isIndex_16 (by decide) ?_
      exact K_zret dX1_isIndex_17 hQ rfl rfl (Nat.le_of_ble_eq_true rfl) (Nat.le_of_ble_eq_true rfl)
    · refine K_iconst (v := 1) dX1_isIndex_12 (by decide) ?_
      refine K_goto (tgt := 17) dX1_isIndex_13 (by decide) ?_
      exact K_zret dX1_isIndex_17 hQ rfl rfl (Nat.le_of_ble_eq_true rfl) (Nat.le_of_ble_eq_true rfl)
def sp_X1_protects (fu : Nat) (E : Ev) (S : St) (a0 : Nat) (x1 : Int32) (x2 : Int32) : Option (Int32 × St) :=
  if inb x1 10 = true then
    (
    if x2 < (S.2.1 (E.2 a0 7) x1.toNatClampNeg) then (
      some (0, S)
    ) else (
      if inb x1 10 = true then
        (
        if (S.2.1 (E.2 a0 8) x1.toNatClampNeg) ≤ x2 then (
          some (0, S)
        ) else (
          some (1, S)
        )
        )
      else none
    )
    )
  else none
set_option maxRecDepth 100000 in
theorem k_X1_protects {l : Launch} (fu : Nat) {E : Ev} (hE : WE E) {a0 : Nat} (ha0 : E.1 a0 = some (0, 0, 0)) {x1 : Int32} {x2 : Int32} {S : St} {t : (Int32 × St)} (h : sp_X1_protects fu E S a0 x1 x2 = some t) : Cn l mX1_protects [.ref a0, .int x1, .int x2] (hp E S) (PoI E t) := by
  refine Cn.of (by decide) rfl (Nat.le_of_ble_eq_true rfl) (fun X _ _ hQ => ?_)
  refine (?_ : K mX1_protects X E 0 [(0, .ref a0), (1, .int x1), (2, .int x2)] [] S 0 0 (sp_X1_protects fu E S a0 x1 x2) t) h
  unfold sp_X1_protects
  refine K_aload_n dX1_protects_0 rfl rfl ?_
  refine K_getC hE dX1_protects_1 f_X1_18_0 ha0 rfl rfl (fun h1 => ?_)
  refine K_iload_n dX1_protects_4 rfl rfl ?_
  refine K_chk (fun h2 => ?_)
  refine K_iald dX1_protects_5 h1 h2 ?_
  refine K_iload_n dX1_protects_6 rfl rfl ?_
  refine K_icmp_gt (tgt := 24) dX1_protects_7 (by decide) (fun c6 => ?_) (fun c6 => ?_)
  · refine K_iconst (v := 0) dX1_protects_24 (by decide) ?_
    exact K_zret dX1_protects_25 hQ rfl rfl (Nat.le_of_ble_eq_true rfl) (Nat.le_of_ble_eq_true rfl)
  · refine K_iload_n dX1_protects_10 rfl rfl ?_
    refine K_aload_n dX1_protects_11 rfl rfl ?_
    refine K_getC hE dX1_protects_12 f_X1_21_0 ha0 rfl rfl (fun h3 => ?_)
    refine K_iload_n dX1_protects_15 rfl rfl ?_
    refine K_chk (fun h4 => ?_)
    refine K_iald dX1_protects_16 h3 h4 ?_
    refine K_icmp_ge (tgt := 24) dX1_protects_17 (by decide) (fun c5 => ?_) (fun c5 => ?_)
    · refine K_iconst (v := 0) dX1_protects_24 (by decide) ?_
      exact K_zret dX1_protects_25 hQ rfl rfl (Nat.le_of_ble_eq_true rfl) (Nat.le_of_ble_eq_true rfl)
    · refine K_iconst (v := 1) dX1_protects_20 (by decide) ?_
      refine K_goto (tgt := 25) dX1_protects_21 (by decide) ?_
      exact K_zret dX1_protects_25 hQ rfl rfl (Nat.le_of_ble_eq_true rfl) (Nat.le_of_ble_eq_true rfl)
def sp_X1_creates (fu : Nat) (E : Ev) (S : St) (a0 : Nat) (x1 : Int32) (x2 : Int32) : Option (Int32 × St) :=
  (sp_X1_isIndex fu E S a0 x1).bind fun u1 =>
  if u1.1 = 0 then (
    some (0, u1.2)
  ) else (
    if inb x1 100 = true then
      (
      if (u1.2.2.1 (E.2 a0 4) x1.toNatClampNeg) = 34 then (
        if inb x1 100 = true then
          (
          if (u1.2.2.1 (E.2 a0 5) x1.toNatClampNeg) = x2 then (
            some (1, u1.2)
          ) else (
            some (0, u1.2)
          )
          )
        else none
      ) else (
        some (0, u1.2)
      )
      )
    else none
  )
set_option maxRecDepth 100000 in
theorem k_X1_creates {l : Launch} (fu : Nat) {E : Ev} (hE : WE E) {a0 : Nat} (ha0 : E.1 a0 = some (0, 0, 0)) {x1 : Int32} {x2 : Int32} {S : St} {t : (Int32 × St)} (h : sp_X1_creates fu E S a0 x1 x2 = some t) : Cn l mX1_creates [.ref a0, .int x1, .int x2] (hp E S) (PoI E t) := by
  refine Cn.of (by decide) rfl (Nat.le_of_ble_eq_true rfl) (fun X _ _ hQ => ?_)
  refine (?_ : K mX1_creates X E 0 [(0, .ref a0), (1, .int x1), (2, .int x2)] [] S 0 0 (sp_X1_creates fu E S a0 x1 x2) t) h
  unfold sp_X1_creates
  refine K_aload_n dX1_creates_0 rfl rfl ?_
  refine K_iload_n dX1_creates_1 rfl rfl ?_
  refine K_bind (fun u1 hu1 => ?_)
  refine K_callVI (As := [.int x1]) (k_X1_isIndex fu hE ha0 hu1) dX1_creates_2 v_X1_50 ha0 rfl rfl rfl rfl (Nat.le_of_ble_eq_true rfl) ⟨Nat.le_of_ble_eq_true rfl, Nat.le_of_ble_eq_true rfl, Nat.le_of_ble_eq_true rfl, Nat.le_of_ble_eq_true rfl⟩ ?_
  refine K_if_eq (tgt := 33) dX1_creates_5 (by decide) (fun c8 => ?_) (fun c8 => ?_)
  · refine K_iconst (v := 0) dX1_creates_33 (by decide) ?_
    exact K_zret dX1_creates_34 hQ rfl rfl (Nat.le_of_ble_eq_true rfl) (Nat.le_of_ble_eq_true rfl)
  · refine K_aload_n dX1_creates_8 rfl rfl ?_
    refine K_getC hE dX1_creates_9 f_X1_9_0 ha0 rfl rfl (fun h2 => ?_)
    refine K_iload_n dX1_creates_12 rfl rfl ?_
    refine K_chk (fun h3 => ?_)
    refine K_iald dX1_creates_13 h2 h3 ?_
    refine K_bipush (v := 34) dX1_creates_14 (by decide) ?_
    refine K_icmp_ne (tgt := 33) dX1_creates_16 (by decide) (fun c7 => ?_) (fun c7 => ?_)
    · refine K_iconst (v := 0) dX1_creates_33 (by decide) ?_
      exact K_zret dX1_creates_34 hQ rfl rfl (Nat.le_of_ble_eq_true rfl) (Nat.le_of_ble_eq_true rfl)
    · refine K_aload_n dX1_creates_19 rfl rfl ?_
      refine K_getC hE dX1_creates_20 f_X1_15_0 ha0 rfl rfl (fun h4 => ?_)
      refine K_iload_n dX1_creates_23 rfl rfl ?_
      refine K_chk (fun h5 => ?_)
      refine K_iald dX1_creates_24 h4 h5 ?_
      refine K_iload_n dX1_creates_25 rfl rfl ?_
      refine K_icmp_ne (tgt := 33) dX1_creates_26 (by decide) (fun c6 => ?_) (fun c6 => ?_)
      · refine K_iconst (v := 0) dX1_creates_33 (by decide) ?_
        exact K_zret dX1_creates_34 hQ rfl rfl (Nat.le_of_ble_eq_true rfl) (Nat.le_of_ble_eq_true rfl)
      · refine K_iconst (v := 1) dX1_creates_29 (by decide) ?_
        refine K_goto (tgt := 34) dX1_creates_30 (by decide) ?_
        exact K_zret dX1_creates_34 hQ rfl rfl (Nat.le_of_ble_eq_true rfl) (Nat.le_of_ble_eq_true rfl)
def jb_X2_isHandlerAllowed_150 (fu : Nat) (E : Ev) (a0 : Nat) (rc76 : Int32 → Int32 → Int32 → Int32 → St → Option (Int32 × St)) (x1 : Int32) (x2 : Int32) (x3 : Int32) (x5 : Int32) (x6 : Int32) (y0 : Int32) (S : St) : Option (Int32 × St) :=
  if x6 = 0 then (
    if y0 = 0 then (
      some (0, S)
    ) else (
      rc76 x1 x2 x3 (x5 + 1) S
    )
  ) else (
    rc76 x1 x2 x3 (x5 + 1) S
  )
set_option maxRecDepth 100000 in
theorem kj_X2_isHandlerAllowed_150 {X : Cx} {E : Ev} {t : (Int32 × St)} {a0 : Nat} {rc76 : Int32 → Int32 → Int32 → Int32 → St → Option (Int32 × St)} (hQ : EndR mX2_isHandlerAllowed X (PoI E t)) (hE : WE E) (fu : Nat) (ha0 : E.1 a0 = some (0, 1, 0)) (hrc76 : ∀ (x1 : Int32) (x2 : Int32) (x3 : Int32) (x5 : Int32) (S : St), K mX2_isHandlerAllowed X E 76 [(0, .ref a0), (1, .int x1), (2, .int x2), (3, .int x3), (5, .int x5)] [] S 0 0 (rc76 x1 x2 x3 x5 S) t) (x1 : Int32) (x2 : Int32) (x3 : Int32) (x5 : Int32) (x6 : Int32) (y0 : Int32) (S : St) : K mX2_isHandlerAllowed X E 150 [(0, .ref a0), (1, .int x1), (2, .int x2), (3, .int x3), (5, .int x5), (6, .int x6)] [.int y0] S 0 0 (jb_X2_isHandlerAllowed_150 fu E a0 rc76 x1 x2 x3 x5 x6 y0 S) t := by
  unfold jb_X2_isHandlerAllowed_150
  refine K_istore (ls' := [(0, _), (1, _), (2, _), (3, _), (5, _), (6, _), (7, _)]) dX2_isHandlerAllowed_150 (by decide) rfl ?_
  refine K_iload dX2_isHandlerAllowed_152 rfl ?_
  refine K_if_ne (tgt := 164) dX2_isHandlerAllowed_154 (by decide) (fun c21 => ?_) (fun c21 => ?_)
  · refine K_iinc (v := (x5 + 1)) (ls' := [(0, _), (1, _), (2, _), (3, _), (5, _), (6, _), (7, _)]) dX2_isHandlerAllowed_164 rfl rfl (by decide) rfl ?_
    refine K_goto (tgt := 76) dX2_isHandlerAllowed_167 (by decide) ?_
    refine K.keep [0, 1, 2, 3, 5] ?_
    exact hrc76 x1 x2 x3 (x5 + 1) S
  · refine K_iload dX2_isHandlerAllowed_157 rfl ?_
    refine K_if_ne (tgt := 164) dX2_isHandlerAllowed_159 (by decide) (fun c20 => ?_) (fun c20 => ?_)
    · refine K_iinc (v := (x5 + 1)) (ls' := [(0, _), (1, _), (2, _), (3, _), (5, _), (6, _), (7, _)]) dX2_isHandlerAllowed_164 rfl rfl (by decide) rfl ?_
      refine K_goto (tgt := 76) dX2_isHandlerAllowed_167 (by decide) ?_
      refine K.keep [0, 1, 2, 3, 5] ?_
      exact hrc76 x1 x2 x3 (x5 + 1) S
    · refine K_iconst (v := 0) dX2_isHandlerAllowed_162 (by decide) ?_
      exact K_zret dX2_isHandlerAllowed_163 hQ rfl rfl (Nat.le_of_ble_eq_true rfl) (Nat.le_of_ble_eq_true rfl)
def jb_X2_isHandlerAllowed_115 (fu : Nat) (E : Ev) (a0 : Nat) (rc76 : Int32 → Int32 → Int32 → Int32 → St → Option (Int32 × St)) (x1 : Int32) (x2 : Int32) (x3 : Int32) (x5 : Int32) (y0 : Int32) (S : St) : Option (Int32 × St) :=
  if inb x5 10 = true then
    (
    if (S.2.1 (E.2 (E.2 a0 2) 7) x5.toNatClampNeg) < x2 then (
      jb_X2_isHandlerAllowed_150 fu E a0 rc76 x1 x2 x3 x5 y0 0 S
    ) else (
      if inb x5 10 = true then
        (
        if x3 < (S.2.1 (E.2 (E.2 a0 2) 8) x5.toNatClampNeg) then (
          jb_X2_isHandlerAllowed_150 fu E a0 rc76 x1 x2 x3 x5 y0 0 S
        ) else (
          jb_X2_isHandlerAllowed_150 fu E a0 rc76 x1 x2 x3 x5 y0 1 S
        )
        )
      else none
    )
    )
  else none
set_option maxRecDepth 100000 in
theorem kj_X2_isHandlerAllowed_115 {X : Cx} {E : Ev} {t : (Int32 × St)} {a0 : Nat} {rc76 : Int32 → Int32 → Int32 → Int32 → St → Option (Int32 × St)} (hQ : EndR mX2_isHandlerAllowed X (PoI E t)) (hE : WE E) (fu : Nat) (ha0 : E.1 a0 = some (0, 1, 0)) (hrc76 : ∀ (x1 : Int32) (x2 : Int32) (x3 : Int32) (x5 : Int32) (S : St), K mX2_isHandlerAllowed X E 76 [(0, .ref a0), (1, .int x1), (2, .int x2), (3, .int x3), (5, .int x5)] [] S 0 0 (rc76 x1 x2 x3 x5 S) t) (x1 : Int32) (x2 : Int32) (x3 : Int32) (x5 : Int32) (y0 : Int32) (S : St) : K mX2_isHandlerAllowed X E 115 [(0, .ref a0), (1, .int x1), (2, .int x2), (3, .int x3), (5, .int x5)] [.int y0] S 0 0 (jb_X2_isHandlerAllowed_115 fu E a0 rc76 x1 x2 x3 x5 y0 S) t := by
  unfold jb_X2_isHandlerAllowed_115
  refine K_istore (ls' := [(0, _), (1, _), (2, _), (3, _), (5, _), (6, _)]) dX2_isHandlerAllowed_115 (by decide) rfl ?_
  refine K_iload_n dX2_isHandlerAllowed_117 rfl rfl ?_
  refine K_aload_n dX2_isHandlerAllowed_118 rfl rfl ?_
  refine K_getC hE dX2_isHandlerAllowed_119 f_X2_19_1 ha0 rfl rfl (fun h17 => ?_)
  refine K_getC hE dX2_isHandlerAllowed_122 f_X2_82_0 h17 rfl rfl (fun h18 => ?_)
  refine K_iload dX2_isHandlerAllowed_125 rfl ?_
  refine K_chk (fun h19 => ?_)
  refine K_iald dX2_isHandlerAllowed_127 h18 h19 ?_
  refine K_icmp_gt (tgt := 149) dX2_isHandlerAllowed_128 (by decide) (fun c26 => ?_) (fun c26 => ?_)
  · refine K_iconst (v := 0) dX2_isHandlerAllowed_149 (by decide) ?_
    refine K.keep [0, 1, 2, 3, 5, 6] ?_
    exact kj_X2_isHandlerAllowed_150 hQ hE fu ha0 hrc76 x1 x2 x3 x5 y0 0 S
  · refine K_aload_n dX2_isHandlerAllowed_131 rfl rfl ?_
    refine K_getC hE dX2_isHandlerAllowed_132 f_X2_19_1 ha0 rfl rfl (fun h22 => ?_)
    refine K_getC hE dX2_isHandlerAllowed_135 f_X2_85_0 h22 rfl rfl (fun h23 => ?_)
    refine K_iload dX2_isHandlerAllowed_138 rfl ?_
    refine K_chk (fun h24 => ?_)
    refine K_iald dX2_isHandlerAllowed_140 h23 h24 ?_
    refine K_iload_n dX2_isHandlerAllowed_141 rfl rfl ?_
    refine K_icmp_gt (tgt := 149) dX2_isHandlerAllowed_142 (by decide) (fun c25 => ?_) (fun c25 => ?_)
    · refine K_iconst (v := 0) dX2_isHandlerAllowed_149 (by decide) ?_
      refine K.keep [0, 1, 2, 3, 5, 6] ?_
      exact kj_X2_isHandlerAllowed_150 hQ hE fu ha0 hrc76 x1 x2 x3 x5 y0 0 S
    · refine K_iconst (v := 1) dX2_isHandlerAllowed_145 (by decide) ?_
      refine K_goto (tgt := 150) dX2_isHandlerAllowed_146 (by decide) ?_
      refine K.keep [0, 1, 2, 3, 5, 6] ?_
      exact kj_X2_isHandlerAllowed_150 hQ hE fu ha0 hrc76 x1 x2 x3 x5 y0 1 S
def bd_X2_isHandlerAllowed_76 (fu : Nat) (E : Ev) (a0 : Nat) (rc76 : Int32 → Int32 → Int32 → Int32 → St → Option (Int32 × St)) (x1 : Int32) (x2 : Int32) (x3 : Int32) (x5 : Int32) (S : St) : Option (Int32 × St) :=
  if x1 ≤ x5 then (
    some (1, S)
  ) else (
    if inb x5 10 = true then
      (
      if (S.2.1 (E.2 (E.2 a0 2) 8) x5.toNatClampNeg) ≤ x2 then (
        jb_X2_isHandlerAllowed_115 fu E a0 rc76 x1 x2 x3 x5 1 S
      ) else (
        if inb x5 10 = true then
          (
          if (S.2.1 (E.2 (E.2 a0 2) 7) x5.toNatClampNeg) < x3 then (
            jb_X2_isHandlerAllowed_115 fu E a0 rc76 x1 x2 x3 x5 0 S
          ) else (
            jb_X2_isHandlerAllowed_115 fu E a0 rc76 x1 x2 x3 x5 1 S
          )
          )
        else none
      )
      )
    else none
  )
def lp_X2_isHandlerAllowed_76 (fu : Nat) (E : Ev) (a0 : Nat) : Nat → Int32 → Int32 → Int32 → Int32 → St → Option (Int32 × St)
  | 0, _, _, _, _, _ => none
  | f + 1, x1, x2, x3, x5, S => bd_X2_isHandlerAllowed_76 fu E a0 (lp_X2_isHandlerAllowed_76 fu E a0 f) x1 x2 x3 x5 S
set_option maxRecDepth 100000 in
theorem kl_X2_isHandlerAllowed_76 {X : Cx} {E : Ev} {t : (Int32 × St)} {a0 : Nat} (hQ : EndR mX2_isHandlerAllowed X (PoI E t)) (hE : WE E) (fu : Nat) (ha0 : E.1 a0 = some (0, 1, 0)) : ∀ (f : Nat) (x1 : Int32) (x2 : Int32) (x3 : Int32) (x5 : Int32) (S : St), K mX2_isHandlerAllowed X E 76 [(0, .ref a0), (1, .int x1), (2, .int x2), (3, .int x3), (5, .int x5)] [] S 0 0 (lp_X2_isHandlerAllowed_76 fu E a0 f x1 x2 x3 x5 S) t := by
  intro f
  induction f with
  | zero => intro x1 x2 x3 x5 S; exact K_none
  | succ f hrc76 =>
    intro x1 x2 x3 x5 S
    show K _ _ _ _ _ _ _ _ _ (bd_X2_isHandlerAllowed_76 fu E a0 (lp_X2_isHandlerAllowed_76 fu E a0 f) x1 x2 x3 x5 S) t
    unfold bd_X2_isHandlerAllowed_76
    refine K_iload dX2_isHandlerAllowed_76 rfl ?_
    refine K_iload_n dX2_isHandlerAllowed_78 rfl rfl ?_
    refine K_icmp_ge (tgt := 170) dX2_isHandlerAllowed_79 (by decide) (fun c32 => ?_) (fun c32 => ?_)
    · refine K_iconst (v := 1) dX2_isHandlerAllowed_170 (by decide) ?_
      exact K_zret dX2_isHandlerAllowed_171 hQ rfl rfl (Nat.le_of_ble_eq_true rfl) (Nat.le_of_ble_eq_true rfl)
    · refine K_aload_n dX2_isHandlerAllowed_82 rfl rfl ?_
      refine K_getC hE dX2_isHandlerAllowed_83 f_X2_19_1 ha0 rfl rfl (fun h14 => ?_)
      refine K_getC hE dX2_isHandlerAllowed_86 f_X2_85_0 h14 rfl rfl (fun h15 => ?_)
      refine K_iload dX2_isHandlerAllowed_89 rfl ?_
      refine K_chk (fun h16 => ?_)
      refine K_iald dX2_isHandlerAllowed_91 h15 h16 ?_
      refine K_iload_n dX2_isHandlerAllowed_92 rfl rfl ?_
      refine K_icmp_le (tgt := 110) dX2_isHandlerAllowed_93 (by decide) (fun c31 => ?_) (fun c31 => ?_)
      · refine K_iconst (v := 1) dX2_isHandlerAllowed_110 (by decide) ?_
        refine K_goto (tgt := 115) dX2_isHandlerAllowed_111 (by decide) ?_
        refine K.keep [0, 1, 2, 3, 5] ?_
        exact kj_X2_isHandlerAllowed_115 hQ hE fu ha0 hrc76 x1 x2 x3 x5 1 S
      · refine K_iload_n dX2_isHandlerAllowed_96 rfl rfl ?_
        refine K_aload_n dX2_isHandlerAllowed_97 rfl rfl ?_
        refine K_getC hE dX2_isHandlerAllowed_98 f_X2_19_1 ha0 rfl rfl (fun h27 => ?_)
        refine K_getC hE dX2_isHandlerAllowed_101 f_X2_82_0 h27 rfl rfl (fun h28 => ?_)
        refine K_iload dX2_isHandlerAllowed_104 rfl ?_
        refine K_chk (fun h29 => ?_)
        refine K_iald dX2_isHandlerAllowed_106 h28 h29 ?_
        refine K_icmp_gt (tgt := 114) dX2_isHandlerAllowed_107 (by decide) (fun c30 => ?_) (fun c30 => ?_)
        · refine K_iconst (v := 0) dX2_isHandlerAllowed_114 (by decide) ?_
          refine K.keep [0, 1, 2, 3, 5] ?_
          exact kj_X2_isHandlerAllowed_115 hQ hE fu ha0 hrc76 x1 x2 x3 x5 0 S
        · refine K_iconst (v := 1) dX2_isHandlerAllowed_110 (by decide) ?_
          refine K_goto (tgt := 115) dX2_isHandlerAllowed_111 (by decide) ?_
          refine K.keep [0, 1, 2, 3, 5] ?_
          exact kj_X2_isHandlerAllowed_115 hQ hE fu ha0 hrc76 x1 x2 x3 x5 1 S
def jb_X2_isHandlerAllowed_45 (fu : Nat) (E : Ev) (a0 : Nat) (x1 : Int32) (x2 : Int32) (x3 : Int32) (y0 : Int32) (S : St) : Option (Int32 × St) :=
  if y0 = 0 then (
    some (0, S)
  ) else (
    if inb x1 10 = true then
      (
      (sp_X1_isIndex fu E S (E.2 a0 2) (S.2.1 (E.2 (E.2 a0 2) 9) x1.toNatClampNeg)).bind fun u13 =>
      if u13.1 = 0 then (
        some (0, u13.2)
      ) else (
        lp_X2_isHandlerAllowed_76 fu E a0 fu x1 x2 x3 0 u13.2
      )
      )
    else none
  )
set_option maxRecDepth 100000 in
theorem kj_X2_isHandlerAllowed_45 {X : Cx} {E : Ev} {t : (Int32 × St)} {a0 : Nat} (hQ : EndR mX2_isHandlerAllowed X (PoI E t)) (hE : WE E) (fu : Nat) (ha0 : E.1 a0 = some (0, 1, 0)) (x1 : Int32) (x2 : Int32) (x3 : Int32) (y0 : Int32) (S : St) : K mX2_isHandlerAllowed X E 45 [(0, .ref a0), (1, .int x1), (2, .int x2), (3, .int x3)] [.int y0] S 0 0 (jb_X2_isHandlerAllowed_45 fu E a0 x1 x2 x3 y0 S) t := by
  unfold jb_X2_isHandlerAllowed_45
  refine K_istore (ls' := [(0, _), (1, _), (2, _), (3, _), (4, _)]) dX2_isHandlerAllowed_45 (by decide) rfl ?_
  refine K_iload dX2_isHandlerAllowed_47 rfl ?_
  refine K_if_eq (tgt := 71) dX2_isHandlerAllowed_49 (by decide) (fun c34 => ?_) (fun c34 => ?_)
  · refine K_iconst (v := 0) dX2_isHandlerAllowed_71 (by decide) ?_
    exact K_zret dX2_isHandlerAllowed_72 hQ rfl rfl (Nat.le_of_ble_eq_true rfl) (Nat.le_of_ble_eq_true rfl)
  · refine K_aload_n dX2_isHandlerAllowed_52 rfl rfl ?_
    refine K_getC hE dX2_isHandlerAllowed_53 f_X2_19_1 ha0 rfl rfl (fun h9 => ?_)
    refine K_aload_n dX2_isHandlerAllowed_56 rfl rfl ?_
    refine K_getC hE dX2_isHandlerAllowed_57 f_X2_19_1 ha0 rfl rfl (fun h10 => ?_)
    refine K_getC hE dX2_isHandlerAllowed_60 f_X2_88_0 h10 rfl rfl (fun h11 => ?_)
    refine K_iload_n dX2_isHandlerAllowed_63 rfl rfl ?_
    refine K_chk (fun h12 => ?_)
    refine K_iald dX2_isHandlerAllowed_64 h11 h12 ?_
    refine K_bind (fun u13 hu13 => ?_)
    refine K_callVI (As := [.int (S.2.1 (E.2 (E.2 a0 2) 9) x1.toNatClampNeg)]) (k_X1_isIndex fu hE h9 hu13) dX2_isHandlerAllowed_65 v_X2_62 h9 rfl rfl rfl rfl (Nat.le_of_ble_eq_true rfl) ⟨Nat.le_of_ble_eq_true rfl, Nat.le_of_ble_eq_true rfl, Nat.le_of_ble_eq_true rfl, Nat.le_of_ble_eq_true rfl⟩ ?_
    refine K_if_ne (tgt := 73) dX2_isHandlerAllowed_68 (by decide) (fun c33 => ?_) (fun c33 => ?_)
    · refine K_iconst (v := 0) dX2_isHandlerAllowed_73 (by decide) ?_
      refine K_istore (ls' := [(0, _), (1, _), (2, _), (3, _), (4, _), (5, _)]) dX2_isHandlerAllowed_74 (by decide) rfl ?_
      refine K.keep [0, 1, 2, 3, 5] ?_
      exact kl_X2_isHandlerAllowed_76 hQ hE fu ha0 fu x1 x2 x3 0 u13.2
    · refine K_iconst (v := 0) dX2_isHandlerAllowed_71 (by decide) ?_
      exact K_zret dX2_isHandlerAllowed_72 hQ rfl rfl (Nat.le_of_ble_eq_true rfl) (Nat.le_of_ble_eq_true rfl)
def sp_X2_isHandlerAllowed (fu : Nat) (E : Ev) (S : St) (a0 : Nat) (x1 : Int32) : Option (Int32 × St) :=
  if inb x1 10 = true then
    (
    bnd (S.2.1 (E.2 (E.2 a0 2) 7) x1.toNatClampNeg) fun v4 =>
    if inb x1 10 = true then
      (
      bnd (S.2.1 (E.2 (E.2 a0 2) 8) x1.toNatClampNeg) fun v8 =>
      if v4 < 0 then (
        jb_X2_isHandlerAllowed_45 fu E a0 x1 v4 v8 0 S
      ) else (
        if v8 ≤ v4 then (
          jb_X2_isHandlerAllowed_45 fu E a0 x1 v4 v8 0 S
        ) else (
          if (S.1 (E.2 a0 2) 6) < v8 then (
            jb_X2_isHandlerAllowed_45 fu E a0 x1 v4 v8 0 S
          ) else (
            jb_X2_isHandlerAllowed_45 fu E a0 x1 v4 v8 1 S
          )
        )
      )
      )
    else none
    )
  else none
set_option maxRecDepth 100000 in
theorem k_X2_isHandlerAllowed {l : Launch} (fu : Nat) {E : Ev} (hE : WE E) {a0 : Nat} (ha0 : E.1 a0 = some (0, 1, 0)) {x1 : Int32} {S : St} {t : (Int32 × St)} (h : sp_X2_isHandlerAllowed fu E S a0 x1 = some t) : Cn l mX2_isHandlerAllowed [.ref a0, .int x1] (hp E S) (PoI E t) := by
  refine Cn.of (by decide) rfl (Nat.le_of_ble_eq_true rfl) (fun X _ _ hQ => ?_)
  refine (?_ : K mX2_isHandlerAllowed X E 0 [(0, .ref a0), (1, .int x1)] [] S 0 0 (sp_X2_isHandlerAllowed fu E S a0 x1) t) h
  unfold sp_X2_isHandlerAllowed
  refine K_aload_n dX2_isHandlerAllowed_0 rfl rfl ?_
  refine K_getC hE dX2_isHandlerAllowed_1 f_X2_19_1 ha0 rfl rfl (fun h1 => ?_)
  refine K_getC hE dX2_isHandlerAllowed_4 f_X2_82_0 h1 rfl rfl (fun h2 => ?_)
  refine K_iload_n dX2_isHandlerAllowed_7 rfl rfl ?_
  refine K_chk (fun h3 => ?_)
  refine K_iald dX2_isHandlerAllowed_8 h2 h3 ?_
  refine K_nmI (fun v4 => ?_)
  refine K_istore_n (ls' := [(0, _), (1, _), (2, _)]) dX2_isHandlerAllowed_9 rfl (by decide) rfl ?_
  refine K_aload_n dX2_isHandlerAllowed_10 rfl rfl ?_
  refine K_getC hE dX2_isHandlerAllowed_11 f_X2_19_1 ha0 rfl rfl (fun h5 => ?_)
  refine K_getC hE dX2_isHandlerAllowed_14 f_X2_85_0 h5 rfl rfl (fun h6 => ?_)
  refine K_iload_n dX2_isHandlerAllowed_17 rfl rfl ?_
  refine K_chk (fun h7 => ?_)
  refine K_iald dX2_isHandlerAllowed_18 h6 h7 ?_
  refine K_nmI (fun v8 => ?_)
  refine K_istore_n (ls' := [(0, _), (1, _), (2, _), (3, _)]) dX2_isHandlerAllowed_19 rfl (by decide) rfl ?_
  refine K_iload_n dX2_isHandlerAllowed_20 rfl rfl ?_
  refine K_if_lt (tgt := 44) dX2_isHandlerAllowed_21 (by decide) (fun c38 => ?_) (fun c38 => ?_)
  · refine K_iconst (v := 0) dX2_isHandlerAllowed_44 (by decide) ?_
    refine K.keep [0, 1, 2, 3] ?_
    exact kj_X2_isHandlerAllowed_45 hQ hE fu ha0 x1 v4 v8 0 S
  · refine K_iload_n dX2_isHandlerAllowed_24 rfl rfl ?_
    refine K_iload_n dX2_isHandlerAllowed_25 rfl rfl ?_
    refine K_icmp_ge (tgt := 44) dX2_isHandlerAllowed_26 (by decide) (fun c37 => ?_) (fun c37 => ?_)
    · refine K_iconst (v := 0) dX2_isHandlerAllowed_44 (by decide) ?_
      refine K.keep [0, 1, 2, 3] ?_
      exact kj_X2_isHandlerAllowed_45 hQ hE fu ha0 x1 v4 v8 0 S
    · refine K_iload_n dX2_isHandlerAllowed_29 rfl rfl ?_
      refine K_aload_n dX2_isHandlerAllowed_30 rfl rfl ?_
      refine K_getC hE dX2_isHandlerAllowed_31 f_X2_19_1 ha0 rfl rfl (fun h35 => ?_)
      refine K_getI dX2_isHandlerAllowed_34 f_X2_27_0 h35 rfl ?_
      refine K_icmp_gt (tgt := 44) dX2_isHandlerAllowed_37 (by decide) (fun c36 => ?_) (fun c36 => ?_)
      · refine K_iconst (v := 0) dX2_isHandlerAllowed_44 (by decide) ?_
        refine K.keep [0, 1, 2, 3] ?_
        exact kj_X2_isHandlerAllowed_45 hQ hE fu ha0 x1 v4 v8 0 S
      · refine K_iconst (v := 1) dX2_isHandlerAllowed_40 (by decide) ?_
        refine K_goto (tgt := 45) dX2_isHandlerAllowed_41 (by decide) ?_
        refine K.keep [0, 1, 2, 3] ?_
        exact kj_X2_isHandlerAllowed_45 hQ hE fu ha0 x1 v4 v8 1 S
def sp_X10_isClass (fu : Nat) (E : Ev) (S : St) (a0 : Nat) (x1 : Int32) : Option (Int32 × St) :=
  if x1 < 2 then (
    some (0, S)
  ) else (
    if (S.1 a0 2) ≤ x1 then (
      some (0, S)
    ) else (
      if inb x1 20 = true then
        (
        if (S.2.1 (E.2 a0 1) x1.toNatClampNeg) = 0 then (
          some (1, S)
        ) else (
          some (0, S)
        )
        )
      else none
    )
  )
set_option maxRecDepth 100000 in
theorem k_X10_isClass {l : Launch} (fu : Nat) {E : Ev} (hE : WE E) {a0 : Nat} (ha0 : E.1 a0 = some (0, 8, 0)) {x1 : Int32} {S : St} {t : (Int32 × St)} (h : sp_X10_isClass fu E S a0 x1 = some t) : Cn l mX10_isClass [.ref a0, .int x1] (hp E S) (PoI E t) := by
  refine Cn.of (by decide) rfl (Nat.le_of_ble_eq_true rfl) (fun X _ _ hQ => ?_)
  refine (?_ : K mX10_isClass X E 0 [(0, .ref a0), (1, .int x1)] [] S 0 0 (sp_X10_isClass fu E S a0 x1) t) h
  unfold sp_X10_isClass
  refine K_iload_n dX10_isClass_0 rfl rfl ?_
  refine K_iconst (v := 2) dX10_isClass_1 (by decide) ?_
  refine K_icmp_lt (tgt := 26) dX10_isClass_2 (by decide) (fun c5 => ?_) (fun c5 => ?_)
  · refine K_iconst (v := 0) dX10_isClass_26 (by decide) ?_
    exact K_zret dX10_isClass_27 hQ rfl rfl (Nat.le_of_ble_eq_true rfl) (Nat.le_of_ble_eq_true rfl)
  · refine K_iload_n dX10_isClass_5 rfl rfl ?_
    refine K_aload_n dX10_isClass_6 rfl rfl ?_
    refine K_getI dX10_isClass_7 f_X10_19_8 ha0 rfl ?_
    refine K_icmp_ge (tgt := 26) dX10_isClass_10 (by decide) (fun c4 => ?_) (fun c4 => ?_)
    · refine K_iconst (v := 0) dX10_isClass_26 (by decide) ?_
      exact K_zret dX10_isClass_27 hQ rfl rfl (Nat.le_of_ble_eq_true rfl) (Nat.le_of_ble_eq_true rfl)
    · refine K_aload_n dX10_isClass_13 rfl rfl ?_
      refine K_getC hE dX10_isClass_14 f_X10_15_8 ha0 rfl rfl (fun h1 => ?_)
      refine K_iload_n dX10_isClass_17 rfl rfl ?_
      refine K_chk (fun h2 => ?_)
      refine K_zald dX10_isClass_18 h1 h2 ?_
      refine K_if_ne (tgt := 26) dX10_isClass_19 (by decide) (fun c3 => ?_) (fun c3 => ?_)
      · refine K_iconst (v := 0) dX10_isClass_26 (by decide) ?_
        exact K_zret dX10_isClass_27 hQ rfl rfl (Nat.le_of_ble_eq_true rfl) (Nat.le_of_ble_eq_true rfl)
      · refine K_iconst (v := 1) dX10_isClass_22 (by decide) ?_
        refine K_goto (tgt := 27) dX10_isClass_23 (by decide) ?_
        exact K_zret dX10_isClass_27 hQ rfl rfl (Nat.le_of_ble_eq_true rfl) (Nat.le_of_ble_eq_true rfl)
def sp_X10_isType (fu : Nat) (E : Ev) (S : St) (a0 : Nat) (x1 : Int32) : Option (Int32 × St) :=
  if x1 < 0 then (
    some (0, S)
  ) else (
    if (S.1 a0 2) ≤ (x1 / 8) then (
      some (0, S)
    ) else (
      if 4 < (x1 - x1 / 8 * 8) then (
        some (0, S)
      ) else (
        some (1, S)
      )
    )
  )
set_option maxRecDepth 100000 in
theorem k_X10_isType {l : Launch} (fu : Nat) {E : Ev} (hE : WE E) {a0 : Nat} (ha0 : E.1 a0 = some (0, 8, 0)) {x1 : Int32} {S : St} {t : (Int32 × St)} (h : sp_X10_isType fu E S a0 x1 = some t) : Cn l mX10_isType [.ref a0, .int x1] (hp E S) (PoI E t) := by
  refine Cn.of (by decide) rfl (Nat.le_of_ble_eq_true rfl) (fun X _ _ hQ => ?_)
  refine (?_ : K mX10_isType X E 0 [(0, .ref a0), (1, .int x1)] [] S 0 0 (sp_X10_isType fu E S a0 x1) t) h
  unfold sp_X10_isType
  refine K_iload_n dX10_isType_0 rfl rfl ?_
  refine K_if_lt (tgt := 27) dX10_isType_1 (by decide) (fun c3 => ?_) (fun c3 => ?_)
  · refine K_iconst (v := 0) dX10_isType_27 (by decide) ?_
    exact K_zret dX10_isType_28 hQ rfl rfl (Nat.le_of_ble_eq_true rfl) (Nat.le_of_ble_eq_true rfl)
  · refine K_iload_n dX10_isType_4 rfl rfl ?_
    refine K_bipush (v := 8) dX10_isType_5 (by decide) ?_
    refine K_idiv dX10_isType_7 (by decide) ?_
    refine K_aload_n dX10_isType_8 rfl rfl ?_
    refine K_getI dX10_isType_9 f_X10_19_8 ha0 rfl ?_
    refine K_icmp_ge (tgt := 27) dX10_isType_12 (by decide) (fun c2 => ?_) (fun c2 => ?_)
    · refine K_iconst (v := 0) dX10_isType_27 (by decide) ?_
      exact K_zret dX10_isType_28 hQ rfl rfl (Nat.le_of_ble_eq_true rfl) (Nat.le_of_ble_eq_true rfl)
    · refine K_iload_n dX10_isType_15 rfl rfl ?_
      refine K_bipush (v := 8) dX10_isType_16 (by decide) ?_
      refine K_irem dX10_isType_18 (by decide) ?_
      refine K_iconst (v := 4) dX10_isType_19 (by decide) ?_
      refine K_icmp_gt (tgt := 27) dX10_isType_20 (by decide) (fun c1 => ?_) (fun c1 => ?_)
      · refine K_iconst (v := 0) dX10_isType_27 (by decide) ?_
        exact K_zret dX10_isType_28 hQ rfl rfl (Nat.le_of_ble_eq_true rfl) (Nat.le_of_ble_eq_true rfl)
      · refine K_iconst (v := 1) dX10_isType_23 (by decide) ?_
        refine K_goto (tgt := 28) dX10_isType_24 (by decide) ?_
        exact K_zret dX10_isType_28 hQ rfl rfl (Nat.le_of_ble_eq_true rfl) (Nat.le_of_ble_eq_true rfl)
def sp_X11_isReferenceType (fu : Nat) (E : Ev) (S : St) (x0 : Int32) : Option (Int32 × St) :=
  if x0 < 0 then (
    some (0, S)
  ) else (
    if x0 = 0 then (
      some (0, S)
    ) else (
      if x0 = 8 then (
        some (0, S)
      ) else (
        some (1, S)
      )
    )
  )
set_option maxRecDepth 100000 in
theorem k_X11_isReferenceType {l : Launch} (fu : Nat) {E : Ev} (hE : WE E) {x0 : Int32} {S : St} {t : (Int32 × St)} (h : sp_X11_isReferenceType fu E S x0 = some t) : Cn l mX11_isReferenceType [.int x0] (hp E S) (PoI E t) := by
  refine Cn.of (by decide) rfl (Nat.le_of_ble_eq_true rfl) (fun X _ _ hQ => ?_)
  refine (?_ : K mX11_isReferenceType X E 0 [(0, .int x0)] [] S 0 0 (sp_X11_isReferenceType fu E S x0) t) h
  unfold sp_X11_isReferenceType
  refine K_iload_n dX11_isReferenceType_0 rfl rfl ?_
  refine K_if_lt (tgt := 18) dX11_isReferenceType_1 (by decide) (fun c3 => ?_) (fun c3 => ?_)
  · refine K_iconst (v := 0) dX11_isReferenceType_18 (by decide) ?_
    exact K_zret dX11_isReferenceType_19 hQ rfl rfl (Nat.le_of_ble_eq_true rfl) (Nat.le_of_ble_eq_true rfl)
  · refine K_iload_n dX11_isReferenceType_4 rfl rfl ?_
    refine K_if_eq (tgt := 18) dX11_isReferenceType_5 (by decide) (fun c2 => ?_) (fun c2 => ?_)
    · refine K_iconst (v := 0) dX11_isReferenceType_18 (by decide) ?_
      exact K_zret dX11_isReferenceType_19 hQ rfl rfl (Nat.le_of_ble_eq_true rfl) (Nat.le_of_ble_eq_true rfl)
    · refine K_iload_n dX11_isReferenceType_8 rfl rfl ?_
      refine K_bipush (v := 8) dX11_isReferenceType_9 (by decide) ?_
      refine K_icmp_eq (tgt := 18) dX11_isReferenceType_11 (by decide) (fun c1 => ?_) (fun c1 => ?_)
      · refine K_iconst (v := 0) dX11_isReferenceType_18 (by decide) ?_
        exact K_zret dX11_isReferenceType_19 hQ rfl rfl (Nat.le_of_ble_eq_true rfl) (Nat.le_of_ble_eq_true rfl)
      · refine K_iconst (v := 1) dX11_isReferenceType_14 (by decide) ?_
        refine K_goto (tgt := 19) dX11_isReferenceType_15 (by decide) ?_
        exact K_zret dX11_isReferenceType_19 hQ rfl rfl (Nat.le_of_ble_eq_true rfl) (Nat.le_of_ble_eq_true rfl)
def sp_X8_isField (fu : Nat) (E : Ev) (S : St) (a0 : Nat) (x1 : Int32) : Option (Int32 × St) :=
  if x1 < 0 then (
    some (0, S)
  ) else (
    if (S.1 a0 2) ≤ x1 then (
      some (0, S)
    ) else (
      some (1, S)
    )
  )
set_option maxRecDepth 100000 in
theorem k_X8_isField {l : Launch} (fu : Nat) {E : Ev} (hE : WE E) {a0 : Nat} (ha0 : E.1 a0 = some (0, 7, 0)) {x1 : Int32} {S : St} {t : (Int32 × St)} (h : sp_X8_isField fu E S a0 x1 = some t) : Cn l mX8_isField [.ref a0, .int x1] (hp E S) (PoI E t) := by
  refine Cn.of (by decide) rfl (Nat.le_of_ble_eq_true rfl) (fun X _ _ hQ => ?_)
  refine (?_ : K mX8_isField X E 0 [(0, .ref a0), (1, .int x1)] [] S 0 0 (sp_X8_isField fu E S a0 x1) t) h
  unfold sp_X8_isField
  refine K_iload_n dX8_isField_0 rfl rfl ?_
  refine K_if_lt (tgt := 16) dX8_isField_1 (by decide) (fun c2 => ?_) (fun c2 => ?_)
  · refine K_iconst (v := 0) dX8_isField_16 (by decide) ?_
    exact K_zret dX8_isField_17 hQ rfl rfl (Nat.le_of_ble_eq_true rfl) (Nat.le_of_ble_eq_true rfl)
  · refine K_iload_n dX8_isField_4 rfl rfl ?_
    refine K_aload_n dX8_isField_5 rfl rfl ?_
    refine K_getI dX8_isField_6 f_X8_39_7 ha0 rfl ?_
    refine K_icmp_ge (tgt := 16) dX8_isField_9 (by decide) (fun c1 => ?_) (fun c1 => ?_)
    · refine K_iconst (v := 0) dX8_isField_16 (by decide) ?_
      exact K_zret dX8_isField_17 hQ rfl rfl (Nat.le_of_ble_eq_true rfl) (Nat.le_of_ble_eq_true rfl)
    · refine K_iconst (v := 1) dX8_isField_12 (by decide) ?_
      refine K_goto (tgt := 17) dX8_isField_13 (by decide) ?_
      exact K_zret dX8_isField_17 hQ rfl rfl (Nat.le_of_ble_eq_true rfl) (Nat.le_of_ble_eq_true rfl)
def sp_X8_isMethod (fu : Nat) (E : Ev) (S : St) (a0 : Nat) (x1 : Int32) : Option (Int32 × St) :=
  if x1 < 0 then (
    some (0, S)
  ) else (
    if (S.1 a0 9) ≤ x1 then (
      some (0, S)
    ) else (
      some (1, S)
    )
  )
set_option maxRecDepth 100000 in
theorem k_X8_isMethod {l : Launch} (fu : Nat) {E : Ev} (hE : WE E) {a0 : Nat} (ha0 : E.1 a0 = some (0, 7, 0)) {x1 : Int32} {S : St} {t : (Int32 × St)} (h : sp_X8_isMethod fu E S a0 x1 = some t) : Cn l mX8_isMethod [.ref a0, .int x1] (hp E S) (PoI E t) := by
  refine Cn.of (by decide) rfl (Nat.le_of_ble_eq_true rfl) (fun X _ _ hQ => ?_)
  refine (?_ : K mX8_isMethod X E 0 [(0, .ref a0), (1, .int x1)] [] S 0 0 (sp_X8_isMethod fu E S a0 x1) t) h
  unfold sp_X8_isMethod
  refine K_iload_n dX8_isMethod_0 rfl rfl ?_
  refine K_if_lt (tgt := 16) dX8_isMethod_1 (by decide) (fun c2 => ?_) (fun c2 => ?_)
  · refine K_iconst (v := 0) dX8_isMethod_16 (by decide) ?_
    exact K_zret dX8_isMethod_17 hQ rfl rfl (Nat.le_of_ble_eq_true rfl) (Nat.le_of_ble_eq_true rfl)
  · refine K_iload_n dX8_isMethod_4 rfl rfl ?_
    refine K_aload_n dX8_isMethod_5 rfl rfl ?_
    refine K_getI dX8_isMethod_6 f_X8_43_7 ha0 rfl ?_
    refine K_icmp_ge (tgt := 16) dX8_isMethod_9 (by decide) (fun c1 => ?_) (fun c1 => ?_)
    · refine K_iconst (v := 0) dX8_isMethod_16 (by decide) ?_
      exact K_zret dX8_isMethod_17 hQ rfl rfl (Nat.le_of_ble_eq_true rfl) (Nat.le_of_ble_eq_true rfl)
    · refine K_iconst (v := 1) dX8_isMethod_12 (by decide) ?_
      refine K_goto (tgt := 17) dX8_isMethod_13 (by decide) ?_
      exact K_zret dX8_isMethod_17 hQ rfl rfl (Nat.le_of_ble_eq_true rfl) (Nat.le_of_ble_eq_true rfl)
def sp_X8_isMethodOfKind (fu : Nat) (E : Ev) (S : St) (a0 : Nat) (x1 : Int32) (x2 : Int32) : Option (Int32 × St) :=
  (sp_X8_isMethod fu E S a0 x1).bind fun u1 =>
  if u1.1 = 0 then (
    some (0, u1.2)
  ) else (
    if inb x1 30 = true then
      (
      if (u1.2.2.1 (E.2 a0 4) x1.toNatClampNeg) = x2 then (
        some (1, u1.2)
      ) else (
        some (0, u1.2)
      )
      )
    else none
  )
set_option maxRecDepth 100000 in
theorem k_X8_isMethodOfKind {l : Launch} (fu : Nat) {E : Ev} (hE : WE E) {a0 : Nat} (ha0 : E.1 a0 = some (0, 7, 0)) {x1 : Int32} {x2 : Int32} {S : St} {t : (Int32 × St)} (h : sp_X8_isMethodOfKind fu E S a0 x1 x2 = some t) : Cn l mX8_isMethodOfKind [.ref a0, .int x1, .int x2] (hp E S) (PoI E t) := by
  refine Cn.of (by decide) rfl (Nat.le_of_ble_eq_true rfl) (fun X _ _ hQ => ?_)
  refine (?_ : K mX8_isMethodOfKind X E 0 [(0, .ref a0), (1, .int x1), (2, .int x2)] [] S 0 0 (sp_X8_isMethodOfKind fu E S a0 x1 x2) t) h
  unfold sp_X8_isMethodOfKind
  refine K_aload_n dX8_isMethodOfKind_0 rfl rfl ?_
  refine K_iload_n dX8_isMethodOfKind_1 rfl rfl ?_
  refine K_bind (fun u1 hu1 => ?_)
  refine K_callVI (As := [.int x1]) (k_X8_isMethod fu hE ha0 hu1) dX8_isMethodOfKind_2 v_X8_46 ha0 rfl rfl rfl rfl (Nat.le_of_ble_eq_true rfl) ⟨Nat.le_of_ble_eq_true rfl, Nat.le_of_ble_eq_true rfl, Nat.le_of_ble_eq_true rfl, Nat.le_of_ble_eq_true rfl⟩ ?_
  refine K_if_eq (tgt := 22) dX8_isMethodOfKind_5 (by decide) (fun c5 => ?_) (fun c5 => ?_)
  · refine K_iconst (v := 0) dX8_isMethodOfKind_22 (by decide) ?_
    exact K_zret dX8_isMethodOfKind_23 hQ rfl rfl (Nat.le_of_ble_eq_true rfl) (Nat.le_of_ble_eq_true rfl)
  · refine K_aload_n dX8_isMethodOfKind_8 rfl rfl ?_
    refine K_getC hE dX8_isMethodOfKind_9 f_X8_21_7 ha0 rfl rfl (fun h2 => ?_)
    refine K_iload_n dX8_isMethodOfKind_12 rfl rfl ?_
    refine K_chk (fun h3 => ?_)
    refine K_iald dX8_isMethodOfKind_13 h2 h3 ?_
    refine K_iload_n dX8_isMethodOfKind_14 rfl rfl ?_
    refine K_icmp_ne (tgt := 22) dX8_isMethodOfKind_15 (by decide) (fun c4 => ?_) (fun c4 => ?_)
    · refine K_iconst (v := 0) dX8_isMethodOfKind_22 (by decide) ?_
      exact K_zret dX8_isMethodOfKind_23 hQ rfl rfl (Nat.le_of_ble_eq_true rfl) (Nat.le_of_ble_eq_true rfl)
    · refine K_iconst (v := 1) dX8_isMethodOfKind_18 (by decide) ?_
      refine K_goto (tgt := 23) dX8_isMethodOfKind_19 (by decide) ?_
      exact K_zret dX8_isMethodOfKind_23 hQ rfl rfl (Nat.le_of_ble_eq_true rfl) (Nat.le_of_ble_eq_true rfl)
def sp_X2_isOperandAllowed (fu : Nat) (E : Ev) (S : St) (a0 : Nat) (x1 : Int32) (x2 : Int32) : Option (Int32 × St) :=
  if x1 = 4 then (
    if x2 < 0 then (
      some (0, S)
    ) else (
      if (S.1 (E.2 a0 2) 3) ≤ x2 then (
        some (0, S)
      ) else (
        some (1, S)
      )
    )
  ) else (
    if x1 = 5 then (
      if x2 < 0 then (
        some (0, S)
      ) else (
        if ((S.1 (E.2 a0 2) 3) - 1) ≤ x2 then (
          some (0, S)
        ) else (
          some (1, S)
        )
      )
    ) else (
      if x1 = 6 then (
        if x2 < 0 then (
          some (0, S)
        ) else (
          if (S.1 (E.2 a0 2) 3) ≤ x2 then (
            some (0, S)
          ) else (
            some (1, S)
          )
        )
      ) else (
        if x1 = 7 then (
          if x2 < 0 then (
            some (0, S)
          ) else (
            if (S.1 (E.2 a0 2) 3) ≤ x2 then (
              some (0, S)
            ) else (
              some (1, S)
            )
          )
        ) else (
          if x1 = 8 then (
            if x2 < 0 then (
              some (0, S)
            ) else (
              if ((S.1 (E.2 a0 2) 3) - 1) ≤ x2 then (
                some (0, S)
              ) else (
                some (1, S)
              )
            )
          ) else (
            if x1 = 9 then (
              if x2 < 0 then (
                some (0, S)
              ) else (
                if (S.1 (E.2 a0 2) 3) ≤ x2 then (
                  some (0, S)
                ) else (
                  some (1, S)
                )
              )
            ) else (
              if x1 = 21 then (
                if x2 < 0 then (
                  some (0, S)
                ) else (
                  if (S.1 (E.2 a0 2) 3) ≤ x2 then (
                    some (0, S)
                  ) else (
                    some (1, S)
                  )
                )
              ) else (
                if x1 = 22 then (
                  (sp_X1_isIndex fu E S (E.2 a0 2) x2).bind fun u31 =>
                  if isB u31.1 = true then some (u31.1, u31.2) else none
                ) else (
                  if x1 = 23 then (
                    (sp_X1_isIndex fu E S (E.2 a0 2) x2).bind fun u35 =>
                    if isB u35.1 = true then some (u35.1, u35.2) else none
                  ) else (
                    if x1 = 24 then (
                      (sp_X1_isIndex fu E S (E.2 a0 2) x2).bind fun u39 =>
                      if isB u39.1 = true then some (u39.1, u39.2) else none
                    ) else (
                      if x1 = 25 then (
                        (sp_X1_isIndex fu E S (E.2 a0 2) x2).bind fun u43 =>
                        if isB u43.1 = true then some (u43.1, u43.2) else none
                      ) else (
                        if x1 = 26 then (
                          (sp_X1_isIndex fu E S (E.2 a0 2) x2).bind fun u47 =>
                          if isB u47.1 = true then some (u47.1, u47.2) else none
                        ) else (
                          if x1 = 32 then (
                            (sp_X8_isField fu E S (E.2 a0 1) x2).bind fun u51 =>
                            if isB u51.1 = true then some (u51.1, u51.2) else none
                          ) else (
                            if x1 = 33 then (
                              (sp_X8_isField fu E S (E.2 a0 1) x2).bind fun u55 =>
                              if isB u55.1 = true then some (u55.1, u55.2) else none
                            ) else (
                              if x1 = 34 then (
                                (sp_X10_isClass fu E S (E.2 a0 0) x2).bind fun u59 =>
                                if isB u59.1 = true then some (u59.1, u59.2) else none
                              ) else (
                                if x1 = 35 then (
                                  (sp_X8_isMethodOfKind fu E S (E.2 a0 1) x2 2).bind fun u63 =>
                                  if isB u63.1 = true then some (u63.1, u63.2) else none
                                ) else (
                                  if x1 = 36 then (
                                    (sp_X8_isMethodOfKind fu E S (E.2 a0 1) x2 0).bind fun u67 =>
                                    if isB u67.1 = true then some (u67.1, u67.2) else none
                                  ) else (
                                    if x1 = 37 then (
                                      (sp_X8_isMethodOfKind fu E S (E.2 a0 1) x2 1).bind fun u71 =>
                                      if isB u71.1 = true then some (u71.1, u71.2) else none
                                    ) else (
                                      if x1 = 38 then (
                                        (sp_X10_isType fu E S (E.2 a0 0) x2).bind fun u75 =>
                                        if u75.1 = 0 then (
                                          some (0, u75.2)
                                        ) else (
                                          if 4 ≤ (x2 - x2 / 8 * 8) then (
                                            some (0, u75.2)
                                          ) else (
                                            some (1, u75.2)
                                          )
                                        )
                                      ) else (
                                        if x1 = 44 then (
                                          (sp_X10_isType fu E S (E.2 a0 0) x2).bind fun u80 =>
                                          if u80.1 = 0 then (
                                            some (0, u80.2)
                                          ) else (
                                            (sp_X11_isReferenceType fu E u80.2 x2).bind fun u81 =>
                                            if u81.1 = 0 then (
                                              some (0, u81.2)
                                            ) else (
                                              some (1, u81.2)
                                            )
                                          )
                                        ) else (
                                          if x1 = 45 then (
                                            (sp_X10_isType fu E S (E.2 a0 0) x2).bind fun u86 =>
                                            if u86.1 = 0 then (
                                              some (0, u86.2)
                                            ) else (
                                              (sp_X11_isReferenceType fu E u86.2 x2).bind fun u87 =>
                                              if u87.1 = 0 then (
                                                some (0, u87.2)
                                              ) else (
                                                some (1, u87.2)
                                              )
                                            )
                                          ) else (
                                            some (1, S)
                                          )
                                        )
                                      )
                                    )
                                  )
                                )
                              )
                            )
                          )
                        )
                      )
                    )
                  )
                )
              )
            )
          )
        )
      )
    )
  )
set_option maxRecDepth 100000 in
theorem k_X2_isOperandAllowed {l : Launch} (fu : Nat) {E : Ev} (hE : WE E) {a0 : Nat} (ha0 : E.1 a0 = some (0, 1, 0)) {x1 : Int32} {x2 : Int32} {S : St} {t : (Int32 × St)} (h : sp_X2_isOperandAllowed fu E S a0 x1 x2 = some t) : Cn l mX2_isOperandAllowed [.ref a0, .int x1, .int x2] (hp E S) (PoI E t) := by
  refine Cn.of (by decide) rfl (Nat.le_of_ble_eq_true rfl) (fun X _ _ hQ => ?_)
  refine (?_ : K mX2_isOperandAllowed X E 0 [(0, .ref a0), (1, .int x1), (2, .int x2)] [] S 0 0 (sp_X2_isOperandAllowed fu E S a0 x1 x2) t) h
  unfold sp_X2_isOperandAllowed
  refine K_iload_n dX2_isOperandAllowed_0 rfl rfl ?_
  refine K_ite (fun c1 => ?_) (fun c1 => ?_)
  · refine K_tswIn (tgt := 184) 4 dX2_isOperandAllowed_1 c1 (by decide) (by decide) rfl (by decide) ?_
    refine K_iload_n dX2_isOperandAllowed_184 rfl rfl ?_
    refine K_if_lt (tgt := 203) dX2_isOperandAllowed_185 (by decide) (fun c4 => ?_) (fun c4 => ?_)
    · refine K_iconst (v := 0) dX2_isOperandAllowed_203 (by decide) ?_
      exact K_zret dX2_isOperandAllowed_204 hQ rfl rfl (Nat.le_of_ble_eq_true rfl) (Nat.le_of_ble_eq_true rfl)
    · refine K_iload_n dX2_isOperandAllowed_188 rfl rfl ?_
      refine K_aload_n dX2_isOperandAllowed_189 rfl rfl ?_
      refine K_getC hE dX2_isOperandAllowed_190 f_X2_19_1 ha0 rfl rfl (fun h2 => ?_)
      refine K_getI dX2_isOperandAllowed_193 f_X2_59_0 h2 rfl ?_
      refine K_icmp_ge (tgt := 203) dX2_isOperandAllowed_196 (by decide) (fun c3 => ?_) (fun c3 => ?_)
      · refine K_iconst (v := 0) dX2_isOperandAllowed_203 (by decide) ?_
        exact K_zret dX2_isOperandAllowed_204 hQ rfl rfl (Nat.le_of_ble_eq_true rfl) (Nat.le_of_ble_eq_true rfl)
      · refine K_iconst (v := 1) dX2_isOperandAllowed_199 (by decide) ?_
        refine K_goto (tgt := 204) dX2_isOperandAllowed_200 (by decide) ?_
        exact K_zret dX2_isOperandAllowed_204 hQ rfl rfl (Nat.le_of_ble_eq_true rfl) (Nat.le_of_ble_eq_true rfl)
  · refine K_ite (fun c5 => ?_) (fun c5 => ?_)
    · refine K_tswIn (tgt := 205) 5 dX2_isOperandAllowed_1 c5 (by decide) (by decide) rfl (by decide) ?_
      refine K_iload_n dX2_isOperandAllowed_205 rfl rfl ?_
      refine K_if_lt (tgt := 226) dX2_isOperandAllowed_206 (by decide) (fun c8 => ?_) (fun c8 => ?_)
      · refine K_iconst (v := 0) dX2_isOperandAllowed_226 (by decide) ?_
        exact K_zret dX2_isOperandAllowed_227 hQ rfl rfl (Nat.le_of_ble_eq_true rfl) (Nat.le_of_ble_eq_true rfl)
      · refine K_iload_n dX2_isOperandAllowed_209 rfl rfl ?_
        refine K_aload_n dX2_isOperandAllowed_210 rfl rfl ?_
        refine K_getC hE dX2_isOperandAllowed_211 f_X2_19_1 ha0 rfl rfl (fun h6 => ?_)
        refine K_getI dX2_isOperandAllowed_214 f_X2_59_0 h6 rfl ?_
        refine K_iconst (v := 1) dX2_isOperandAllowed_217 (by decide) ?_
        refine K_isub dX2_isOperandAllowed_218 ?_
        refine K_icmp_ge (tgt := 226) dX2_isOperandAllowed_219 (by decide) (fun c7 => ?_) (fun c7 => ?_)
        · refine K_iconst (v := 0) dX2_isOperandAllowed_226 (by decide) ?_
          exact K_zret dX2_isOperandAllowed_227 hQ rfl rfl (Nat.le_of_ble_eq_true rfl) (Nat.le_of_ble_eq_true rfl)
        · refine K_iconst (v := 1) dX2_isOperandAllowed_222 (by decide) ?_
          refine K_goto (tgt := 227) dX2_isOperandAllowed_223 (by decide) ?_
          exact K_zret dX2_isOperandAllowed_227 hQ rfl rfl (Nat.le_of_ble_eq_true rfl) (Nat.le_of_ble_eq_true rfl)
    · refine K_ite (fun c9 => ?_) (fun c9 => ?_)
      · refine K_tswIn (tgt := 184) 6 dX2_isOperandAllowed_1 c9 (by decide) (by decide) rfl (by decide) ?_
        refine K_iload_n dX2_isOperandAllowed_184 rfl rfl ?_
        refine K_if_lt (tgt := 203) dX2_isOperandAllowed_185 (by decide) (fun c12 => ?_) (fun c12 => ?_)
        · refine K_iconst (v := 0) dX2_isOperandAllowed_203 (by decide) ?_
          exact K_zret dX2_isOperandAllowed_204 hQ rfl rfl (Nat.le_of_ble_eq_true rfl) (Nat.le_of_ble_eq_true rfl)
        · refine K_iload_n dX2_isOperandAllowed_188 rfl rfl ?_
          refine K_aload_n dX2_isOperandAllowed_189 rfl rfl ?_
          refine K_getC hE dX2_isOperandAllowed_190 f_X2_19_1 ha0 rfl rfl (fun h10 => ?_)
          refine K_getI dX2_isOperandAllowed_193 f_X2_59_0 h10 rfl ?_
          refine K_icmp_ge (tgt := 203) dX2_isOperandAllowed_196 (by decide) (fun c11 => ?_) (fun c11 => ?_)
          · refine K_iconst (v := 0) dX2_isOperandAllowed_203 (by decide) ?_
            exact K_zret dX2_isOperandAllowed_204 hQ rfl rfl (Nat.le_of_ble_eq_true rfl) (Nat.le_of_ble_eq_true rfl)
          · refine K_iconst (v := 1) dX2_isOperandAllowed_199 (by decide) ?_
            refine K_goto (tgt := 204) dX2_isOperandAllowed_200 (by decide) ?_
            exact K_zret dX2_isOperandAllowed_204 hQ rfl rfl (Nat.le_of_ble_eq_true rfl) (Nat.le_of_ble_eq_true rfl)
      · refine K_ite (fun c13 => ?_) (fun c13 => ?_)
        · refine K_tswIn (tgt := 184) 7 dX2_isOperandAllowed_1 c13 (by decide) (by decide) rfl (by decide) ?_
          refine K_iload_n dX2_isOperandAllowed_184 rfl rfl ?_
          refine K_if_lt (tgt := 203) dX2_isOperandAllowed_185 (by decide) (fun c16 => ?_) (fun c16 => ?_)
          · refine K_iconst (v := 0) dX2_isOperandAllowed_203 (by decide) ?_
            exact K_zret dX2_isOperandAllowed_204 hQ rfl rfl (Nat.le_of_ble_eq_true rfl) (Nat.le_of_ble_eq_true rfl)
          · refine K_iload_n dX2_isOperandAllowed_188 rfl rfl ?_
            refine K_aload_n dX2_isOperandAllowed_189 rfl rfl ?_
            refine K_getC hE dX2_isOperandAllowed_190 f_X2_19_1 ha0 rfl rfl (fun h14 => ?_)
            refine K_getI dX2_isOperandAllowed_193 f_X2_59_0 h14 rfl ?_
            refine K_icmp_ge (tgt := 203) dX2_isOperandAllowed_196 (by decide) (fun c15 => ?_) (fun c15 => ?_)
            · refine K_iconst (v := 0) dX2_isOperandAllowed_203 (by decide) ?_
              exact K_zret dX2_isOperandAllowed_204 hQ rfl rfl (Nat.le_of_ble_eq_true rfl) (Nat.le_of_ble_eq_true rfl)
            · refine K_iconst (v := 1) dX2_isOperandAllowed_199 (by decide) ?_
              refine K_goto (tgt := 204) dX2_isOperandAllowed_200 (by decide) ?_
              exact K_zret dX2_isOperandAllowed_204 hQ rfl rfl (Nat.le_of_ble_eq_true rfl) (Nat.le_of_ble_eq_true rfl)
        · refine K_ite (fun c17 => ?_) (fun c17 => ?_)
          · refine K_tswIn (tgt := 205) 8 dX2_isOperandAllowed_1 c17 (by decide) (by decide) rfl (by decide) ?_
            refine K_iload_n dX2_isOperandAllowed_205 rfl rfl ?_
            refine K_if_lt (tgt := 226) dX2_isOperandAllowed_206 (by decide) (fun c20 => ?_) (fun c20 => ?_)
            · refine K_iconst (v := 0) dX2_isOperandAllowed_226 (by decide) ?_
              exact K_zret dX2_isOperandAllowed_227 hQ rfl rfl (Nat.le_of_ble_eq_true rfl) (Nat.le_of_ble_eq_true rfl)
            · refine K_iload_n dX2_isOperandAllowed_209 rfl rfl ?_
              refine K_aload_n dX2_isOperandAllowed_210 rfl rfl ?_
              refine K_getC hE dX2_isOperandAllowed_211 f_X2_19_1 ha0 rfl rfl (fun h18 => ?_)
              refine K_getI dX2_isOperandAllowed_214 f_X2_59_0 h18 rfl ?_
              refine K_iconst (v := 1) dX2_isOperandAllowed_217 (by decide) ?_
              refine K_isub dX2_isOperandAllowed_218 ?_
              refine K_icmp_ge (tgt := 226) dX2_isOperandAllowed_219 (by decide) (fun c19 => ?_) (fun c19 => ?_)
              · refine K_iconst (v := 0) dX2_isOperandAllowed_226 (by decide) ?_
                exact K_zret dX2_isOperandAllowed_227 hQ rfl rfl (Nat.le_of_ble_eq_true rfl) (Nat.le_of_ble_eq_true rfl)
              · refine K_iconst (v := 1) dX2_isOperandAllowed_222 (by decide) ?_
                refine K_goto (tgt := 227) dX2_isOperandAllowed_223 (by decide) ?_
                exact K_zret dX2_isOperandAllowed_227 hQ rfl rfl (Nat.le_of_ble_eq_true rfl) (Nat.le_of_ble_eq_true rfl)
          · refine K_ite (fun c21 => ?_) (fun c21 => ?_)
            · refine K_tswIn (tgt := 184) 9 dX2_isOperandAllowed_1 c21 (by decide) (by decide) rfl (by decide) ?_
              refine K_iload_n dX2_isOperandAllowed_184 rfl rfl ?_
              refine K_if_lt (tgt := 203) dX2_isOperandAllowed_185 (by decide) (fun c24 => ?_) (fun c24 => ?_)
              · refine K_iconst (v := 0) dX2_isOperandAllowed_203 (by decide) ?_
                exact K_zret dX2_isOperandAllowed_204 hQ rfl rfl (Nat.le_of_ble_eq_true rfl) (Nat.le_of_ble_eq_true rfl)
              · refine K_iload_n dX2_isOperandAllowed_188 rfl rfl ?_
                refine K_aload_n dX2_isOperandAllowed_189 rfl rfl ?_
                refine K_getC hE dX2_isOperandAllowed_190 f_X2_19_1 ha0 rfl rfl (fun h22 => ?_)
                refine K_getI dX2_isOperandAllowed_193 f_X2_59_0 h22 rfl ?_
                refine K_icmp_ge (tgt := 203) dX2_isOperandAllowed_196 (by decide) (fun c23 => ?_) (fun c23 => ?_)
                · refine K_iconst (v := 0) dX2_isOperandAllowed_203 (by decide) ?_
                  exact K_zret dX2_isOperandAllowed_204 hQ rfl rfl (Nat.le_of_ble_eq_true rfl) (Nat.le_of_ble_eq_true rfl)
                · refine K_iconst (v := 1) dX2_isOperandAllowed_199 (by decide) ?_
                  refine K_goto (tgt := 204) dX2_isOperandAllowed_200 (by decide) ?_
                  exact K_zret dX2_isOperandAllowed_204 hQ rfl rfl (Nat.le_of_ble_eq_true rfl) (Nat.le_of_ble_eq_true rfl)
            · refine K_ite (fun c25 => ?_) (fun c25 => ?_)
              · refine K_tswIn (tgt := 184) 21 dX2_isOperandAllowed_1 c25 (by decide) (by decide) rfl (by decide) ?_
                refine K_iload_n dX2_isOperandAllowed_184 rfl rfl ?_
                refine K_if_lt (tgt := 203) dX2_isOperandAllowed_185 (by decide) (fun c28 => ?_) (fun c28 => ?_)
                · refine K_iconst (v := 0) dX2_isOperandAllowed_203 (by decide) ?_
                  exact K_zret dX2_isOperandAllowed_204 hQ rfl rfl (Nat.le_of_ble_eq_true rfl) (Nat.le_of_ble_eq_true rfl)
                · refine K_iload_n dX2_isOperandAllowed_188 rfl rfl ?_
                  refine K_aload_n dX2_isOperandAllowed_189 rfl rfl ?_
                  refine K_getC hE dX2_isOperandAllowed_190 f_X2_19_1 ha0 rfl rfl (fun h26 => ?_)
                  refine K_getI dX2_isOperandAllowed_193 f_X2_59_0 h26 rfl ?_
                  refine K_icmp_ge (tgt := 203) dX2_isOperandAllowed_196 (by decide) (fun c27 => ?_) (fun c27 => ?_)
                  · refine K_iconst (v := 0) dX2_isOperandAllowed_203 (by decide) ?_
                    exact K_zret dX2_isOperandAllowed_204 hQ rfl rfl (Nat.le_of_ble_eq_true rfl) (Nat.le_of_ble_eq_true rfl)
                  · refine K_iconst (v := 1) dX2_isOperandAllowed_199 (by decide) ?_
                    refine K_goto (tgt := 204) dX2_isOperandAllowed_200 (by decide) ?_
                    exact K_zret dX2_isOperandAllowed_204 hQ rfl rfl (Nat.le_of_ble_eq_true rfl) (Nat.le_of_ble_eq_true rfl)
              · refine K_ite (fun c29 => ?_) (fun c29 => ?_)
                · refine K_tswIn (tgt := 228) 22 dX2_isOperandAllowed_1 c29 (by decide) (by decide) rfl (by decide) ?_
                  refine K_aload_n dX2_isOperandAllowed_228 rfl rfl ?_
                  refine K_getC hE dX2_isOperandAllowed_229 f_X2_19_1 ha0 rfl rfl (fun h30 => ?_)
                  refine K_iload_n dX2_isOperandAllowed_232 rfl rfl ?_
                  refine K_bind (fun u31 hu31 => ?_)
                  refine K_callVI (As := [.int x2]) (k_X1_isIndex fu hE h30 hu31) dX2_isOperandAllowed_233 v_X2_62 h30 rfl rfl rfl rfl (Nat.le_of_ble_eq_true rfl) ⟨Nat.le_of_ble_eq_true rfl, Nat.le_of_ble_eq_true rfl, Nat.le_of_ble_eq_true rfl, Nat.le_of_ble_eq_true rfl⟩ ?_
                  refine K_chk (fun h32 => ?_)
                  exact K_zret dX2_isOperandAllowed_236 hQ rfl h32 (Nat.le_of_ble_eq_true rfl) (Nat.le_of_ble_eq_true rfl)
                · refine K_ite (fun c33 => ?_) (fun c33 => ?_)
                  · refine K_tswIn (tgt := 228) 23 dX2_isOperandAllowed_1 c33 (by decide) (by decide) rfl (by decide) ?_
                    refine K_aload_n dX2_isOperandAllowed_228 rfl rfl ?_
                    refine K_getC hE dX2_isOperandAllowed_229 f_X2_19_1 ha0 rfl rfl (fun h34 => ?_)
                    refine K_iload_n dX2_isOperandAllowed_232 rfl rfl ?_
                    refine K_bind (fun u35 hu35 => ?_)
                    refine K_callVI (As := [.int x2]) (k_X1_isIndex fu hE h34 hu35) dX2_isOperandAllowed_233 v_X2_62 h34 rfl rfl rfl rfl (Nat.le_of_ble_eq_true rfl) ⟨Nat.le_of_ble_eq_true rfl, Nat.le_of_ble_eq_true rfl, Nat.le_of_ble_eq_true rfl, Nat.le_of_ble_eq_true rfl⟩ ?_
                    refine K_chk (fun h36 => ?_)
                    exact K_zret dX2_isOperandAllowed_236 hQ rfl h36 (Nat.le_of_ble_eq_true rfl) (Nat.le_of_ble_eq_true rfl)
                  · refine K_ite (fun c37 => ?_) (fun c37 => ?_)
                    · refine K_tswIn (tgt := 228) 24 dX2_isOperandAllowed_1 c37 (by decide) (by decide) rfl (by decide) ?_
                      refine K_aload_n dX2_isOperandAllowed_228 rfl rfl ?_
                      refine K_getC hE dX2_isOperandAllowed_229 f_X2_19_1 ha0 rfl rfl (fun h38 => ?_)
                      refine K_iload_n dX2_isOperandAllowed_232 rfl rfl ?_
                      refine K_bind (fun u39 hu39 => ?_)
                      refine K_callVI (As := [.int x2]) (k_X1_isIndex fu hE h38 hu39) dX2_isOperandAllowed_233 v_X2_62 h38 rfl rfl rfl rfl (Nat.le_of_ble_eq_true rfl) ⟨Nat.le_of_ble_eq_true rfl, Nat.le_of_ble_eq_true rfl, Nat.le_of_ble_eq_true rfl, Nat.le_of_ble_eq_true rfl⟩ ?_
                      refine K_chk (fun h40 => ?_)
                      exact K_zret dX2_isOperandAllowed_236 hQ rfl h40 (Nat.le_of_ble_eq_true rfl) (Nat.le_of_ble_eq_true rfl)
                    · refine K_ite (fun c41 => ?_) (fun c41 => ?_)
                      · refine K_tswIn (tgt := 228) 25 dX2_isOperandAllowed_1 c41 (by decide) (by decide) rfl (by decide) ?_
                        refine K_aload_n dX2_isOperandAllowed_228 rfl rfl ?_
                        refine K_getC hE dX2_isOperandAllowed_229 f_X2_19_1 ha0 rfl rfl (fun h42 => ?_)
                        refine K_iload_n dX2_isOperandAllowed_232 rfl rfl ?_
                        refine K_bind (fun u43 hu43 => ?_)
                        refine K_callVI (As := [.int x2]) (k_X1_isIndex fu hE h42 hu43) dX2_isOperandAllowed_233 v_X2_62 h42 rfl rfl rfl rfl (Nat.le_of_ble_eq_true rfl) ⟨Nat.le_of_ble_eq_true rfl, Nat.le_of_ble_eq_true rfl, Nat.le_of_ble_eq_true rfl, Nat.le_of_ble_eq_true rfl⟩ ?_
                        refine K_chk (fun h44 => ?_)
                        exact K_zret dX2_isOperandAllowed_236 hQ rfl h44 (Nat.le_of_ble_eq_true rfl) (Nat.le_of_ble_eq_true rfl)
                      · refine K_ite (fun c45 => ?_) (fun c45 => ?_)
                        · refine K_tswIn (tgt := 228) 26 dX2_isOperandAllowed_1 c45 (by decide) (by decide) rfl (by decide) ?_
                          refine K_aload_n dX2_isOperandAllowed_228 rfl rfl ?_
                          refine K_getC hE dX2_isOperandAllowed_229 f_X2_19_1 ha0 rfl rfl (fun h46 => ?_)
                          refine K_iload_n dX2_isOperandAllowed_232 rfl rfl ?_
                          refine K_bind (fun u47 hu47 => ?_)
                          refine K_callVI (As := [.int x2]) (k_X1_isIndex fu hE h46 hu47) dX2_isOperandAllowed_233 v_X2_62 h46 rfl rfl rfl rfl (Nat.le_of_ble_eq_true rfl) ⟨Nat.le_of_ble_eq_true rfl, Nat.le_of_ble_eq_true rfl, Nat.le_of_ble_eq_true rfl, Nat.le_of_ble_eq_true rfl⟩ ?_
                          refine K_chk (fun h48 => ?_)
                          exact K_zret dX2_isOperandAllowed_236 hQ rfl h48 (Nat.le_of_ble_eq_true rfl) (Nat.le_of_ble_eq_true rfl)
                        · refine K_ite (fun c49 => ?_) (fun c49 => ?_)
                          · refine K_tswIn (tgt := 237) 32 dX2_isOperandAllowed_1 c49 (by decide) (by decide) rfl (by decide) ?_
                            refine K_aload_n dX2_isOperandAllowed_237 rfl rfl ?_
                            refine K_getC hE dX2_isOperandAllowed_238 f_X2_15_1 ha0 rfl rfl (fun h50 => ?_)
                            refine K_iload_n dX2_isOperandAllowed_241 rfl rfl ?_
                            refine K_bind (fun u51 hu51 => ?_)
                            refine K_callVI (As := [.int x2]) (k_X8_isField fu hE h50 hu51) dX2_isOperandAllowed_242 v_X2_65 h50 rfl rfl rfl rfl (Nat.le_of_ble_eq_true rfl) ⟨Nat.le_of_ble_eq_true rfl, Nat.le_of_ble_eq_true rfl, Nat.le_of_ble_eq_true rfl, Nat.le_of_ble_eq_true rfl⟩ ?_
                            refine K_chk (fun h52 => ?_)
                            exact K_zret dX2_isOperandAllowed_245 hQ rfl h52 (Nat.le_of_ble_eq_true rfl) (Nat.le_of_ble_eq_true rfl)
                          · refine K_ite (fun c53 => ?_) (fun c53 => ?_)
                            · refine K_tswIn (tgt := 237) 33 dX2_isOperandAllowed_1 c53 (by decide) (by decide) rfl (by decide) ?_
                              refine K_aload_n dX2_isOperandAllowed_237 rfl rfl ?_
                              refine K_getC hE dX2_isOperandAllowed_238 f_X2_15_1 ha0 rfl rfl (fun h54 => ?_)
                              refine K_iload_n dX2_isOperandAllowed_241 rfl rfl ?_
                              refine K_bind (fun u55 hu55 => ?_)
                              refine K_callVI (As := [.int x2]) (k_X8_isField fu hE h54 hu55) dX2_isOperandAllowed_242 v_X2_65 h54 rfl rfl rfl rfl (Nat.le_of_ble_eq_true rfl) ⟨Nat.le_of_ble_eq_true rfl, Nat.le_of_ble_eq_true rfl, Nat.le_of_ble_eq_true rfl, Nat.le_of_ble_eq_true rfl⟩ ?_
                              refine K_chk (fun h56 => ?_)
                              exact K_zret dX2_isOperandAllowed_245 hQ rfl h56 (Nat.le_of_ble_eq_true rfl) (Nat.le_of_ble_eq_true rfl)
                            · refine K_ite (fun c57 => ?_) (fun c57 => ?_)
                              · refine K_tswIn (tgt := 246) 34 dX2_isOperandAllowed_1 c57 (by decide) (by decide) rfl (by decide) ?_
                                refine K_aload_n dX2_isOperandAllowed_246 rfl rfl ?_
                                refine K_getC hE dX2_isOperandAllowed_247 f_X2_9_1 ha0 rfl rfl (fun h58 => ?_)
                                refine K_iload_n dX2_isOperandAllowed_250 rfl rfl ?_
                                refine K_bind (fun u59 hu59 => ?_)
                                refine K_callVI (As := [.int x2]) (k_X10_isClass fu hE h58 hu59) dX2_isOperandAllowed_251 v_X2_68 h58 rfl rfl rfl rfl (Nat.le_of_ble_eq_true rfl) ⟨Nat.le_of_ble_eq_true rfl, Nat.le_of_ble_eq_true rfl, Nat.le_of_ble_eq_true rfl, Nat.le_of_ble_eq_true rfl⟩ ?_
                                refine K_chk (fun h60 => ?_)
                                exact K_zret dX2_isOperandAllowed_254 hQ rfl h60 (Nat.le_of_ble_eq_true rfl) (Nat.le_of_ble_eq_true rfl)
                              · refine K_ite (fun c61 => ?_) (fun c61 => ?_)
                                · refine K_tswIn (tgt := 255) 35 dX2_isOperandAllowed_1 c61 (by decide) (by decide) rfl (by decide) ?_
                                  refine K_aload_n dX2_isOperandAllowed_255 rfl rfl ?_
                                  refine K_getC hE dX2_isOperandAllowed_256 f_X2_15_1 ha0 rfl rfl (fun h62 => ?_)
                                  refine K_iload_n dX2_isOperandAllowed_259 rfl rfl ?_
                                  refine K_iconst (v := 2) dX2_isOperandAllowed_260 (by decide) ?_
                                  refine K_bind (fun u63 hu63 => ?_)
                                  refine K_callVI (As := [.int x2, .int 2]) (k_X8_isMethodOfKind fu hE h62 hu63) dX2_isOperandAllowed_261 v_X2_73 h62 rfl rfl rfl rfl (Nat.le_of_ble_eq_true rfl) ⟨Nat.le_of_ble_eq_true rfl, Nat.le_of_ble_eq_true rfl, Nat.le_of_ble_eq_true rfl, Nat.le_of_ble_eq_true rfl⟩ ?_
                                  refine K_chk (fun h64 => ?_)
                                  exact K_zret dX2_isOperandAllowed_264 hQ rfl h64 (Nat.le_of_ble_eq_true rfl) (Nat.le_of_ble_eq_true rfl)
                                · refine K_ite (fun c65 => ?_) (fun c65 => ?_)
                                  · refine K_tswIn (tgt := 265) 36 dX2_isOperandAllowed_1 c65 (by decide) (by decide) rfl (by decide) ?_
                                    refine K_aload_n dX2_isOperandAllowed_265 rfl rfl ?_
                                    refine K_getC hE dX2_isOperandAllowed_266 f_X2_15_1 ha0 rfl rfl (fun h66 => ?_)
                                    refine K_iload_n dX2_isOperandAllowed_269 rfl rfl ?_
                                    refine K_iconst (v := 0) dX2_isOperandAllowed_270 (by decide) ?_
                                    refine K_bind (fun u67 hu67 => ?_)
                                    refine K_callVI (As := [.int x2, .int 0]) (k_X8_isMethodOfKind fu hE h66 hu67) dX2_isOperandAllowed_271 v_X2_73 h66 rfl rfl rfl rfl (Nat.le_of_ble_eq_true rfl) ⟨Nat.le_of_ble_eq_true rfl, Nat.le_of_ble_eq_true rfl, Nat.le_of_ble_eq_true rfl, Nat.le_of_ble_eq_true rfl⟩ ?_
                                    refine K_chk (fun h68 => ?_)
                                    exact K_zret dX2_isOperandAllowed_274 hQ rfl h68 (Nat.le_of_ble_eq_true rfl) (Nat.le_of_ble_eq_true rfl)
                                  · refine K_ite (fun c69 => ?_) (fun c69 => ?_)
                                    · refine K_tswIn (tgt := 275) 37 dX2_isOperandAllowed_1 c69 (by decide) (by decide) rfl (by decide) ?_
                                      refine K_aload_n dX2_isOperandAllowed_275 rfl rfl ?_
                                      refine K_getC hE dX2_isOperandAllowed_276 f_X2_15_1 ha0 rfl rfl (fun h70 => ?_)
                                      refine K_iload_n dX2_isOperandAllowed_279 rfl rfl ?_
                                      refine K_iconst (v := 1) dX2_isOperandAllowed_280 (by decide) ?_
                                      refine K_bind (fun u71 hu71 => ?_)
                                      refine K_callVI (As := [.int x2, .int 1]) (k_X8_isMethodOfKind fu hE h70 hu71) dX2_isOperandAllowed_281 v_X2_73 h70 rfl rfl rfl rfl (Nat.le_of_ble_eq_true rfl) ⟨Nat.le_of_ble_eq_true rfl, Nat.le_of_ble_eq_true rfl, Nat.le_of_ble_eq_true rfl, Nat.le_of_ble_eq_true rfl⟩ ?_
                                      refine K_chk (fun h72 => ?_)
                                      exact K_zret dX2_isOperandAllowed_284 hQ rfl h72 (Nat.le_of_ble_eq_true rfl) (Nat.le_of_ble_eq_true rfl)
                                    · refine K_ite (fun c73 => ?_) (fun c73 => ?_)
                                      · refine K_tswIn (tgt := 285) 38 dX2_isOperandAllowed_1 c73 (by decide) (by decide) rfl (by decide) ?_
                                        refine K_aload_n dX2_isOperandAllowed_285 rfl rfl ?_
                                        refine K_getC hE dX2_isOperandAllowed_286 f_X2_9_1 ha0 rfl rfl (fun h74 => ?_)
                                        refine K_iload_n dX2_isOperandAllowed_289 rfl rfl ?_
                                        refine K_bind (fun u75 hu75 => ?_)
                                        refine K_callVI (As := [.int x2]) (k_X10_isType fu hE h74 hu75) dX2_isOperandAllowed_290 v_X2_76 h74 rfl rfl rfl rfl (Nat.le_of_ble_eq_true rfl) ⟨Nat.le_of_ble_eq_true rfl, Nat.le_of_ble_eq_true rfl, Nat.le_of_ble_eq_true rfl, Nat.le_of_ble_eq_true rfl⟩ ?_
                                        refine K_if_eq (tgt := 308) dX2_isOperandAllowed_293 (by decide) (fun c77 => ?_) (fun c77 => ?_)
                                        · refine K_iconst (v := 0) dX2_isOperandAllowed_308 (by decide) ?_
                                          exact K_zret dX2_isOperandAllowed_309 hQ rfl rfl (Nat.le_of_ble_eq_true rfl) (Nat.le_of_ble_eq_true rfl)
                                        · refine K_iload_n dX2_isOperandAllowed_296 rfl rfl ?_
                                          refine K_bipush (v := 8) dX2_isOperandAllowed_297 (by decide) ?_
                                          refine K_irem dX2_isOperandAllowed_299 (by decide) ?_
                                          refine K_iconst (v := 4) dX2_isOperandAllowed_300 (by decide) ?_
                                          refine K_icmp_ge (tgt := 308) dX2_isOperandAllowed_301 (by decide) (fun c76 => ?_) (fun c76 => ?_)
                                          · refine K_iconst (v := 0) dX2_isOperandAllowed_308 (by decide) ?_
                                            exact K_zret dX2_isOperandAllowed_309 hQ rfl rfl (Nat.le_of_ble_eq_true rfl) (Nat.le_of_ble_eq_true rfl)
                                          · refine K_iconst (v := 1) dX2_isOperandAllowed_304 (by decide) ?_
                                            refine K_goto (tgt := 309) dX2_isOperandAllowed_305 (by decide) ?_
                                            exact K_zret dX2_isOperandAllowed_309 hQ rfl rfl (Nat.le_of_ble_eq_true rfl) (Nat.le_of_ble_eq_true rfl)
                                      · refine K_ite (fun c78 => ?_) (fun c78 => ?_)
                                        · refine K_tswIn (tgt := 310) 44 dX2_isOperandAllowed_1 c78 (by decide) (by decide) rfl (by decide) ?_
                                          refine K_aload_n dX2_isOperandAllowed_310 rfl rfl ?_
                                          refine K_getC hE dX2_isOperandAllowed_311 f_X2_9_1 ha0 rfl rfl (fun h79 => ?_)
                                          refine K_iload_n dX2_isOperandAllowed_314 rfl rfl ?_
                                          refine K_bind (fun u80 hu80 => ?_)
                                          refine K_callVI (As := [.int x2]) (k_X10_isType fu hE h79 hu80) dX2_isOperandAllowed_315 v_X2_76 h79 rfl rfl rfl rfl (Nat.le_of_ble_eq_true rfl) ⟨Nat.le_of_ble_eq_true rfl, Nat.le_of_ble_eq_true rfl, Nat.le_of_ble_eq_true rfl, Nat.le_of_ble_eq_true rfl⟩ ?_
                                          refine K_if_eq (tgt := 332) dX2_isOperandAllowed_318 (by decide) (fun c83 => ?_) (fun c83 => ?_)
                                          · refine K_iconst (v := 0) dX2_isOperandAllowed_332 (by decide) ?_
                                            exact K_zret dX2_isOperandAllowed_333 hQ rfl rfl (Nat.le_of_ble_eq_true rfl) (Nat.le_of_ble_eq_true rfl)
                                          · refine K_iload_n dX2_isOperandAllowed_321 rfl rfl ?_
                                            refine K_bind (fun u81 hu81 => ?_)
                                            refine K_callSI (As := [.int x2]) (k_X11_isReferenceType fu hE hu81) dX2_isOperandAllowed_322 s_X2_79 rfl rfl (Nat.le_of_ble_eq_true rfl) ⟨Nat.le_of_ble_eq_true rfl, Nat.le_of_ble_eq_true rfl, Nat.le_of_ble_eq_true rfl, Nat.le_of_ble_eq_true rfl⟩ ?_
                                            refine K_if_eq (tgt := 332) dX2_isOperandAllowed_325 (by decide) (fun c82 => ?_) (fun c82 => ?_)
                                            · refine K_iconst (v := 0) dX2_isOperandAllowed_332 (by decide) ?_
                                              exact K_zret dX2_isOperandAllowed_333 hQ rfl rfl (Nat.le_of_ble_eq_true rfl) (Nat.le_of_ble_eq_true rfl)
                                            · refine K_iconst (v := 1) dX2_isOperandAllowed_328 (by decide) ?_
                                              refine K_goto (tgt := 333) dX2_isOperandAllowed_329 (by decide) ?_
                                              exact K_zret dX2_isOperandAllowed_333 hQ rfl rfl (Nat.le_of_ble_eq_true rfl) (Nat.le_of_ble_eq_true rfl)
                                        · refine K_ite (fun c84 => ?_) (fun c84 => ?_)
                                          · refine K_tswIn (tgt := 310) 45 dX2_isOperandAllowed_1 c84 (by decide) (by decide) rfl (by decide) ?_
                                            refine K_aload_n dX2_isOperandAllowed_310 rfl rfl ?_
                                            refine K_getC hE dX2_isOperandAllowed_311 f_X2_9_1 ha0 rfl rfl (fun h85 => ?_)
                                            refine K_iload_n dX2_isOperandAllowed_314 rfl rfl ?_
                                            refine K_bind (fun u86 hu86 => ?_)
                                            refine K_callVI (As := [.int x2]) (k_X10_isType fu hE h85 hu86) dX2_isOperandAllowed_315 v_X2_76 h85 rfl rfl rfl rfl (Nat.le_of_ble_eq_true rfl) ⟨Nat.le_of_ble_eq_true rfl, Nat.le_of_ble_eq_true rfl, Nat.le_of_ble_eq_true rfl, Nat.le_of_ble_eq_true rfl⟩ ?_
                                            refine K_if_eq (tgt := 332) dX2_isOperandAllowed_318 (by decide) (fun c89 => ?_) (fun c89 => ?_)
                                            · refine K_iconst (v := 0) dX2_isOperandAllowed_332 (by decide) ?_
                                              exact K_zret dX2_isOperandAllowed_333 hQ rfl rfl (Nat.le_of_ble_eq_true rfl) (Nat.le_of_ble_eq_true rfl)
                                            · refine K_iload_n dX2_isOperandAllowed_321 rfl rfl ?_
                                              refine K_bind (fun u87 hu87 => ?_)
                                              refine K_callSI (As := [.int x2]) (k_X11_isReferenceType fu hE hu87) dX2_isOperandAllowed_322 s_X2_79 rfl rfl (Nat.le_of_ble_eq_true rfl) ⟨Nat.le_of_ble_eq_true rfl, Nat.le_of_ble_eq_true rfl, Nat.le_of_ble_eq_true rfl, Nat.le_of_ble_eq_true rfl⟩ ?_
                                              refine K_if_eq (tgt := 332) dX2_isOperandAllowed_325 (by decide) (fun c88 => ?_) (fun c88 => ?_)
                                              · refine K_iconst (v := 0) dX2_isOperandAllowed_332 (by decide) ?_
                                                exact K_zret dX2_isOperandAllowed_333 hQ rfl rfl (Nat.le_of_ble_eq_true rfl) (Nat.le_of_ble_eq_true rfl)
                                              · refine K_iconst (v := 1) dX2_isOperandAllowed_328 (by decide) ?_
                                                refine K_goto (tgt := 333) dX2_isOperandAllowed_329 (by decide) ?_
                                                exact K_zret dX2_isOperandAllowed_333 hQ rfl rfl (Nat.le_of_ble_eq_true rfl) (Nat.le_of_ble_eq_true rfl)
                                          · refine K_tswD (tgt := 334) [4, 5, 6, 7, 8, 9, 21, 22, 23, 24, 25, 26, 32, 33, 34, 35, 36, 37, 38, 44, 45] dX2_isOperandAllowed_1 (List.forall_mem_cons.mpr ⟨c1, List.forall_mem_cons.mpr ⟨c5, List.forall_mem_cons.mpr ⟨c9, List.forall_mem_cons.mpr ⟨c13, List.forall_mem_cons.mpr ⟨c17, List.forall_mem_cons.mpr ⟨c21, List.forall_mem_cons.mpr ⟨c25, List.forall_mem_cons.mpr ⟨c29, List.forall_mem_cons.mpr ⟨c33, List.forall_mem_cons.mpr ⟨c37, List.forall_mem_cons.mpr ⟨c41, List.forall_mem_cons.mpr ⟨c45, List.forall_mem_cons.mpr ⟨c49, List.forall_mem_cons.mpr ⟨c53, List.forall_mem_cons.mpr ⟨c57, List.forall_mem_cons.mpr ⟨c61, List.forall_mem_cons.mpr ⟨c65, List.forall_mem_cons.mpr ⟨c69, List.forall_mem_cons.mpr ⟨c73, List.forall_mem_cons.mpr ⟨c78, List.forall_mem_cons.mpr ⟨c84, fun _ h => absurd h List.not_mem_nil⟩⟩⟩⟩⟩⟩⟩⟩⟩⟩⟩⟩⟩⟩⟩⟩⟩⟩⟩⟩⟩) (by decide) (by decide) ?_
                                            refine K_iconst (v := 1) dX2_isOperandAllowed_334 (by decide) ?_
                                            exact K_zret dX2_isOperandAllowed_335 hQ rfl rfl (Nat.le_of_ble_eq_true rfl) (Nat.le_of_ble_eq_true rfl)
def sp_X8_slotsNeeded (fu : Nat) (E : Ev) (S : St) (a0 : Nat) (x1 : Int32) : Option (Int32 × St) :=
  if inb x1 30 = true then
    (
    if inb x1 30 = true then
      (
      if (S.2.1 (E.2 a0 4) x1.toNatClampNeg) = 1 then (
        some ((S.2.1 (E.2 a0 7) x1.toNatClampNeg) + 0, S)
      ) else (
        some ((S.2.1 (E.2 a0 7) x1.toNatClampNeg) + 1, S)
      )
      )
    else none
    )
  else none
set_option maxRecDepth 100000 in
theorem k_X8_slotsNeeded {l : Launch} (fu : Nat) {E : Ev} (hE : WE E) {a0 : Nat} (ha0 : E.1 a0 = some (0, 7, 0)) {x1 : Int32} {S : St} {t : (Int32 × St)} (h : sp_X8_slotsNeeded fu E S a0 x1 = some t) : Cn l mX8_slotsNeeded [.ref a0, .int x1] (hp E S) (PoI E t) := by
  refine Cn.of (by decide) rfl (Nat.le_of_ble_eq_true rfl) (fun X _ _ hQ => ?_)
  refine (?_ : K mX8_slotsNeeded X E 0 [(0, .ref a0), (1, .int x1)] [] S 0 0 (sp_X8_slotsNeeded fu E S a0 x1) t) h
  unfold sp_X8_slotsNeeded
  refine K_aload_n dX8_slotsNeeded_0 rfl rfl ?_
  refine K_getC hE dX8_slotsNeeded_1 f_X8_30_7 ha0 rfl rfl (fun h1 => ?_)
  refine K_iload_n dX8_slotsNeeded_4 rfl rfl ?_
  refine K_chk (fun h2 => ?_)
  refine K_iald dX8_slotsNeeded_5 h1 h2 ?_
  refine K_aload_n dX8_slotsNeeded_6 rfl rfl ?_
  refine K_getC hE dX8_slotsNeeded_7 f_X8_21_7 ha0 rfl rfl (fun h3 => ?_)
  refine K_iload_n dX8_slotsNeeded_10 rfl rfl ?_
  refine K_chk (fun h4 => ?_)
  refine K_iald dX8_slotsNeeded_11 h3 h4 ?_
  refine K_iconst (v := 1) dX8_slotsNeeded_12 (by decide) ?_
  refine K_icmp_ne (tgt := 20) dX8_slotsNeeded_13 (by decide) (fun c5 => ?_) (fun c5 => ?_)
  · refine K_iconst (v := 1) dX8_slotsNeeded_20 (by decide) ?_
    refine K_iadd dX8_slotsNeeded_21 ?_
    exact K_iret dX8_slotsNeeded_22 hQ rfl (Nat.le_of_ble_eq_true rfl) (Nat.le_of_ble_eq_true rfl)
  · refine K_iconst (v := 0) dX8_slotsNeeded_16 (by decide) ?_
    refine K_goto (tgt := 21) dX8_slotsNeeded_17 (by decide) ?_
    refine K_iadd dX8_slotsNeeded_21 ?_
    exact K_iret dX8_slotsNeeded_22 hQ rfl (Nat.le_of_ble_eq_true rfl) (Nat.le_of_ble_eq_true rfl)
def bd_X2_run_71 (fu : Nat) (E : Ev) (a0 : Nat) (rc71 : Int32 → St → Option (Int32 × St)) (x1 : Int32) (S : St) : Option (Int32 × St) :=
  if (S.1 (E.2 a0 2) 11) ≤ x1 then (
    (sp_X8_slotsNeeded fu E S (E.2 a0 1) (S.1 (E.2 a0 2) 1)).bind fun u7 =>
    if u7.1 ≤ (u7.2.1 (E.2 a0 2) 3) then (
      bnd (sF u7.2 a0 3 (-1)) fun S9 =>
      some (0, S9)
    ) else (
      some (11, u7.2)
    )
  ) else (
    (sp_X2_isHandlerAllowed fu E S a0 x1).bind fun u11 =>
    if u11.1 = 0 then (
      bnd (sF u11.2 a0 3 x1) fun S12 =>
      some (2, S12)
    ) else (
      rc71 (x1 + 1) u11.2
    )
  )
def lp_X2_run_71 (fu : Nat) (E : Ev) (a0 : Nat) : Nat → Int32 → St → Option (Int32 × St)
  | 0, _, _ => none
  | f + 1, x1, S => bd_X2_run_71 fu E a0 (lp_X2_run_71 fu E a0 f) x1 S
set_option maxRecDepth 100000 in
theorem kl_X2_run_71 {X : Cx} {E : Ev} {t : (Int32 × St)} {a0 : Nat} (hQ : EndR mX2_run X (PoI E t)) (hE : WE E) (fu : Nat) (ha0 : E.1 a0 = some (0, 1, 0)) : ∀ (f : Nat) (x1 : Int32) (S : St), K mX2_run X E 71 [(0, .ref a0), (1, .int x1)] [] S 0 0 (lp_X2_run_71 fu E a0 f x1 S) t := by
  intro f
  induction f with
  | zero => intro x1 S; exact K_none
  | succ f hrc71 =>
    intro x1 S
    show K _ _ _ _ _ _ _ _ _ (bd_X2_run_71 fu E a0 (lp_X2_run_71 fu E a0 f) x1 S) t
    unfold bd_X2_run_71
    refine K_iload_n dX2_run_71 rfl rfl ?_
    refine K_aload_n dX2_run_72 rfl rfl ?_
    refine K_getC hE dX2_run_73 f_X2_19_1 ha0 rfl rfl (fun h4 => ?_)
    refine K_getI dX2_run_76 f_X2_43_0 h4 rfl ?_
    refine K_icmp_ge (tgt := 103) dX2_run_79 (by decide) (fun c14 => ?_) (fun c14 => ?_)
    · refine K_aload_n dX2_run_103 rfl rfl ?_
      refine K_getC hE dX2_run_104 f_X2_15_1 ha0 rfl rfl (fun h5 => ?_)
      refine K_aload_n dX2_run_107 rfl rfl ?_
      refine K_getC hE dX2_run_108 f_X2_19_1 ha0 rfl rfl (fun h6 => ?_)
      refine K_getI dX2_run_111 f_X2_50_0 h6 rfl ?_
      refine K_bind (fun u7 hu7 => ?_)
      refine K_callVI (As := [.int (S.1 (E.2 a0 2) 1)]) (k_X8_slotsNeeded fu hE h5 hu7) dX2_run_114 v_X2_53 h5 rfl rfl rfl rfl (Nat.le_of_ble_eq_true rfl) ⟨Nat.le_of_ble_eq_true rfl, Nat.le_of_ble_eq_true rfl, Nat.le_of_ble_eq_true rfl, Nat.le_of_ble_eq_true rfl⟩ ?_
      refine K_aload_n dX2_run_117 rfl rfl ?_
      refine K_getC hE dX2_run_118 f_X2_19_1 ha0 rfl rfl (fun h8 => ?_)
      refine K_getI dX2_run_121 f_X2_59_0 h8 rfl ?_
      refine K_icmp_le (tgt := 130) dX2_run_124 (by decide) (fun c10 => ?_) (fun c10 => ?_)
      · refine K_aload_n dX2_run_130 rfl rfl ?_
        refine K_iconst (v := (-1)) dX2_run_131 (by decide) ?_
        refine K_putI dX2_run_132 p_X2_23_1 ha0 rfl ?_
        refine K_nmS (fun S9 => ?_)
        refine K_iconst (v := 0) dX2_run_135 (by decide) ?_
        exact K_iret dX2_run_136 hQ rfl (Nat.le_of_ble_eq_true rfl) (Nat.le_of_ble_eq_true rfl)
      · refine K_bipush (v := 11) dX2_run_127 (by decide) ?_
        exact K_iret dX2_run_129 hQ rfl (Nat.le_of_ble_eq_true rfl) (Nat.le_of_ble_eq_true rfl)
    · refine K_aload_n dX2_run_82 rfl rfl ?_
      refine K_iload_n dX2_run_83 rfl rfl ?_
      refine K_bind (fun u11 hu11 => ?_)
      refine K_callVI (As := [.int x1]) (k_X2_isHandlerAllowed fu hE ha0 hu11) dX2_run_84 v_X2_46 ha0 rfl rfl rfl rfl (Nat.le_of_ble_eq_true rfl) ⟨Nat.le_of_ble_eq_true rfl, Nat.le_of_ble_eq_true rfl, Nat.le_of_ble_eq_true rfl, Nat.le_of_ble_eq_true rfl⟩ ?_
      refine K_if_ne (tgt := 97) dX2_run_87 (by decide) (fun c13 => ?_) (fun c13 => ?_)
      · refine K_iinc (v := (x1 + 1)) (ls' := [(0, _), (1, _)]) dX2_run_97 rfl rfl (by decide) rfl ?_
        refine K_goto (tgt := 71) dX2_run_100 (by decide) ?_
        refine K.keep [0, 1] ?_
        exact hrc71 (x1 + 1) u11.2
      · refine K_aload_n dX2_run_90 rfl rfl ?_
        refine K_iload_n dX2_run_91 rfl rfl ?_
        refine K_putI dX2_run_92 p_X2_23_1 ha0 rfl ?_
        refine K_nmS (fun S12 => ?_)
        refine K_iconst (v := 2) dX2_run_95 (by decide) ?_
        exact K_iret dX2_run_96 hQ rfl (Nat.le_of_ble_eq_true rfl) (Nat.le_of_ble_eq_true rfl)
def bd_X2_run_20 (fu : Nat) (E : Ev) (a0 : Nat) (rc20 : Int32 → St → Option (Int32 × St)) (x1 : Int32) (S : St) : Option (Int32 × St) :=
  if (S.1 (E.2 a0 2) 6) ≤ x1 then (
    lp_X2_run_71 fu E a0 fu 0 S
  ) else (
    if inb x1 100 = true then
      (
      if inb x1 100 = true then
        (
        (sp_X2_isOperandAllowed fu E S a0 (S.2.1 (E.2 (E.2 a0 2) 4) x1.toNatClampNeg) (S.2.1 (E.2 (E.2 a0 2) 5) x1.toNatClampNeg)).bind fun u21 =>
        if u21.1 = 0 then (
          bnd (sF u21.2 a0 3 x1) fun S22 =>
          some (1, S22)
        ) else (
          rc20 (x1 + 1) u21.2
        )
        )
      else none
      )
    else none
  )
def lp_X2_run_20 (fu : Nat) (E : Ev) (a0 : Nat) : Nat → Int32 → St → Option (Int32 × St)
  | 0, _, _ => none
  | f + 1, x1, S => bd_X2_run_20 fu E a0 (lp_X2_run_20 fu E a0 f) x1 S
set_option maxRecDepth 100000 in
theorem kl_X2_run_20 {X : Cx} {E : Ev} {t : (Int32 × St)} {a0 : Nat} (hQ : EndR mX2_run X (PoI E t)) (hE : WE E) (fu : Nat) (ha0 : E.1 a0 = some (0, 1, 0)) : ∀ (f : Nat) (x1 : Int32) (S : St), K mX2_run X E 20 [(0, .ref a0), (1, .int x1)] [] S 0 0 (lp_X2_run_20 fu E a0 f x1 S) t := by
  intro f
  induction f with
  | zero => intro x1 S; exact K_none
  | succ f hrc20 =>
    intro x1 S
    show K _ _ _ _ _ _ _ _ _ (bd_X2_run_20 fu E a0 (lp_X2_run_20 fu E a0 f) x1 S) t
    unfold bd_X2_run_20
    refine K_iload_n dX2_run_20 rfl rfl ?_
    refine K_aload_n dX2_run_21 rfl rfl ?_
    refine K_getC hE dX2_run_22 f_X2_19_1 ha0 rfl rfl (fun h3 => ?_)
    refine K_getI dX2_run_25 f_X2_27_0 h3 rfl ?_
    refine K_icmp_ge (tgt := 69) dX2_run_28 (by decide) (fun c24 => ?_) (fun c24 => ?_)
    · refine K_iconst (v := 0) dX2_run_69 (by decide) ?_
      refine K_istore_n (ls' := [(0, _), (1, _)]) dX2_run_70 rfl (by decide) rfl ?_
      refine K.keep [0, 1] ?_
      exact kl_X2_run_71 hQ hE fu ha0 fu 0 S
    · refine K_aload_n dX2_run_31 rfl rfl ?_
      refine K_aload_n dX2_run_32 rfl rfl ?_
      refine K_getC hE dX2_run_33 f_X2_19_1 ha0 rfl rfl (fun h15 => ?_)
      refine K_getC hE dX2_run_36 f_X2_32_0 h15 rfl rfl (fun h16 => ?_)
      refine K_iload_n dX2_run_39 rfl rfl ?_
      refine K_chk (fun h17 => ?_)
      refine K_iald dX2_run_40 h16 h17 ?_
      refine K_aload_n dX2_run_41 rfl rfl ?_
      refine K_getC hE dX2_run_42 f_X2_19_1 ha0 rfl rfl (fun h18 => ?_)
      refine K_getC hE dX2_run_45 f_X2_36_0 h18 rfl rfl (fun h19 => ?_)
      refine K_iload_n dX2_run_48 rfl rfl ?_
      refine K_chk (fun h20 => ?_)
      refine K_iald dX2_run_49 h19 h20 ?_
      refine K_bind (fun u21 hu21 => ?_)
      refine K_callVI (As := [.int (S.2.1 (E.2 (E.2 a0 2) 4) x1.toNatClampNeg), .int (S.2.1 (E.2 (E.2 a0 2) 5) x1.toNatClampNeg)]) (k_X2_isOperandAllowed fu hE ha0 hu21) dX2_run_50 v_X2_39 ha0 rfl rfl rfl rfl (Nat.le_of_ble_eq_true rfl) ⟨Nat.le_of_ble_eq_true rfl, Nat.le_of_ble_eq_true rfl, Nat.le_of_ble_eq_true rfl, Nat.le_of_ble_eq_true rfl⟩ ?_
      refine K_if_ne (tgt := 63) dX2_run_53 (by decide) (fun c23 => ?_) (fun c23 => ?_)
      · refine K_iinc (v := (x1 + 1)) (ls' := [(0, _), (1, _)]) dX2_run_63 rfl rfl (by decide) rfl ?_
        refine K_goto (tgt := 20) dX2_run_66 (by decide) ?_
        refine K.keep [0, 1] ?_
        exact hrc20 (x1 + 1) u21.2
      · refine K_aload_n dX2_run_56 rfl rfl ?_
        refine K_iload_n dX2_run_57 rfl rfl ?_
        refine K_putI dX2_run_58 p_X2_23_1 ha0 rfl ?_
        refine K_nmS (fun S22 => ?_)
        refine K_iconst (v := 1) dX2_run_61 (by decide) ?_
        exact K_iret dX2_run_62 hQ rfl (Nat.le_of_ble_eq_true rfl) (Nat.le_of_ble_eq_true rfl)
def sp_X2_run (fu : Nat) (E : Ev) (S : St) (a0 : Nat) : Option (Int32 × St) :=
  bnd (sF S a0 3 0) fun S1 =>
  if (S1.1 (E.2 a0 2) 6) = 0 then (
    some (7, S1)
  ) else (
    lp_X2_run_20 fu E a0 fu 0 S1
  )
set_option maxRecDepth 100000 in
theorem k_X2_run {l : Launch} (fu : Nat) {E : Ev} (hE : WE E) {a0 : Nat} (ha0 : E.1 a0 = some (0, 1, 0)) {S : St} {t : (Int32 × St)} (h : sp_X2_run fu E S a0 = some t) : Cn l mX2_run [.ref a0] (hp E S) (PoI E t) := by
  refine Cn.of (by decide) rfl (Nat.le_of_ble_eq_true rfl) (fun X _ _ hQ => ?_)
  refine (?_ : K mX2_run X E 0 [(0, .ref a0)] [] S 0 0 (sp_X2_run fu E S a0) t) h
  unfold sp_X2_run
  refine K_aload_n dX2_run_0 rfl rfl ?_
  refine K_iconst (v := 0) dX2_run_1 (by decide) ?_
  refine K_putI dX2_run_2 p_X2_23_1 ha0 rfl ?_
  refine K_nmS (fun S1 => ?_)
  refine K_aload_n dX2_run_5 rfl rfl ?_
  refine K_getC hE dX2_run_6 f_X2_19_1 ha0 rfl rfl (fun h2 => ?_)
  refine K_getI dX2_run_9 f_X2_27_0 h2 rfl ?_
  refine K_if_ne (tgt := 18) dX2_run_12 (by decide) (fun c25 => ?_) (fun c25 => ?_)
  · refine K_iconst (v := 0) dX2_run_18 (by decide) ?_
    refine K_istore_n (ls' := [(0, _), (1, _)]) dX2_run_19 rfl (by decide) rfl ?_
    refine K.keep [0, 1] ?_
    exact kl_X2_run_20 hQ hE fu ha0 fu 0 S1
  · refine K_bipush (v := 7) dX2_run_15 (by decide) ?_
    exact K_iret dX2_run_17 hQ rfl (Nat.le_of_ble_eq_true rfl) (Nat.le_of_ble_eq_true rfl)
def bd_X3_clear_2 (fu : Nat) (E : Ev) (a0 : Nat) (rc2 : Int32 → St → Option St) (x1 : Int32) (S : St) : Option St :=
  if 12 ≤ x1 then (
    bnd (sF S a0 2 0) fun S1 =>
    bnd (sF S1 a0 3 0) fun S2 =>
    some S2
  ) else (
    if inb x1 12 = true then (
      bnd (sG S (E.2 a0 0) (x1.toNatClampNeg) (-2)) fun S5 =>
      rc2 (x1 + 1) S5
    ) else none
  )
def lp_X3_clear_2 (fu : Nat) (E : Ev) (a0 : Nat) : Nat → Int32 → St → Option St
  | 0, _, _ => none
  | f + 1, x1, S => bd_X3_clear_2 fu E a0 (lp_X3_clear_2 fu E a0 f) x1 S
set_option maxRecDepth 100000 in
theorem kl_X3_clear_2 {X : Cx} {E : Ev} {t : St} {a0 : Nat} (hQ : EndR mX3_clear X (PoV E t)) (hE : WE E) (fu : Nat) (ha0 : E.1 a0 = some (0, 2, 0)) : ∀ (f : Nat) (x1 : Int32) (S : St), K mX3_clear X E 2 [(0, .ref a0), (1, .int x1)] [] S 0 0 (lp_X3_clear_2 fu E a0 f x1 S) t := by
  intro f
  induction f with
  | zero => intro x1 S; exact K_none
  | succ f hrc2 =>
    intro x1 S
    show K _ _ _ _ _ _ _ _ _ (bd_X3_clear_2 fu E a0 (lp_X3_clear_2 fu E a0 f) x1 S) t
    unfold bd_X3_clear_2
    refine K_iload_n dX3_clear_2 rfl rfl ?_
    refine K_bipush (v := 12) dX3_clear_3 (by decide) ?_
    refine K_icmp_ge (tgt := 22) dX3_clear_5 (by decide) (fun c6 => ?_) (fun c6 => ?_)
    · refine K_aload_n dX3_clear_22 rfl rfl ?_
      refine K_iconst (v := 0) dX3_clear_23 (by decide) ?_
      refine K_putI dX3_clear_24 p_X3_18_2 ha0 rfl ?_
      refine K_nmS (fun S1 => ?_)
      refine K_aload_n dX3_clear_27 rfl rfl ?_
      refine K_iconst (v := 0) dX3_clear_28 (by decide) ?_
      refine K_putZ dX3_clear_29 p_X3_22_2 ha0 rfl rfl ?_
      refine K_nmS (fun S2 => ?_)
      exact K_vret dX3_clear_32 hQ rfl (Nat.le_of_ble_eq_true rfl) (Nat.le_of_ble_eq_true rfl)
    · refine K_aload_n dX3_clear_8 rfl rfl ?_
      refine K_getC hE dX3_clear_9 f_X3_9_2 ha0 rfl rfl (fun h3 => ?_)
      refine K_iload_n dX3_clear_12 rfl rfl ?_
      refine K_bipush (v := (-2)) dX3_clear_13 (by decide) ?_
      refine K_chk (fun h4 => ?_)
      refine K_iast dX3_clear_15 h3 h4 ?_
      refine K_nmS (fun S5 => ?_)
      refine K_iinc (v := (x1 + 1)) (ls' := [(0, _), (1, _)]) dX3_clear_16 rfl rfl (by decide) rfl ?_
      refine K_goto (tgt := 2) dX3_clear_19 (by decide) ?_
      refine K.keep [0, 1] ?_
      exact hrc2 (x1 + 1) S5
def sp_X3_clear (fu : Nat) (E : Ev) (S : St) (a0 : Nat) : Option St :=
  lp_X3_clear_2 fu E a0 fu 0 S
set_option maxRecDepth 100000 in
theorem k_X3_clear {l : Launch} (fu : Nat) {E : Ev} (hE : WE E) {a0 : Nat} (ha0 : E.1 a0 = some (0, 2, 0)) {S : St} {t : St} (h : sp_X3_clear fu E S a0 = some t) : Cn l mX3_clear [.ref a0] (hp E S) (PoV E t) := by
  refine Cn.of (by decide) rfl (Nat.le_of_ble_eq_true rfl) (fun X _ _ hQ => ?_)
  refine (?_ : K mX3_clear X E 0 [(0, .ref a0)] [] S 0 0 (sp_X3_clear fu E S a0) t) h
  unfold sp_X3_clear
  refine K_iconst (v := 0) dX3_clear_0 (by decide) ?_
  refine K_istore_n (ls' := [(0, _), (1, _)]) dX3_clear_1 rfl (by decide) rfl ?_
  refine K.keep [0, 1] ?_
  exact kl_X3_clear_2 hQ hE fu ha0 fu 0 S
def sp_X3_copyFrom (fu : Nat) (E : Ev) (S : St) (a0 : Nat) (a1 : Nat) : Option St :=
  if cpk 0 0 12 12 12 = true then (
    bnd (sC S (E.2 a1 0) (E.2 a0 0) (0 : Int32).toNatClampNeg (0 : Int32).toNatClampNeg (12 : Int32).toNatClampNeg) fun S4 =>
    if cpk 0 0 12 12 12 = true then (
      bnd (sC S4 (E.2 a1 1) (E.2 a0 1) (0 : Int32).toNatClampNeg (0 : Int32).toNatClampNeg (12 : Int32).toNatClampNeg) fun S8 =>
      bnd (sF S8 a0 2 (S8.1 a1 2)) fun S9 =>
      if isB (S9.1 a1 3) = true then
        (
        bnd (sF S9 a0 3 (S9.1 a1 3)) fun S10 =>
        some S10
        )
      else none
    ) else none
  ) else none
set_option maxRecDepth 100000 in
theorem k_X3_copyFrom {l : Launch} (fu : Nat) {E : Ev} (hE : WE E) {a0 : Nat} (ha0 : E.1 a0 = some (0, 2, 0)) {a1 : Nat} (ha1 : E.1 a1 = some (0, 2, 0)) {S : St} {t : St} (h : sp_X3_copyFrom fu E S a0 a1 = some t) : Cn l mX3_copyFrom [.ref a0, .ref a1] (hp E S) (PoV E t) := by
  refine Cn.of (by decide) rfl (Nat.le_of_ble_eq_true rfl) (fun X _ _ hQ => ?_)
  refine (?_ : K mX3_copyFrom X E 0 [(0, .ref a0), (1, .ref a1)] [] S 0 0 (sp_X3_copyFrom fu E S a0 a1) t) h
  unfold sp_X3_copyFrom
  refine K_aload_n dX3_copyFrom_0 rfl rfl ?_
  refine K_getC hE dX3_copyFrom_1 f_X3_9_2 ha1 rfl rfl (fun h1 => ?_)
  refine K_iconst (v := 0) dX3_copyFrom_4 (by decide) ?_
  refine K_aload_n dX3_copyFrom_5 rfl rfl ?_
  refine K_getC hE dX3_copyFrom_6 f_X3_9_2 ha0 rfl rfl (fun h2 => ?_)
  refine K_iconst (v := 0) dX3_copyFrom_9 (by decide) ?_
  refine K_bipush (v := 12) dX3_copyFrom_10 (by decide) ?_
  refine K_chk (fun h3 => ?_)
  refine K_copy dX3_copyFrom_12 a_X3_26 h1 h2 h3 (Nat.le_of_ble_eq_true rfl) (Nat.le_of_ble_eq_true rfl) ?_
  refine K_nmS (fun S4 => ?_)
  refine K_aload_n dX3_copyFrom_15 rfl rfl ?_
  refine K_getC hE dX3_copyFrom_16 f_X3_15_2 ha1 rfl rfl (fun h5 => ?_)
  refine K_iconst (v := 0) dX3_copyFrom_19 (by decide) ?_
  refine K_aload_n dX3_copyFrom_20 rfl rfl ?_
  refine K_getC hE dX3_copyFrom_21 f_X3_15_2 ha0 rfl rfl (fun h6 => ?_)
  refine K_iconst (v := 0) dX3_copyFrom_24 (by decide) ?_
  refine K_bipush (v := 12) dX3_copyFrom_25 (by decide) ?_
  refine K_chk (fun h7 => ?_)
  refine K_copy dX3_copyFrom_27 a_X3_26 h5 h6 h7 (Nat.le_of_ble_eq_true rfl) (Nat.le_of_ble_eq_true rfl) ?_
  refine K_nmS (fun S8 => ?_)
  refine K_aload_n dX3_copyFrom_30 rfl rfl ?_
  refine K_aload_n dX3_copyFrom_31 rfl rfl ?_
  refine K_getI dX3_copyFrom_32 f_X3_18_2 ha1 rfl ?_
  refine K_putI dX3_copyFrom_35 p_X3_18_2 ha0 rfl ?_
  refine K_nmS (fun S9 => ?_)
  refine K_aload_n dX3_copyFrom_38 rfl rfl ?_
  refine K_aload_n dX3_copyFrom_39 rfl rfl ?_
  refine K_getI dX3_copyFrom_40 f_X3_22_2 ha1 rfl ?_
  refine K_chk (fun h11 => ?_)
  refine K_putZ dX3_copyFrom_43 p_X3_22_2 ha0 rfl h11 ?_
  refine K_nmS (fun S10 => ?_)
  exact K_vret dX3_copyFrom_46 hQ rfl (Nat.le_of_ble_eq_true rfl) (Nat.le_of_ble_eq_true rfl)
