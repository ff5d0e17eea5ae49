def sp_X12_top (fu : Nat) (E : Ev) (S : St) (a0 : Nat) (x1 : Int32) : Option (Int32 × St) :=
  if inb (((12 + (S.2.1 (E.2 a0 39) (24 : Int32).toNatClampNeg)) - 1) - x1) 26 = true then
    (
    some (S.2.1 (E.2 a0 39) (((12 + (S.2.1 (E.2 a0 39) (24 : Int32).toNatClampNeg)) - 1) - x1).toNatClampNeg, S)
    )
  else none
set_option maxRecDepth 100000 in
theorem k_X12_top {l : Launch} (fu : Nat) {E : Ev} (hE : WE E) {a0 : Nat} (ha0 : E.1 a0 = some (0, 10, 0)) {x1 : Int32} {S : St} {t : (Int32 × St)} (h : sp_X12_top fu E S a0 x1 = some t) : Cn l mX12_top [.ref a0, .int x1] (hp E S) (PoI E t) := by
  refine Cn.of (by decide) rfl (Nat.le_of_ble_eq_true rfl) (fun X _ _ hQ => ?_)
  refine (?_ : K mX12_top X E 0 [(0, .ref a0), (1, .int x1)] [] S 0 0 (sp_X12_top fu E S a0 x1) t) h
  unfold sp_X12_top
  refine K_aload_n dX12_top_0 rfl rfl ?_
  refine K_getC hE dX12_top_1 f_X12_81_10 ha0 rfl rfl (fun h1 => ?_)
  refine K_bipush (v := 12) dX12_top_4 (by decide) ?_
  refine K_aload_n dX12_top_6 rfl rfl ?_
  refine K_getC hE dX12_top_7 f_X12_81_10 ha0 rfl rfl (fun h2 => ?_)
  refine K_bipush (v := 24) dX12_top_10 (by decide) ?_
  refine K_iald dX12_top_12 h2 (by decide) ?_
  refine K_iadd dX12_top_13 ?_
  refine K_iconst (v := 1) dX12_top_14 (by decide) ?_
  refine K_isub dX12_top_15 ?_
  refine K_iload_n dX12_top_16 rfl rfl ?_
  refine K_isub dX12_top_17 ?_
  refine K_chk (fun h3 => ?_)
  refine K_iald dX12_top_18 h1 h3 ?_
  exact K_iret dX12_top_19 hQ rfl (Nat.le_of_ble_eq_true rfl) (Nat.le_of_ble_eq_true rfl)
def sp_X12_has (fu : Nat) (E : Ev) (S : St) (a0 : Nat) (x1 : Int32) : Option (Int32 × St) :=
  (sp_X12_isWell fu E S a0).bind fun u1 =>
  if u1.1 = 0 then (
    (sp_X12_isWell fu E u1.2 a0).bind fun u2 =>
    if isB u2.1 = true then some (u2.1, u2.2) else none
  ) else (
    if x1 ≤ (u1.2.2.1 (E.2 a0 39) (24 : Int32).toNatClampNeg) then (
      (sp_X12_isWell fu E u1.2 a0).bind fun u5 =>
      if isB u5.1 = true then some (u5.1, u5.2) else none
    ) else (
      (sp_X12_fail fu E u1.2 a0 3 (u1.2.1 a0 43)).bind fun u7 =>
      (sp_X12_isWell fu E u7 a0).bind fun u8 =>
      if isB u8.1 = true then some (u8.1, u8.2) else none
    )
  )
set_option maxRecDepth 100000 in
theorem k_X12_has {l : Launch} (fu : Nat) {E : Ev} (hE : WE E) {a0 : Nat} (ha0 : E.1 a0 = some (0, 10, 0)) {x1 : Int32} {S : St} {t : (Int32 × St)} (h : sp_X12_has fu E S a0 x1 = some t) : Cn l mX12_has [.ref a0, .int x1] (hp E S) (PoI E t) := by
  refine Cn.of (by decide) rfl (Nat.le_of_ble_eq_true rfl) (fun X _ _ hQ => ?_)
  refine (?_ : K mX12_has X E 0 [(0, .ref a0), (1, .int x1)] [] S 0 0 (sp_X12_has fu E S a0 x1) t) h
  unfold sp_X12_has
  refine K_aload_n dX12_has_0 rfl rfl ?_
  refine K_bind (fun u1 hu1 => ?_)
  refine K_callVI (As := []) (k_X12_isWell fu hE ha0 hu1) dX12_has_1 v_X12_218 ha0 rfl rfl rfl rfl (Nat.le_of_ble_eq_true rfl) ⟨Nat.le_of_ble_eq_true rfl, Nat.le_of_ble_eq_true rfl, Nat.le_of_ble_eq_true rfl, Nat.le_of_ble_eq_true rfl⟩ ?_
  refine K_if_eq (tgt := 27) dX12_has_4 (by decide) (fun c11 => ?_) (fun c11 => ?_)
  · refine K_aload_n dX12_has_27 rfl rfl ?_
    refine K_bind (fun u2 hu2 => ?_)
    refine K_callVI (As := []) (k_X12_isWell fu hE ha0 hu2) dX12_has_28 v_X12_218 ha0 rfl rfl rfl rfl (Nat.le_of_ble_eq_true rfl) ⟨Nat.le_of_ble_eq_true rfl, Nat.le_of_ble_eq_true rfl, Nat.le_of_ble_eq_true rfl, Nat.le_of_ble_eq_true rfl⟩ ?_
    refine K_chk (fun h3 => ?_)
    exact K_zret dX12_has_31 hQ rfl h3 (Nat.le_of_ble_eq_true rfl) (Nat.le_of_ble_eq_true rfl)
  · refine K_aload_n dX12_has_7 rfl rfl ?_
    refine K_getC hE dX12_has_8 f_X12_81_10 ha0 rfl rfl (fun h4 => ?_)
    refine K_bipush (v := 24) dX12_has_11 (by decide) ?_
    refine K_iald dX12_has_13 h4 (by decide) ?_
    refine K_iload_n dX12_has_14 rfl rfl ?_
    refine K_icmp_ge (tgt := 27) dX12_has_15 (by decide) (fun c10 => ?_) (fun c10 => ?_)
    · refine K_aload_n dX12_has_27 rfl rfl ?_
      refine K_bind (fun u5 hu5 => ?_)
      refine K_callVI (As := []) (k_X12_isWell fu hE ha0 hu5) dX12_has_28 v_X12_218 ha0 rfl rfl rfl rfl (Nat.le_of_ble_eq_true rfl) ⟨Nat.le_of_ble_eq_true rfl, Nat.le_of_ble_eq_true rfl, Nat.le_of_ble_eq_true rfl, Nat.le_of_ble_eq_true rfl⟩ ?_
      refine K_chk (fun h6 => ?_)
      exact K_zret dX12_has_31 hQ rfl h6 (Nat.le_of_ble_eq_true rfl) (Nat.le_of_ble_eq_true rfl)
    · refine K_aload_n dX12_has_18 rfl rfl ?_
      refine K_iconst (v := 3) dX12_has_19 (by decide) ?_
      refine K_aload_n dX12_has_20 rfl rfl ?_
      refine K_getI dX12_has_21 f_X12_222_10 ha0 rfl ?_
      refine K_bind (fun u7 hu7 => ?_)
      refine K_callVV (As := [.int 3, .int (u1.2.1 a0 43)]) (k_X12_fail fu hE ha0 hu7) dX12_has_24 v_X12_208 ha0 rfl rfl rfl rfl (Nat.le_of_ble_eq_true rfl) ⟨Nat.le_of_ble_eq_true rfl, Nat.le_of_ble_eq_true rfl, Nat.le_of_ble_eq_true rfl, Nat.le_of_ble_eq_true rfl⟩ ?_
      refine K_aload_n dX12_has_27 rfl rfl ?_
      refine K_bind (fun u8 hu8 => ?_)
      refine K_callVI (As := []) (k_X12_isWell fu hE ha0 hu8) dX12_has_28 v_X12_218 ha0 rfl rfl rfl rfl (Nat.le_of_ble_eq_true rfl) ⟨Nat.le_of_ble_eq_true rfl, Nat.le_of_ble_eq_true rfl, Nat.le_of_ble_eq_true rfl, Nat.le_of_ble_eq_true rfl⟩ ?_
      refine K_chk (fun h9 => ?_)
      exact K_zret dX12_has_31 hQ rfl h9 (Nat.le_of_ble_eq_true rfl) (Nat.le_of_ble_eq_true rfl)
def sp_X12_require (fu : Nat) (E : Ev) (S : St) (a0 : Nat) (x1 : Int32) : Option St :=
  if x1 = 0 then (
    (sp_X12_fail fu E S a0 4 (S.1 a0 43)).bind fun u1 =>
    some u1
  ) else (
    some S
  )
set_option maxRecDepth 100000 in
theorem k_X12_require {l : Launch} (fu : Nat) {E : Ev} (hE : WE E) {a0 : Nat} (ha0 : E.1 a0 = some (0, 10, 0)) {x1 : Int32} {S : St} {t : St} (h : sp_X12_require fu E S a0 x1 = some t) : Cn l mX12_require [.ref a0, .int x1] (hp E S) (PoV E t) := by
  refine Cn.of (by decide) rfl (Nat.le_of_ble_eq_true rfl) (fun X _ _ hQ => ?_)
  refine (?_ : K mX12_require X E 0 [(0, .ref a0), (1, .int x1)] [] S 0 0 (sp_X12_require fu E S a0 x1) t) h
  unfold sp_X12_require
  refine K_iload_n dX12_require_0 rfl rfl ?_
  refine K_if_ne (tgt := 13) dX12_require_1 (by decide) (fun c2 => ?_) (fun c2 => ?_)
  · exact K_vret dX12_require_13 hQ rfl (Nat.le_of_ble_eq_true rfl) (Nat.le_of_ble_eq_true rfl)
  · refine K_aload_n dX12_require_4 rfl rfl ?_
    refine K_iconst (v := 4) dX12_require_5 (by decide) ?_
    refine K_aload_n dX12_require_6 rfl rfl ?_
    refine K_getI dX12_require_7 f_X12_222_10 ha0 rfl ?_
    refine K_bind (fun u1 hu1 => ?_)
    refine K_callVV (As := [.int 4, .int (S.1 a0 43)]) (k_X12_fail fu hE ha0 hu1) dX12_require_10 v_X12_208 ha0 rfl rfl rfl rfl (Nat.le_of_ble_eq_true rfl) ⟨Nat.le_of_ble_eq_true rfl, Nat.le_of_ble_eq_true rfl, Nat.le_of_ble_eq_true rfl, Nat.le_of_ble_eq_true rfl⟩ ?_
    exact K_vret dX12_require_13 hQ rfl (Nat.le_of_ble_eq_true rfl) (Nat.le_of_ble_eq_true rfl)
def bd_X12_drop_39 (fu : Nat) (E : Ev) (a0 : Nat) (rc39 : Int32 → Int32 → Int32 → St → Option (Int32 × St)) (x1 : Int32) (x2 : Int32) (x3 : Int32) (S : St) : Option (Int32 × St) :=
  if x1 ≤ x3 then (
    some (x2, S)
  ) else (
    if inb ((12 + (S.2.1 (E.2 a0 39) (24 : Int32).toNatClampNeg)) + x3) 26 = true then (
      bnd (sG S (E.2 a0 39) (((12 + (S.2.1 (E.2 a0 39) (24 : Int32).toNatClampNeg)) + x3).toNatClampNeg) (-2)) fun S11 =>
      rc39 x1 x2 (x3 + 1) S11
    ) else none
  )
def lp_X12_drop_39 (fu : Nat) (E : Ev) (a0 : Nat) : Nat → Int32 → Int32 → Int32 → St → Option (Int32 × St)
  | 0, _, _, _, _ => none
  | f + 1, x1, x2, x3, S => bd_X12_drop_39 fu E a0 (lp_X12_drop_39 fu E a0 f) x1 x2 x3 S
set_option maxRecDepth 100000 in
theorem kl_X12_drop_39 {X : Cx} {E : Ev} {t : (Int32 × St)} {a0 : Nat} (hQ : EndR mX12_drop X (PoI E t)) (hE : WE E) (fu : Nat) (ha0 : E.1 a0 = some (0, 10, 0)) : ∀ (f : Nat) (x1 : Int32) (x2 : Int32) (x3 : Int32) (S : St), K mX12_drop X E 39 [(0, .ref a0), (1, .int x1), (2, .int x2), (3, .int x3)] [] S 0 0 (lp_X12_drop_39 fu E a0 f x1 x2 x3 S) t := by
  intro f
  induction f with
  | zero => intro x1 x2 x3 S; exact K_none
  | succ f hrc39 =>
    intro x1 x2 x3 S
    show K _ _ _ _ _ _ _ _ _ (bd_X12_drop_39 fu E a0 (lp_X12_drop_39 fu E a0 f) x1 x2 x3 S) t
    unfold bd_X12_drop_39
    refine K_iload_n dX12_drop_39 rfl rfl ?_
    refine K_iload_n dX12_drop_40 rfl rfl ?_
    refine K_icmp_ge (tgt := 69) dX12_drop_41 (by decide) (fun c12 => ?_) (fun c12 => ?_)
    · refine K_iload_n dX12_drop_69 rfl rfl ?_
      exact K_iret dX12_drop_70 hQ rfl (Nat.le_of_ble_eq_true rfl) (Nat.le_of_ble_eq_true rfl)
    · refine K_aload_n dX12_drop_44 rfl rfl ?_
      refine K_getC hE dX12_drop_45 f_X12_81_10 ha0 rfl rfl (fun h8 => ?_)
      refine K_bipush (v := 12) dX12_drop_48 (by decide) ?_
      refine K_aload_n dX12_drop_50 rfl rfl ?_
      refine K_getC hE dX12_drop_51 f_X12_81_10 ha0 rfl rfl (fun h9 => ?_)
      refine K_bipush (v := 24) dX12_drop_54 (by decide) ?_
      refine K_iald dX12_drop_56 h9 (by decide) ?_
      refine K_iadd dX12_drop_57 ?_
      refine K_iload_n dX12_drop_58 rfl rfl ?_
      refine K_iadd dX12_drop_59 ?_
      refine K_bipush (v := (-2)) dX12_drop_60 (by decide) ?_
      refine K_chk (fun h10 => ?_)
      refine K_iast dX12_drop_62 h8 h10 ?_
      refine K_nmS (fun S11 => ?_)
      refine K_iinc (v := (x3 + 1)) (ls' := [(0, _), (1, _), (2, _), (3, _)]) dX12_drop_63 rfl rfl (by decide) rfl ?_
      refine K_goto (tgt := 39) dX12_drop_66 (by decide) ?_
      refine K.keep [0, 1, 2, 3] ?_
      exact hrc39 x1 x2 (x3 + 1) S11
def sp_X12_drop (fu : Nat) (E : Ev) (S : St) (a0 : Nat) (x1 : Int32) : Option (Int32 × St) :=
  (sp_X12_isWell fu E S a0).bind fun u1 =>
  if u1.1 = 0 then (
    some ((-2), u1.2)
  ) else (
    bnd (sG u1.2 (E.2 a0 39) ((24 : Int32).toNatClampNeg) ((u1.2.2.1 (E.2 a0 39) (24 : Int32).toNatClampNeg) - x1)) fun S3 =>
    if inb (12 + (S3.2.1 (E.2 a0 39) (24 : Int32).toNatClampNeg)) 26 = true then
      (
      bnd (S3.2.1 (E.2 a0 39) (12 + (S3.2.1 (E.2 a0 39) (24 : Int32).toNatClampNeg)).toNatClampNeg) fun v7 =>
      lp_X12_drop_39 fu E a0 fu x1 v7 0 S3
      )
    else none
  )
set_option maxRecDepth 100000 in
theorem k_X12_drop {l : Launch} (fu : Nat) {E : Ev} (hE : WE E) {a0 : Nat} (ha0 : E.1 a0 = some (0, 10, 0)) {x1 : Int32} {S : St} {t : (Int32 × St)} (h : sp_X12_drop fu E S a0 x1 = some t) : Cn l mX12_drop [.ref a0, .int x1] (hp E S) (PoI E t) := by
  refine Cn.of (by decide) rfl (Nat.le_of_ble_eq_true rfl) (fun X _ _ hQ => ?_)
  refine (?_ : K mX12_drop X E 0 [(0, .ref a0), (1, .int x1)] [] S 0 0 (sp_X12_drop fu E S a0 x1) t) h
  unfold sp_X12_drop
  refine K_aload_n dX12_drop_0 rfl rfl ?_
  refine K_bind (fun u1 hu1 => ?_)
  refine K_callVI (As := []) (k_X12_isWell fu hE ha0 hu1) dX12_drop_1 v_X12_218 ha0 rfl rfl rfl rfl (Nat.le_of_ble_eq_true rfl) ⟨Nat.le_of_ble_eq_true rfl, Nat.le_of_ble_eq_true rfl, Nat.le_of_ble_eq_true rfl, Nat.le_of_ble_eq_true rfl⟩ ?_
  refine K_if_ne (tgt := 10) dX12_drop_4 (by decide) (fun c13 => ?_) (fun c13 => ?_)
  · refine K_aload_n dX12_drop_10 rfl rfl ?_
    refine K_getC hE dX12_drop_11 f_X12_81_10 ha0 rfl rfl (fun h2 => ?_)
    refine K_bipush (v := 24) dX12_drop_14 (by decide) ?_
    refine K_dup2 dX12_drop_16 rfl rfl ?_
    refine K_iald dX12_drop_17 h2 (by decide) ?_
    refine K_iload_n dX12_drop_18 rfl rfl ?_
    refine K_isub dX12_drop_19 ?_
    refine K_iast dX12_drop_20 h2 (by decide) ?_
    refine K_nmS (fun S3 => ?_)
    refine K_aload_n dX12_drop_21 rfl rfl ?_
    refine K_getC hE dX12_drop_22 f_X12_81_10 ha0 rfl rfl (fun h4 => ?_)
    refine K_bipush (v := 12) dX12_drop_25 (by decide) ?_
    refine K_aload_n dX12_drop_27 rfl rfl ?_
    refine K_getC hE dX12_drop_28 f_X12_81_10 ha0 rfl rfl (fun h5 => ?_)
    refine K_bipush (v := 24) dX12_drop_31 (by decide) ?_
    refine K_iald dX12_drop_33 h5 (by decide) ?_
    refine K_iadd dX12_drop_34 ?_
    refine K_chk (fun h6 => ?_)
    refine K_iald dX12_drop_35 h4 h6 ?_
    refine K_nmI (fun v7 => ?_)
    refine K_istore_n (ls' := [(0, _), (1, _), (2, _)]) dX12_drop_36 rfl (by decide) rfl ?_
    refine K_iconst (v := 0) dX12_drop_37 (by decide) ?_
    refine K_istore_n (ls' := [(0, _), (1, _), (2, _), (3, _)]) dX12_drop_38 rfl (by decide) rfl ?_
    refine K.keep [0, 1, 2, 3] ?_
    exact kl_X12_drop_39 hQ hE fu ha0 fu x1 v7 0 S3
  · refine K_bipush (v := (-2)) dX12_drop_7 (by decide) ?_
    exact K_iret dX12_drop_9 hQ rfl (Nat.le_of_ble_eq_true rfl) (Nat.le_of_ble_eq_true rfl)
def sp_X12_popInt (fu : Nat) (E : Ev) (S : St) (a0 : Nat) : Option St :=
  (sp_X12_has fu E S a0 1).bind fun u1 =>
  if u1.1 = 0 then (
    (sp_X12_drop fu E u1.2 a0 1).bind fun u2 =>
    some u2.2
  ) else (
    (sp_X12_top fu E u1.2 a0 0).bind fun u3 =>
    if u3.1 = 0 then (
      (sp_X12_require fu E u3.2 a0 1).bind fun u6 =>
      (sp_X12_drop fu E u6 a0 1).bind fun u7 =>
      some u7.2
    ) else (
      (sp_X12_require fu E u3.2 a0 0).bind fun u4 =>
      (sp_X12_drop fu E u4 a0 1).bind fun u5 =>
      some u5.2
    )
  )
set_option maxRecDepth 100000 in
theorem k_X12_popInt {l : Launch} (fu : Nat) {E : Ev} (hE : WE E) {a0 : Nat} (ha0 : E.1 a0 = some (0, 10, 0)) {S : St} {t : St} (h : sp_X12_popInt fu E S a0 = some t) : Cn l mX12_popInt [.ref a0] (hp E S) (PoV E t) := by
  refine Cn.of (by decide) rfl (Nat.le_of_ble_eq_true rfl) (fun X _ _ hQ => ?_)
  refine (?_ : K mX12_popInt X E 0 [(0, .ref a0)] [] S 0 0 (sp_X12_popInt fu E S a0) t) h
  unfold sp_X12_popInt
  refine K_aload_n dX12_popInt_0 rfl rfl ?_
  refine K_iconst (v := 1) dX12_popInt_1 (by decide) ?_
  refine K_bind (fun u1 hu1 => ?_)
  refine K_callVI (As := [.int 1]) (k_X12_has fu hE ha0 hu1) dX12_popInt_2 v_X12_225 ha0 rfl rfl rfl rfl (Nat.le_of_ble_eq_true rfl) ⟨Nat.le_of_ble_eq_true rfl, Nat.le_of_ble_eq_true rfl, Nat.le_of_ble_eq_true rfl, Nat.le_of_ble_eq_true rfl⟩ ?_
  refine K_if_eq (tgt := 25) dX12_popInt_5 (by decide) (fun c9 => ?_) (fun c9 => ?_)
  · refine K_aload_n dX12_popInt_25 rfl rfl ?_
    refine K_iconst (v := 1) dX12_popInt_26 (by decide) ?_
    refine K_bind (fun u2 hu2 => ?_)
    refine K_callVI (As := [.int 1]) (k_X12_drop fu hE ha0 hu2) dX12_popInt_27 v_X12_235 ha0 rfl rfl rfl rfl (Nat.le_of_ble_eq_true rfl) ⟨Nat.le_of_ble_eq_true rfl, Nat.le_of_ble_eq_true rfl, Nat.le_of_ble_eq_true rfl, Nat.le_of_ble_eq_true rfl⟩ ?_
    refine K_pop dX12_popInt_30 rfl ?_
    exact K_vret dX12_popInt_31 hQ rfl (Nat.le_of_ble_eq_true rfl) (Nat.le_of_ble_eq_true rfl)
  · refine K_aload_n dX12_popInt_8 rfl rfl ?_
    refine K_aload_n dX12_popInt_9 rfl rfl ?_
    refine K_iconst (v := 0) dX12_popInt_10 (by decide) ?_
    refine K_bind (fun u3 hu3 => ?_)
    refine K_callVI (As := [.int 0]) (k_X12_top fu hE ha0 hu3) dX12_popInt_11 v_X12_228 ha0 rfl rfl rfl rfl (Nat.le_of_ble_eq_true rfl) ⟨Nat.le_of_ble_eq_true rfl, Nat.le_of_ble_eq_true rfl, Nat.le_of_ble_eq_true rfl, Nat.le_of_ble_eq_true rfl⟩ ?_
    refine K_if_ne (tgt := 21) dX12_popInt_14 (by decide) (fun c8 => ?_) (fun c8 => ?_)
    · refine K_iconst (v := 0) dX12_popInt_21 (by decide) ?_
      refine K_bind (fun u4 hu4 => ?_)
      refine K_callVV (As := [.int 0]) (k_X12_require fu hE ha0 hu4) dX12_popInt_22 v_X12_231 ha0 rfl rfl rfl rfl (Nat.le_of_ble_eq_true rfl) ⟨Nat.le_of_ble_eq_true rfl, Nat.le_of_ble_eq_true rfl, Nat.le_of_ble_eq_true rfl, Nat.le_of_ble_eq_true rfl⟩ ?_
      refine K_aload_n dX12_popInt_25 rfl rfl ?_
      refine K_iconst (v := 1) dX12_popInt_26 (by decide) ?_
      refine K_bind (fun u5 hu5 => ?_)
      refine K_callVI (As := [.int 1]) (k_X12_drop fu hE ha0 hu5) dX12_popInt_27 v_X12_235 ha0 rfl rfl rfl rfl (Nat.le_of_ble_eq_true rfl) ⟨Nat.le_of_ble_eq_true rfl, Nat.le_of_ble_eq_true rfl, Nat.le_of_ble_eq_true rfl, Nat.le_of_ble_eq_true rfl⟩ ?_
      refine K_pop dX12_popInt_30 rfl ?_
      exact K_vret dX12_popInt_31 hQ rfl (Nat.le_of_ble_eq_true rfl) (Nat.le_of_ble_eq_true rfl)
    · refine K_iconst (v := 1) dX12_popInt_17 (by decide) ?_
      refine K_goto (tgt := 22) dX12_popInt_18 (by decide) ?_
      refine K_bind (fun u6 hu6 => ?_)
      refine K_callVV (As := [.int 1]) (k_X12_require fu hE ha0 hu6) dX12_popInt_22 v_X12_231 ha0 rfl rfl rfl rfl (Nat.le_of_ble_eq_true rfl) ⟨Nat.le_of_ble_eq_true rfl, Nat.le_of_ble_eq_true rfl, Nat.le_of_ble_eq_true rfl, Nat.le_of_ble_eq_true rfl⟩ ?_
      refine K_aload_n dX12_popInt_25 rfl rfl ?_
      refine K_iconst (v := 1) dX12_popInt_26 (by decide) ?_
      refine K_bind (fun u7 hu7 => ?_)
      refine K_callVI (As := [.int 1]) (k_X12_drop fu hE ha0 hu7) dX12_popInt_27 v_X12_235 ha0 rfl rfl rfl rfl (Nat.le_of_ble_eq_true rfl) ⟨Nat.le_of_ble_eq_true rfl, Nat.le_of_ble_eq_true rfl, Nat.le_of_ble_eq_true rfl, Nat.le_of_ble_eq_true rfl⟩ ?_
      refine K_pop dX12_popInt_30 rfl ?_
      exact K_vret dX12_popInt_31 hQ rfl (Nat.le_of_ble_eq_true rfl) (Nat.le_of_ble_eq_true rfl)
def sp_X12_popLong (fu : Nat) (E : Ev) (S : St) (a0 : Nat) : Option St :=
  (sp_X12_has fu E S a0 2).bind fun u1 =>
  if u1.1 = 0 then (
    (sp_X12_drop fu E u1.2 a0 2).bind fun u2 =>
    some u2.2
  ) else (
    (sp_X12_top fu E u1.2 a0 0).bind fun u3 =>
    if u3.1 = (-3) then (
      (sp_X12_top fu E u3.2 a0 1).bind fun u6 =>
      if u6.1 = 8 then (
        (sp_X12_require fu E u6.2 a0 1).bind fun u9 =>
        (sp_X12_drop fu E u9 a0 2).bind fun u10 =>
        some u10.2
      ) else (
        (sp_X12_require fu E u6.2 a0 0).bind fun u7 =>
        (sp_X12_drop fu E u7 a0 2).bind fun u8 =>
        some u8.2
      )
    ) else (
      (sp_X12_require fu E u3.2 a0 0).bind fun u4 =>
      (sp_X12_drop fu E u4 a0 2).bind fun u5 =>
      some u5.2
    )
  )
set_option maxRecDepth 100000 in
theorem k_X12_popLong {l : Launch} (fu : Nat) {E : Ev} (hE : WE E) {a0 : Nat} (ha0 : E.1 a0 = some (0, 10, 0)) {S : St} {t : St} (h : sp_X12_popLong fu E S a0 = some t) : Cn l mX12_popLong [.ref a0] (hp E S) (PoV E t) := by
  refine Cn.of (by decide) rfl (Nat.le_of_ble_eq_true rfl) (fun X _ _ hQ => ?_)
  refine (?_ : K mX12_popLong X E 0 [(0, .ref a0)] [] S 0 0 (sp_X12_popLong fu E S a0) t) h
  unfold sp_X12_popLong
  refine K_aload_n dX12_popLong_0 rfl rfl ?_
  refine K_iconst (v := 2) dX12_popLong_1 (by decide) ?_
  refine K_bind (fun u1 hu1 => ?_)
  refine K_callVI (As := [.int 2]) (k_X12_has fu hE ha0 hu1) dX12_popLong_2 v_X12_225 ha0 rfl rfl rfl rfl (Nat.le_of_ble_eq_true rfl) ⟨Nat.le_of_ble_eq_true rfl, Nat.le_of_ble_eq_true rfl, Nat.le_of_ble_eq_true rfl, Nat.le_of_ble_eq_true rfl⟩ ?_
  refine K_if_eq (tgt := 37) dX12_popLong_5 (by decide) (fun c13 => ?_) (fun c13 => ?_)
  · refine K_aload_n dX12_popLong_37 rfl rfl ?_
    refine K_iconst (v := 2) dX12_popLong_38 (by decide) ?_
    refine K_bind (fun u2 hu2 => ?_)
    refine K_callVI (As := [.int 2]) (k_X12_drop fu hE ha0 hu2) dX12_popLong_39 v_X12_235 ha0 rfl rfl rfl rfl (Nat.le_of_ble_eq_true rfl) ⟨Nat.le_of_ble_eq_true rfl, Nat.le_of_ble_eq_true rfl, Nat.le_of_ble_eq_true rfl, Nat.le_of_ble_eq_true rfl⟩ ?_
    refine K_pop dX12_popLong_42 rfl ?_
    exact K_vret dX12_popLong_43 hQ rfl (Nat.le_of_ble_eq_true rfl) (Nat.le_of_ble_eq_true rfl)
  · refine K_aload_n dX12_popLong_8 rfl rfl ?_
    refine K_aload_n dX12_popLong_9 rfl rfl ?_
    refine K_iconst (v := 0) dX12_popLong_10 (by decide) ?_
    refine K_bind (fun u3 hu3 => ?_)
    refine K_callVI (As := [.int 0]) (k_X12_top fu hE ha0 hu3) dX12_popLong_11 v_X12_228 ha0 rfl rfl rfl rfl (Nat.le_of_ble_eq_true rfl) ⟨Nat.le_of_ble_eq_true rfl, Nat.le_of_ble_eq_true rfl, Nat.le_of_ble_eq_true rfl, Nat.le_of_ble_eq_true rfl⟩ ?_
    refine K_bipush (v := (-3)) dX12_popLong_14 (by decide) ?_
    refine K_icmp_ne (tgt := 33) dX12_popLong_16 (by decide) (fun c12 => ?_) (fun c12 => ?_)
    · refine K_iconst (v := 0) dX12_popLong_33 (by decide) ?_
      refine K_bind (fun u4 hu4 => ?_)
      refine K_callVV (As := [.int 0]) (k_X12_require fu hE ha0 hu4) dX12_popLong_34 v_X12_231 ha0 rfl rfl rfl rfl (Nat.le_of_ble_eq_true rfl) ⟨Nat.le_of_ble_eq_true rfl, Nat.le_of_ble_eq_true rfl, Nat.le_of_ble_eq_true rfl, Nat.le_of_ble_eq_true rfl⟩ ?_
      refine K_aload_n dX12_popLong_37 rfl rfl ?_
      refine K_iconst (v := 2) dX12_popLong_38 (by decide) ?_
      refine K_bind (fun u5 hu5 => ?_)
      refine K_callVI (As := [.int 2]) (k_X12_drop fu hE ha0 hu5) dX12_popLong_39 v_X12_235 ha0 rfl rfl rfl rfl (Nat.le_of_ble_eq_true rfl) ⟨Nat.le_of_ble_eq_true rfl, Nat.le_of_ble_eq_true rfl, Nat.le_of_ble_eq_true rfl, Nat.le_of_ble_eq_true rfl⟩ ?_
      refine K_pop dX12_popLong_42 rfl ?_
      exact K_vret dX12_popLong_43 hQ rfl (Nat.le_of_ble_eq_true rfl) (Nat.le_of_ble_eq_true rfl)
    · refine K_aload_n dX12_popLong_19 rfl rfl ?_
      refine K_iconst (v := 1) dX12_popLong_20 (by decide) ?_
      refine K_bind (fun u6 hu6 => ?_)
      refine K_callVI (As := [.int 1]) (k_X12_top fu hE ha0 hu6) dX12_popLong_21 v_X12_228 ha0 rfl rfl rfl rfl (Nat.le_of_ble_eq_true rfl) ⟨Nat.le_of_ble_eq_true rfl, Nat.le_of_ble_eq_true rfl, Nat.le_of_ble_eq_true rfl, Nat.le_of_ble_eq_true rfl⟩ ?_
      refine K_bipush (v := 8) dX12_popLong_24 (by decide) ?_
      refine K_icmp_ne (tgt := 33) dX12_popLong_26 (by decide) (fun c11 => ?_) (fun c11 => ?_)
      · refine K_iconst (v := 0) dX12_popLong_33 (by decide) ?_
        refine K_bind (fun u7 hu7 => ?_)
        refine K_callVV (As := [.int 0]) (k_X12_require fu hE ha0 hu7) dX12_popLong_34 v_X12_231 ha0 rfl rfl rfl rfl (Nat.le_of_ble_eq_true rfl) ⟨Nat.le_of_ble_eq_true rfl, Nat.le_of_ble_eq_true rfl, Nat.le_of_ble_eq_true rfl, Nat.le_of_ble_eq_true rfl⟩ ?_
        refine K_aload_n dX12_popLong_37 rfl rfl ?_
        refine K_iconst (v := 2) dX12_popLong_38 (by decide) ?_
        refine K_bind (fun u8 hu8 => ?_)
        refine K_callVI (As := [.int 2]) (k_X12_drop fu hE ha0 hu8) dX12_popLong_39 v_X12_235 ha0 rfl rfl rfl rfl (Nat.le_of_ble_eq_true rfl) ⟨Nat.le_of_ble_eq_true rfl, Nat.le_of_ble_eq_true rfl, Nat.le_of_ble_eq_true rfl, Nat.le_of_ble_eq_true rfl⟩ ?_
        refine K_pop dX12_popLong_42 rfl ?_
        exact K_vret dX12_popLong_43 hQ rfl (Nat.le_of_ble_eq_true rfl) (Nat.le_of_ble_eq_true rfl)
      · refine K_iconst (v := 1) dX12_popLong_29 (by decide) ?_
        refine K_goto (tgt := 34) dX12_popLong_30 (by decide) ?_
        refine K_bind (fun u9 hu9 => ?_)
        refine K_callVV (As := [.int 1]) (k_X12_require fu hE ha0 hu9) dX12_popLong_34 v_X12_231 ha0 rfl rfl rfl rfl (Nat.le_of_ble_eq_true rfl) ⟨Nat.le_of_ble_eq_true rfl, Nat.le_of_ble_eq_true rfl, Nat.le_of_ble_eq_true rfl, Nat.le_of_ble_eq_true rfl⟩ ?_
        refine K_aload_n dX12_popLong_37 rfl rfl ?_
        refine K_iconst (v := 2) dX12_popLong_38 (by decide) ?_
        refine K_bind (fun u10 hu10 => ?_)
        refine K_callVI (As := [.int 2]) (k_X12_drop fu hE ha0 hu10) dX12_popLong_39 v_X12_235 ha0 rfl rfl rfl rfl (Nat.le_of_ble_eq_true rfl) ⟨Nat.le_of_ble_eq_true rfl, Nat.le_of_ble_eq_true rfl, Nat.le_of_ble_eq_true rfl, Nat.le_of_ble_eq_true rfl⟩ ?_
        refine K_pop dX12_popLong_42 rfl ?_
        exact K_vret dX12_popLong_43 hQ rfl (Nat.le_of_ble_eq_true rfl) (Nat.le_of_ble_eq_true rfl)
def sp_X12_popReference (fu : Nat) (E : Ev) (S : St) (a0 : Nat) : Option (Int32 × St) :=
  (sp_X12_has fu E S a0 1).bind fun u1 =>
  if u1.1 = 0 then (
    (sp_X12_drop fu E u1.2 a0 1).bind fun u2 =>
    some (u2.1, u2.2)
  ) else (
    (sp_X12_top fu E u1.2 a0 0).bind fun u3 =>
    (sp_X12_isReference fu E u3.2 a0 u3.1).bind fun u4 =>
    (sp_X12_require fu E u4.2 a0 u4.1).bind fun u5 =>
    (sp_X12_drop fu E u5 a0 1).bind fun u6 =>
    some (u6.1, u6.2)
  )
set_option maxRecDepth 100000 in
theorem k_X12_popReference {l : Launch} (fu : Nat) {E : Ev} (hE : WE E) {a0 : Nat} (ha0 : E.1 a0 = some (0, 10, 0)) {S : St} {t : (Int32 × St)} (h : sp_X12_popReference fu E S a0 = some t) : Cn l mX12_popReference [.ref a0] (hp E S) (PoI E t) := by
  refine Cn.of (by decide) rfl (Nat.le_of_ble_eq_true rfl) (fun X _ _ hQ => ?_)
  refine (?_ : K mX12_popReference X E 0 [(0, .ref a0)] [] S 0 0 (sp_X12_popReference fu E S a0) t) h
  unfold sp_X12_popReference
  refine K_aload_n dX12_popReference_0 rfl rfl ?_
  refine K_iconst (v := 1) dX12_popReference_1 (by decide) ?_
  refine K_bind (fun u1 hu1 => ?_)
  refine K_callVI (As := [.int 1]) (k_X12_has fu hE ha0 hu1) dX12_popReference_2 v_X12_225 ha0 rfl rfl rfl rfl (Nat.le_of_ble_eq_true rfl) ⟨Nat.le_of_ble_eq_true rfl, Nat.le_of_ble_eq_true rfl, Nat.le_of_ble_eq_true rfl, Nat.le_of_ble_eq_true rfl⟩ ?_
  refine K_if_eq (tgt := 21) dX12_popReference_5 (by decide) (fun c7 => ?_) (fun c7 => ?_)
  · refine K_aload_n dX12_popReference_21 rfl rfl ?_
    refine K_iconst (v := 1) dX12_popReference_22 (by decide) ?_
    refine K_bind (fun u2 hu2 => ?_)
    refine K_callVI (As := [.int 1]) (k_X12_drop fu hE ha0 hu2) dX12_popReference_23 v_X12_235 ha0 rfl rfl rfl rfl (Nat.le_of_ble_eq_true rfl) ⟨Nat.le_of_ble_eq_true rfl, Nat.le_of_ble_eq_true rfl, Nat.le_of_ble_eq_true rfl, Nat.le_of_ble_eq_true rfl⟩ ?_
    exact K_iret dX12_popReference_26 hQ rfl (Nat.le_of_ble_eq_true rfl) (Nat.le_of_ble_eq_true rfl)
  · refine K_aload_n dX12_popReference_8 rfl rfl ?_
    refine K_aload_n dX12_popReference_9 rfl rfl ?_
    refine K_aload_n dX12_popReference_10 rfl rfl ?_
    refine K_iconst (v := 0) dX12_popReference_11 (by decide) ?_
    refine K_bind (fun u3 hu3 => ?_)
    refine K_callVI (As := [.int 0]) (k_X12_top fu hE ha0 hu3) dX12_popReference_12 v_X12_228 ha0 rfl rfl rfl rfl (Nat.le_of_ble_eq_true rfl) ⟨Nat.le_of_ble_eq_true rfl, Nat.le_of_ble_eq_true rfl, Nat.le_of_ble_eq_true rfl, Nat.le_of_ble_eq_true rfl⟩ ?_
    refine K_bind (fun u4 hu4 => ?_)
    refine K_callVI (As := [.int u3.1]) (k_X12_isReference fu hE ha0 hu4) dX12_popReference_15 v_X12_103 ha0 rfl rfl rfl rfl (Nat.le_of_ble_eq_true rfl) ⟨Nat.le_of_ble_eq_true rfl, Nat.le_of_ble_eq_true rfl, Nat.le_of_ble_eq_true rfl, Nat.le_of_ble_eq_true rfl⟩ ?_
    refine K_bind (fun u5 hu5 => ?_)
    refine K_callVV (As := [.int u4.1]) (k_X12_require fu hE ha0 hu5) dX12_popReference_18 v_X12_231 ha0 rfl rfl rfl rfl (Nat.le_of_ble_eq_true rfl) ⟨Nat.le_of_ble_eq_true rfl, Nat.le_of_ble_eq_true rfl, Nat.le_of_ble_eq_true rfl, Nat.le_of_ble_eq_true rfl⟩ ?_
    refine K_aload_n dX12_popReference_21 rfl rfl ?_
    refine K_iconst (v := 1) dX12_popReference_22 (by decide) ?_
    refine K_bind (fun u6 hu6 => ?_)
    refine K_callVI (As := [.int 1]) (k_X12_drop fu hE ha0 hu6) dX12_popReference_23 v_X12_235 ha0 rfl rfl rfl rfl (Nat.le_of_ble_eq_true rfl) ⟨Nat.le_of_ble_eq_true rfl, Nat.le_of_ble_eq_true rfl, Nat.le_of_ble_eq_true rfl, Nat.le_of_ble_eq_true rfl⟩ ?_
    exact K_iret dX12_popReference_26 hQ rfl (Nat.le_of_ble_eq_true rfl) (Nat.le_of_ble_eq_true rfl)
def sp_X12_popAnyReference (fu : Nat) (E : Ev) (S : St) (a0 : Nat) : Option (Int32 × St) :=
  (sp_X12_has fu E S a0 1).bind fun u1 =>
  if u1.1 = 0 then (
    (sp_X12_drop fu E u1.2 a0 1).bind fun u2 =>
    some (u2.1, u2.2)
  ) else (
    (sp_X12_top fu E u1.2 a0 0).bind fun u3 =>
    (sp_X12_isAnyReference fu E u3.2 a0 u3.1).bind fun u4 =>
    (sp_X12_require fu E u4.2 a0 u4.1).bind fun u5 =>
    (sp_X12_drop fu E u5 a0 1).bind fun u6 =>
    some (u6.1, u6.2)
  )
set_option maxRecDepth 100000 in
theorem k_X12_popAnyReference {l : Launch} (fu : Nat) {E : Ev} (hE : WE E) {a0 : Nat} (ha0 : E.1 a0 = some (0, 10, 0)) {S : St} {t : (Int32 × St)} (h : sp_X12_popAnyReference fu E S a0 = some t) : Cn l mX12_popAnyReference [.ref a0] (hp E S) (PoI E t) := by
  refine Cn.of (by decide) rfl (Nat.le_of_ble_eq_true rfl) (fun X _ _ hQ => ?_)
  refine (?_ : K mX12_popAnyReference X E 0 [(0, .ref a0)] [] S 0 0 (sp_X12_popAnyReference fu E S a0) t) h
  unfold sp_X12_popAnyReference
  refine K_aload_n dX12_popAnyReference_0 rfl rfl ?_
  refine K_iconst (v := 1) dX12_popAnyReference_1 (by decide) ?_
  refine K_bind (fun u1 hu1 => ?_)
  refine K_callVI (As := [.int 1]) (k_X12_has fu hE ha0 hu1) dX12_popAnyReference_2 v_X12_225 ha0 rfl rfl rfl rfl (Nat.le_of_ble_eq_true rfl) ⟨Nat.le_of_ble_eq_true rfl, Nat.le_of_ble_eq_true rfl, Nat.le_of_ble_eq_true rfl, Nat.le_of_ble_eq_true rfl⟩ ?_
  refine K_if_eq (tgt := 21) dX12_popAnyReference_5 (by decide) (fun c7 => ?_) (fun c7 => ?_)
  · refine K_aload_n dX12_popAnyReference_21 rfl rfl ?_
    refine K_iconst (v := 1) dX12_popAnyReference_22 (by decide) ?_
    refine K_bind (fun u2 hu2 => ?_)
    refine K_callVI (As := [.int 1]) (k_X12_drop fu hE ha0 hu2) dX12_popAnyReference_23 v_X12_235 ha0 rfl rfl rfl rfl (Nat.le_of_ble_eq_true rfl) ⟨Nat.le_of_ble_eq_true rfl, Nat.le_of_ble_eq_true rfl, Nat.le_of_ble_eq_true rfl, Nat.le_of_ble_eq_true rfl⟩ ?_
    exact K_iret dX12_popAnyReference_26 hQ rfl (Nat.le_of_ble_eq_true rfl) (Nat.le_of_ble_eq_true rfl)
  · refine K_aload_n dX12_popAnyReference_8 rfl rfl ?_
    refine K_aload_n dX12_popAnyReference_9 rfl rfl ?_
    refine K_aload_n dX12_popAnyReference_10 rfl rfl ?_
    refine K_iconst (v := 0) dX12_popAnyReference_11 (by decide) ?_
    refine K_bind (fun u3 hu3 => ?_)
    refine K_callVI (As := [.int 0]) (k_X12_top fu hE ha0 hu3) dX12_popAnyReference_12 v_X12_228 ha0 rfl rfl rfl rfl (Nat.le_of_ble_eq_true rfl) ⟨Nat.le_of_ble_eq_true rfl, Nat.le_of_ble_eq_true rfl, Nat.le_of_ble_eq_true rfl, Nat.le_of_ble_eq_true rfl⟩ ?_
    refine K_bind (fun u4 hu4 => ?_)
    refine K_callVI (As := [.int u3.1]) (k_X12_isAnyReference fu hE ha0 hu4) dX12_popAnyReference_15 v_X12_238 ha0 rfl rfl rfl rfl (Nat.le_of_ble_eq_true rfl) ⟨Nat.le_of_ble_eq_true rfl, Nat.le_of_ble_eq_true rfl, Nat.le_of_ble_eq_true rfl, Nat.le_of_ble_eq_true rfl⟩ ?_
    refine K_bind (fun u5 hu5 => ?_)
    refine K_callVV (As := [.int u4.1]) (k_X12_require fu hE ha0 hu5) dX12_popAnyReference_18 v_X12_231 ha0 rfl rfl rfl rfl (Nat.le_of_ble_eq_true rfl) ⟨Nat.le_of_ble_eq_true rfl, Nat.le_of_ble_eq_true rfl, Nat.le_of_ble_eq_true rfl, Nat.le_of_ble_eq_true rfl⟩ ?_
    refine K_aload_n dX12_popAnyReference_21 rfl rfl ?_
    refine K_iconst (v := 1) dX12_popAnyReference_22 (by decide) ?_
    refine K_bind (fun u6 hu6 => ?_)
    refine K_callVI (As := [.int 1]) (k_X12_drop fu hE ha0 hu6) dX12_popAnyReference_23 v_X12_235 ha0 rfl rfl rfl rfl (Nat.le_of_ble_eq_true rfl) ⟨Nat.le_of_ble_eq_true rfl, Nat.le_of_ble_eq_true rfl, Nat.le_of_ble_eq_true rfl, Nat.le_of_ble_eq_true rfl⟩ ?_
    exact K_iret dX12_popAnyReference_26 hQ rfl (Nat.le_of_ble_eq_true rfl) (Nat.le_of_ble_eq_true rfl)
def sp_X12_popSlot (fu : Nat) (E : Ev) (S : St) (a0 : Nat) : Option (Int32 × St) :=
  (sp_X12_has fu E S a0 1).bind fun u1 =>
  if u1.1 = 0 then (
    (sp_X12_drop fu E u1.2 a0 1).bind fun u2 =>
    some (u2.1, u2.2)
  ) else (
    (sp_X12_top fu E u1.2 a0 0).bind fun u3 =>
    if u3.1 = (-3) then (
      (sp_X12_require fu E u3.2 a0 0).bind fun u4 =>
      (sp_X12_drop fu E u4 a0 1).bind fun u5 =>
      some (u5.1, u5.2)
    ) else (
      (sp_X12_top fu E u3.2 a0 0).bind fun u6 =>
      if u6.1 = 8 then (
        (sp_X12_require fu E u6.2 a0 0).bind fun u7 =>
        (sp_X12_drop fu E u7 a0 1).bind fun u8 =>
        some (u8.1, u8.2)
      ) else (
        (sp_X12_require fu E u6.2 a0 1).bind fun u9 =>
        (sp_X12_drop fu E u9 a0 1).bind fun u10 =>
        some (u10.1, u10.2)
      )
    )
  )
set_option maxRecDepth 100000 in
theorem k_X12_popSlot {l : Launch} (fu : Nat) {E : Ev} (hE : WE E) {a0 : Nat} (ha0 : E.1 a0 = some (0, 10, 0)) {S : St} {t : (Int32 × St)} (h : sp_X12_popSlot fu E S a0 = some t) : Cn l mX12_popSlot [.ref a0] (hp E S) (PoI E t) := by
  refine Cn.of (by decide) rfl (Nat.le_of_ble_eq_true rfl) (fun X _ _ hQ => ?_)
  refine (?_ : K mX12_popSlot X E 0 [(0, .ref a0)] [] S 0 0 (sp_X12_popSlot fu E S a0) t) h
  unfold sp_X12_popSlot
  refine K_aload_n dX12_popSlot_0 rfl rfl ?_
  refine K_iconst (v := 1) dX12_popSlot_1 (by decide) ?_
  refine K_bind (fun u1 hu1 => ?_)
  refine K_callVI (As := [.int 1]) (k_X12_has fu hE ha0 hu1) dX12_popSlot_2 v_X12_225 ha0 rfl rfl rfl rfl (Nat.le_of_ble_eq_true rfl) ⟨Nat.le_of_ble_eq_true rfl, Nat.le_of_ble_eq_true rfl, Nat.le_of_ble_eq_true rfl, Nat.le_of_ble_eq_true rfl⟩ ?_
  refine K_if_eq (tgt := 37) dX12_popSlot_5 (by decide) (fun c13 => ?_) (fun c13 => ?_)
  · refine K_aload_n dX12_popSlot_37 rfl rfl ?_
    refine K_iconst (v := 1) dX12_popSlot_38 (by decide) ?_
    refine K_bind (fun u2 hu2 => ?_)
    refine K_callVI (As := [.int 1]) (k_X12_drop fu hE ha0 hu2) dX12_popSlot_39 v_X12_235 ha0 rfl rfl rfl rfl (Nat.le_of_ble_eq_true rfl) ⟨Nat.le_of_ble_eq_true rfl, Nat.le_of_ble_eq_true rfl, Nat.le_of_ble_eq_true rfl, Nat.le_of_ble_eq_true rfl⟩ ?_
    exact K_iret dX12_popSlot_42 hQ rfl (Nat.le_of_ble_eq_true rfl) (Nat.le_of_ble_eq_true rfl)
  · refine K_aload_n dX12_popSlot_8 rfl rfl ?_
    refine K_aload_n dX12_popSlot_9 rfl rfl ?_
    refine K_iconst (v := 0) dX12_popSlot_10 (by decide) ?_
    refine K_bind (fun u3 hu3 => ?_)
    refine K_callVI (As := [.int 0]) (k_X12_top fu hE ha0 hu3) dX12_popSlot_11 v_X12_228 ha0 rfl rfl rfl rfl (Nat.le_of_ble_eq_true rfl) ⟨Nat.le_of_ble_eq_true rfl, Nat.le_of_ble_eq_true rfl, Nat.le_of_ble_eq_true rfl, Nat.le_of_ble_eq_true rfl⟩ ?_
    refine K_bipush (v := (-3)) dX12_popSlot_14 (by decide) ?_
    refine K_icmp_eq (tgt := 33) dX12_popSlot_16 (by decide) (fun c12 => ?_) (fun c12 => ?_)
    · refine K_iconst (v := 0) dX12_popSlot_33 (by decide) ?_
      refine K_bind (fun u4 hu4 => ?_)
      refine K_callVV (As := [.int 0]) (k_X12_require fu hE ha0 hu4) dX12_popSlot_34 v_X12_231 ha0 rfl rfl rfl rfl (Nat.le_of_ble_eq_true rfl) ⟨Nat.le_of_ble_eq_true rfl, Nat.le_of_ble_eq_true rfl, Nat.le_of_ble_eq_true rfl, Nat.le_of_ble_eq_true rfl⟩ ?_
      refine K_aload_n dX12_popSlot_37 rfl rfl ?_
      refine K_iconst (v := 1) dX12_popSlot_38 (by decide) ?_
      refine K_bind (fun u5 hu5 => ?_)
      refine K_callVI (As := [.int 1]) (k_X12_drop fu hE ha0 hu5) dX12_popSlot_39 v_X12_235 ha0 rfl rfl rfl rfl (Nat.le_of_ble_eq_true rfl) ⟨Nat.le_of_ble_eq_true rfl, Nat.le_of_ble_eq_true rfl, Nat.le_of_ble_eq_true rfl, Nat.le_of_ble_eq_true rfl⟩ ?_
      exact K_iret dX12_popSlot_42 hQ rfl (Nat.le_of_ble_eq_true rfl) (Nat.le_of_ble_eq_true rfl)
    · refine K_aload_n dX12_popSlot_19 rfl rfl ?_
      refine K_iconst (v := 0) dX12_popSlot_20 (by decide) ?_
      refine K_bind (fun u6 hu6 => ?_)
      refine K_callVI (As := [.int 0]) (k_X12_top fu hE ha0 hu6) dX12_popSlot_21 v_X12_228 ha0 rfl rfl rfl rfl (Nat.le_of_ble_eq_true rfl) ⟨Nat.le_of_ble_eq_true rfl, Nat.le_of_ble_eq_true rfl, Nat.le_of_ble_eq_true rfl, Nat.le_of_ble_eq_true rfl⟩ ?_
      refine K_bipush (v := 8) dX12_popSlot_24 (by decide) ?_
      refine K_icmp_eq (tgt := 33) dX12_popSlot_26 (by decide) (fun c11 => ?_) (fun c11 => ?_)
      · refine K_iconst (v := 0) dX12_popSlot_33 (by decide) ?_
        refine K_bind (fun u7 hu7 => ?_)
        refine K_callVV (As := [.int 0]) (k_X12_require fu hE ha0 hu7) dX12_popSlot_34 v_X12_231 ha0 rfl rfl rfl rfl (Nat.le_of_ble_eq_true rfl) ⟨Nat.le_of_ble_eq_true rfl, Nat.le_of_ble_eq_true rfl, Nat.le_of_ble_eq_true rfl, Nat.le_of_ble_eq_true rfl⟩ ?_
        refine K_aload_n dX12_popSlot_37 rfl rfl ?_
        refine K_iconst (v := 1) dX12_popSlot_38 (by decide) ?_
        refine K_bind (fun u8 hu8 => ?_)
        refine K_callVI (As := [.int 1]) (k_X12_drop fu hE ha0 hu8) dX12_popSlot_39 v_X12_235 ha0 rfl rfl rfl rfl (Nat.le_of_ble_eq_true rfl) ⟨Nat.le_of_ble_eq_true rfl, Nat.le_of_ble_eq_true rfl, Nat.le_of_ble_eq_true rfl, Nat.le_of_ble_eq_true rfl⟩ ?_
        exact K_iret dX12_popSlot_42 hQ rfl (Nat.le_of_ble_eq_true rfl) (Nat.le_of_ble_eq_true rfl)
      · refine K_iconst (v := 1) dX12_popSlot_29 (by decide) ?_
        refine K_goto (tgt := 34) dX12_popSlot_30 (by decide) ?_
        refine K_bind (fun u9 hu9 => ?_)
        refine K_callVV (As := [.int 1]) (k_X12_require fu hE ha0 hu9) dX12_popSlot_34 v_X12_231 ha0 rfl rfl rfl rfl (Nat.le_of_ble_eq_true rfl) ⟨Nat.le_of_ble_eq_true rfl, Nat.le_of_ble_eq_true rfl, Nat.le_of_ble_eq_true rfl, Nat.le_of_ble_eq_true rfl⟩ ?_
        refine K_aload_n dX12_popSlot_37 rfl rfl ?_
        refine K_iconst (v := 1) dX12_popSlot_38 (by decide) ?_
        refine K_bind (fun u10 hu10 => ?_)
        refine K_callVI (As := [.int 1]) (k_X12_drop fu hE ha0 hu10) dX12_popSlot_39 v_X12_235 ha0 rfl rfl rfl rfl (Nat.le_of_ble_eq_true rfl) ⟨Nat.le_of_ble_eq_true rfl, Nat.le_of_ble_eq_true rfl, Nat.le_of_ble_eq_true rfl, Nat.le_of_ble_eq_true rfl⟩ ?_
        exact K_iret dX12_popSlot_42 hQ rfl (Nat.le_of_ble_eq_true rfl) (Nat.le_of_ble_eq_true rfl)
def sp_X12_popType (fu : Nat) (E : Ev) (S : St) (a0 : Nat) (x1 : Int32) : Option St :=
  if x1 = 8 then (
    (sp_X12_popLong fu E S a0).bind fun u15 =>
    some u15
  ) else (
    (sp_X12_has fu E S a0 1).bind fun u1 =>
    if u1.1 = 0 then (
      (sp_X12_drop fu E u1.2 a0 1).bind fun u2 =>
      some u2.2
    ) else (
      if x1 = 0 then (
        (sp_X12_top fu E u1.2 a0 0).bind fun u7 =>
        if u7.1 = 0 then (
          (sp_X12_require fu E u7.2 a0 1).bind fun u10 =>
          (sp_X12_drop fu E u10 a0 1).bind fun u11 =>
          some u11.2
        ) else (
          (sp_X12_require fu E u7.2 a0 0).bind fun u8 =>
          (sp_X12_drop fu E u8 a0 1).bind fun u9 =>
          some u9.2
        )
      ) else (
        (sp_X12_top fu E u1.2 a0 0).bind fun u3 =>
        (sp_X12_fits fu E u3.2 a0 u3.1 x1).bind fun u4 =>
        (sp_X12_require fu E u4.2 a0 u4.1).bind fun u5 =>
        (sp_X12_drop fu E u5 a0 1).bind fun u6 =>
        some u6.2
      )
    )
  )
set_option maxRecDepth 100000 in
theorem k_X12_popType {l : Launch} (fu : Nat) {E : Ev} (hE : WE E) {a0 : Nat} (ha0 : E.1 a0 = some (0, 10, 0)) {x1 : Int32} {S : St} {t : St} (h : sp_X12_popType fu E S a0 x1 = some t) : Cn l mX12_popType [.ref a0, .int x1] (hp E S) (PoV E t) := by
  refine Cn.of (by decide) rfl (Nat.le_of_ble_eq_true rfl) (fun X _ _ hQ => ?_)
  refine (?_ : K mX12_popType X E 0 [(0, .ref a0), (1, .int x1)] [] S 0 0 (sp_X12_popType fu E S a0 x1) t) h
  unfold sp_X12_popType
  refine K_iload_n dX12_popType_0 rfl rfl ?_
  refine K_bipush (v := 8) dX12_popType_1 (by decide) ?_
  refine K_icmp_ne (tgt := 13) dX12_popType_3 (by decide) (fun c16 => ?_) (fun c16 => ?_)
  · refine K_aload_n dX12_popType_13 rfl rfl ?_
    refine K_iconst (v := 1) dX12_popType_14 (by decide) ?_
    refine K_bind (fun u1 hu1 => ?_)
    refine K_callVI (As := [.int 1]) (k_X12_has fu hE ha0 hu1) dX12_popType_15 v_X12_225 ha0 rfl rfl rfl rfl (Nat.le_of_ble_eq_true rfl) ⟨Nat.le_of_ble_eq_true rfl, Nat.le_of_ble_eq_true rfl, Nat.le_of_ble_eq_true rfl, Nat.le_of_ble_eq_true rfl⟩ ?_
    refine K_if_eq (tgt := 55) dX12_popType_18 (by decide) (fun c14 => ?_) (fun c14 => ?_)
    · refine K_aload_n dX12_popType_55 rfl rfl ?_
      refine K_iconst (v := 1) dX12_popType_56 (by decide) ?_
      refine K_bind (fun u2 hu2 => ?_)
      refine K_callVI (As := [.int 1]) (k_X12_drop fu hE ha0 hu2) dX12_popType_57 v_X12_235 ha0 rfl rfl rfl rfl (Nat.le_of_ble_eq_true rfl) ⟨Nat.le_of_ble_eq_true rfl, Nat.le_of_ble_eq_true rfl, Nat.le_of_ble_eq_true rfl, Nat.le_of_ble_eq_true rfl⟩ ?_
      refine K_pop dX12_popType_60 rfl ?_
      exact K_vret dX12_popType_61 hQ rfl (Nat.le_of_ble_eq_true rfl) (Nat.le_of_ble_eq_true rfl)
    · refine K_aload_n dX12_popType_21 rfl rfl ?_
      refine K_iload_n dX12_popType_22 rfl rfl ?_
      refine K_if_ne (tgt := 42) dX12_popType_23 (by decide) (fun c13 => ?_) (fun c13 => ?_)
      · refine K_aload_n dX12_popType_42 rfl rfl ?_
        refine K_aload_n dX12_popType_43 rfl rfl ?_
        refine K_iconst (v := 0) dX12_popType_44 (by decide) ?_
        refine K_bind (fun u3 hu3 => ?_)
        refine K_callVI (As := [.int 0]) (k_X12_top fu hE ha0 hu3) dX12_popType_45 v_X12_228 ha0 rfl rfl rfl rfl (Nat.le_of_ble_eq_true rfl) ⟨Nat.le_of_ble_eq_true rfl, Nat.le_of_ble_eq_true rfl, Nat.le_of_ble_eq_true rfl, Nat.le_of_ble_eq_true rfl⟩ ?_
        refine K_iload_n dX12_popType_48 rfl rfl ?_
        refine K_bind (fun u4 hu4 => ?_)
        refine K_callVI (As := [.int u3.1, .int x1]) (k_X12_fits fu hE ha0 hu4) dX12_popType_49 v_X12_130 ha0 rfl rfl rfl rfl (Nat.le_of_ble_eq_true rfl) ⟨Nat.le_of_ble_eq_true rfl, Nat.le_of_ble_eq_true rfl, Nat.le_of_ble_eq_true rfl, Nat.le_of_ble_eq_true rfl⟩ ?_
        refine K_bind (fun u5 hu5 => ?_)
        refine K_callVV (As := [.int u4.1]) (k_X12_require fu hE ha0 hu5) dX12_popType_52 v_X12_231 ha0 rfl rfl rfl rfl (Nat.le_of_ble_eq_true rfl) ⟨Nat.le_of_ble_eq_true rfl, Nat.le_of_ble_eq_true rfl, Nat.le_of_ble_eq_true rfl, Nat.le_of_ble_eq_true rfl⟩ ?_
        refine K_aload_n dX12_popType_55 rfl rfl ?_
        refine K_iconst (v := 1) dX12_popType_56 (by decide) ?_
        refine K_bind (fun u6 hu6 => ?_)
        refine K_callVI (As := [.int 1]) (k_X12_drop fu hE ha0 hu6) dX12_popType_57 v_X12_235 ha0 rfl rfl rfl rfl (Nat.le_of_ble_eq_true rfl) ⟨Nat.le_of_ble_eq_true rfl, Nat.le_of_ble_eq_true rfl, Nat.le_of_ble_eq_true rfl, Nat.le_of_ble_eq_true rfl⟩ ?_
        refine K_pop dX12_popType_60 rfl ?_
        exact K_vret dX12_popType_61 hQ rfl (Nat.le_of_ble_eq_true rfl) (Nat.le_of_ble_eq_true rfl)
      · refine K_aload_n dX12_popType_26 rfl rfl ?_
        refine K_iconst (v := 0) dX12_popType_27 (by decide) ?_
        refine K_bind (fun u7 hu7 => ?_)
        refine K_callVI (As := [.int 0]) (k_X12_top fu hE ha0 hu7) dX12_popType_28 v_X12_228 ha0 rfl rfl rfl rfl (Nat.le_of_ble_eq_true rfl) ⟨Nat.le_of_ble_eq_true rfl, Nat.le_of_ble_eq_true rfl, Nat.le_of_ble_eq_true rfl, Nat.le_of_ble_eq_true rfl⟩ ?_
        refine K_if_ne (tgt := 38) dX12_popType_31 (by decide) (fun c12 => ?_) (fun c12 => ?_)
        · refine K_iconst (v := 0) dX12_popType_38 (by decide) ?_
          refine K_goto (tgt := 52) dX12_popType_39 (by decide) ?_
          refine K_bind (fun u8 hu8 => ?_)
          refine K_callVV (As := [.int 0]) (k_X12_require fu hE ha0 hu8) dX12_popType_52 v_X12_231 ha0 rfl rfl rfl rfl (Nat.le_of_ble_eq_true rfl) ⟨Nat.le_of_ble_eq_true rfl, Nat.le_of_ble_eq_true rfl, Nat.le_of_ble_eq_true rfl, Nat.le_of_ble_eq_true rfl⟩ ?_
          refine K_aload_n dX12_popType_55 rfl rfl ?_
          refine K_iconst (v := 1) dX12_popType_56 (by decide) ?_
          refine K_bind (fun u9 hu9 => ?_)
          refine K_callVI (As := [.int 1]) (k_X12_drop fu hE ha0 hu9) dX12_popType_57 v_X12_235 ha0 rfl rfl rfl rfl (Nat.le_of_ble_eq_true rfl) ⟨Nat.le_of_ble_eq_true rfl, Nat.le_of_ble_eq_true rfl, Nat.le_of_ble_eq_true rfl, Nat.le_of_ble_eq_true rfl⟩ ?_
          refine K_pop dX12_popType_60 rfl ?_
          exact K_vret dX12_popType_61 hQ rfl (Nat.le_of_ble_eq_true rfl) (Nat.le_of_ble_eq_true rfl)
        · refine K_iconst (v := 1) dX12_popType_34 (by decide) ?_
          refine K_goto (tgt := 52) dX12_popType_35 (by decide) ?_
          refine K_bind (fun u10 hu10 => ?_)
          refine K_callVV (As := [.int 1]) (k_X12_require fu hE ha0 hu10) dX12_popType_52 v_X12_231 ha0 rfl rfl rfl rfl (Nat.le_of_ble_eq_true rfl) ⟨Nat.le_of_ble_eq_true rfl, Nat.le_of_ble_eq_true rfl, Nat.le_of_ble_eq_true rfl, Nat.le_of_ble_eq_true rfl⟩ ?_
          refine K_aload_n dX12_popType_55 rfl rfl ?_
          refine K_iconst (v := 1) dX12_popType_56 (by decide) ?_
          refine K_bind (fun u11 hu11 => ?_)
          refine K_callVI (As := [.int 1]) (k_X12_drop fu hE ha0 hu11) dX12_popType_57 v_X12_235 ha0 rfl rfl rfl rfl (Nat.le_of_ble_eq_true rfl) ⟨Nat.le_of_ble_eq_true rfl, Nat.le_of_ble_eq_true rfl, Nat.le_of_ble_eq_true rfl, Nat.le_of_ble_eq_true rfl⟩ ?_
          refine K_pop dX12_popType_60 rfl ?_
          exact K_vret dX12_popType_61 hQ rfl (Nat.le_of_ble_eq_true rfl) (Nat.le_of_ble_eq_true rfl)
  · refine K_aload_n dX12_popType_6 rfl rfl ?_
    refine K_bind (fun u15 hu15 => ?_)
    refine K_callVV (As := []) (k_X12_popLong fu hE ha0 hu15) dX12_popType_7 v_X12_241 ha0 rfl rfl rfl rfl (Nat.le_of_ble_eq_true rfl) ⟨Nat.le_of_ble_eq_true rfl, Nat.le_of_ble_eq_true rfl, Nat.le_of_ble_eq_true rfl, Nat.le_of_ble_eq_true rfl⟩ ?_
    refine K_goto (tgt := 61) dX12_popType_10 (by decide) ?_
    exact K_vret dX12_popType_61 hQ rfl (Nat.le_of_ble_eq_true rfl) (Nat.le_of_ble_eq_true rfl)
def sp_X12_popObject (fu : Nat) (E : Ev) (S : St) (a0 : Nat) (x1 : Int32) : Option St :=
  (sp_X12_popType fu E S a0 (8 * x1)).bind fun u1 =>
  some u1
set_option maxRecDepth 100000 in
theorem k_X12_popObject {l : Launch} (fu : Nat) {E : Ev} (hE : WE E) {a0 : Nat} (ha0 : E.1 a0 = some (0, 10, 0)) {x1 : Int32} {S : St} {t : St} (h : sp_X12_popObject fu E S a0 x1 = some t) : Cn l mX12_popObject [.ref a0, .int x1] (hp E S) (PoV E t) := by
  refine Cn.of (by decide) rfl (Nat.le_of_ble_eq_true rfl) (fun X _ _ hQ => ?_)
  refine (?_ : K mX12_popObject X E 0 [(0, .ref a0), (1, .int x1)] [] S 0 0 (sp_X12_popObject fu E S a0 x1) t) h
  unfold sp_X12_popObject
  refine K_aload_n dX12_popObject_0 rfl rfl ?_
  refine K_bipush (v := 8) dX12_popObject_1 (by decide) ?_
  refine K_iload_n dX12_popObject_3 rfl rfl ?_
  refine K_imul dX12_popObject_4 ?_
  refine K_bind (fun u1 hu1 => ?_)
  refine K_callVV (As := [.int (8 * x1)]) (k_X12_popType fu hE ha0 hu1) dX12_popObject_5 v_X12_244 ha0 rfl rfl rfl rfl (Nat.le_of_ble_eq_true rfl) ⟨Nat.le_of_ble_eq_true rfl, Nat.le_of_ble_eq_true rfl, Nat.le_of_ble_eq_true rfl, Nat.le_of_ble_eq_true rfl⟩ ?_
  exact K_vret dX12_popObject_8 hQ rfl (Nat.le_of_ble_eq_true rfl) (Nat.le_of_ble_eq_true rfl)
def jb_X12_popInts_27 (fu : Nat) (E : Ev) (a0 b0 : Nat) (S : St) : Option St :=
  (sp_X12_require fu E S b0 1).bind fun u4 =>
  (sp_X12_drop fu E u4 a0 1).bind fun u5 =>
  some u5.2
set_option maxRecDepth 100000 in
theorem kj_X12_popInts_27 {X : Cx} {E : Ev} {t : St} {a0 b0 : Nat} (hQ : EndR mX12_popInts X (PoV E t)) (hE : WE E) (fu : Nat) (ha0 : E.1 a0 = some (0, 10, 0)) (hb0 : E.1 b0 = some (0, 10, 0)) (S : St) : K mX12_popInts X E 27 [(0, .ref a0)] [.ref b0] S 0 0 (jb_X12_popInts_27 fu E a0 b0 S) t := by
  unfold jb_X12_popInts_27
  refine K_iconst (v := 1) dX12_popInts_27 (by decide) ?_
  refine K_goto (tgt := 32) dX12_popInts_28 (by decide) ?_
  refine K_bind (fun u4 hu4 => ?_)
  refine K_callVV (As := [.int 1]) (k_X12_require fu hE hb0 hu4) dX12_popInts_32 v_X12_231 hb0 rfl rfl rfl rfl (Nat.le_of_ble_eq_true rfl) ⟨Nat.le_of_ble_eq_true rfl, Nat.le_of_ble_eq_true rfl, Nat.le_of_ble_eq_true rfl, Nat.le_of_ble_eq_true rfl⟩ ?_
  refine K_aload_n dX12_popInts_35 rfl rfl ?_
  refine K_iconst (v := 1) dX12_popInts_36 (by decide) ?_
  refine K_bind (fun u5 hu5 => ?_)
  refine K_callVI (As := [.int 1]) (k_X12_drop fu hE ha0 hu5) dX12_popInts_37 v_X12_235 ha0 rfl rfl rfl rfl (Nat.le_of_ble_eq_true rfl) ⟨Nat.le_of_ble_eq_true rfl, Nat.le_of_ble_eq_true rfl, Nat.le_of_ble_eq_true rfl, Nat.le_of_ble_eq_true rfl⟩ ?_
  refine K_pop dX12_popInts_40 rfl ?_
  exact K_vret dX12_popInts_41 hQ rfl (Nat.le_of_ble_eq_true rfl) (Nat.le_of_ble_eq_true rfl)
def sp_X12_popInts (fu : Nat) (E : Ev) (S : St) (a0 : Nat) : Option St :=
  (sp_X12_has fu E S a0 1).bind fun u1 =>
  if u1.1 = 0 then (
    (sp_X12_drop fu E u1.2 a0 1).bind fun u2 =>
    some u2.2
  ) else (
    (sp_X12_top fu E u1.2 a0 0).bind fun u3 =>
    if u3.1 = 1 then (
      jb_X12_popInts_27 fu E a0 a0 u3.2
    ) else (
      (sp_X12_top fu E u3.2 a0 0).bind fun u6 =>
      if u6.1 = (-1) then (
        jb_X12_popInts_27 fu E a0 a0 u6.2
      ) else (
        (sp_X12_require fu E u6.2 a0 0).bind fun u7 =>
        (sp_X12_drop fu E u7 a0 1).bind fun u8 =>
        some u8.2
      )
    )
  )
set_option maxRecDepth 100000 in
theorem k_X12_popInts {l : Launch} (fu : Nat) {E : Ev} (hE : WE E) {a0 : Nat} (ha0 : E.1 a0 = some (0, 10, 0)) {S : St} {t : St} (h : sp_X12_popInts fu E S a0 = some t) : Cn l mX12_popInts [.ref a0] (hp E S) (PoV E t) := by
  refine Cn.of (by decide) rfl (Nat.le_of_ble_eq_true rfl) (fun X _ _ hQ => ?_)
  refine (?_ : K mX12_popInts X E 0 [(0, .ref a0)] [] S 0 0 (sp_X12_popInts fu E S a0) t) h
  unfold sp_X12_popInts
  refine K_aload_n dX12_popInts_0 rfl rfl ?_
  refine K_iconst (v := 1) dX12_popInts_1 (by decide) ?_
  refine K_bind (fun u1 hu1 => ?_)
  refine K_callVI (As := [.int 1]) (k_X12_has fu hE ha0 hu1) dX12_popInts_2 v_X12_225 ha0 rfl rfl rfl rfl (Nat.le_of_ble_eq_true rfl) ⟨Nat.le_of_ble_eq_true rfl, Nat.le_of_ble_eq_true rfl, Nat.le_of_ble_eq_true rfl, Nat.le_of_ble_eq_true rfl⟩ ?_
  refine K_if_eq (tgt := 35) dX12_popInts_5 (by decide) (fun c11 => ?_) (fun c11 => ?_)
  · refine K_aload_n dX12_popInts_35 rfl rfl ?_
    refine K_iconst (v := 1) dX12_popInts_36 (by decide) ?_
    refine K_bind (fun u2 hu2 => ?_)
    refine K_callVI (As := [.int 1]) (k_X12_drop fu hE ha0 hu2) dX12_popInts_37 v_X12_235 ha0 rfl rfl rfl rfl (Nat.le_of_ble_eq_true rfl) ⟨Nat.le_of_ble_eq_true rfl, Nat.le_of_ble_eq_true rfl, Nat.le_of_ble_eq_true rfl, Nat.le_of_ble_eq_true rfl⟩ ?_
    refine K_pop dX12_popInts_40 rfl ?_
    exact K_vret dX12_popInts_41 hQ rfl (Nat.le_of_ble_eq_true rfl) (Nat.le_of_ble_eq_true rfl)
  · refine K_aload_n dX12_popInts_8 rfl rfl ?_
    refine K_aload_n dX12_popInts_9 rfl rfl ?_
    refine K_iconst (v := 0) dX12_popInts_10 (by decide) ?_
    refine K_bind (fun u3 hu3 => ?_)
    refine K_callVI (As := [.int 0]) (k_X12_top fu hE ha0 hu3) dX12_popInts_11 v_X12_228 ha0 rfl rfl rfl rfl (Nat.le_of_ble_eq_true rfl) ⟨Nat.le_of_ble_eq_true rfl, Nat.le_of_ble_eq_true rfl, Nat.le_of_ble_eq_true rfl, Nat.le_of_ble_eq_true rfl⟩ ?_
    refine K_iconst (v := 1) dX12_popInts_14 (by decide) ?_
    refine K_icmp_eq (tgt := 27) dX12_popInts_15 (by decide) (fun c10 => ?_) (fun c10 => ?_)
    · refine K.keep [0] ?_
      exact kj_X12_popInts_27 hQ hE fu ha0 ha0 u3.2
    · refine K_aload_n dX12_popInts_18 rfl rfl ?_
      refine K_iconst (v := 0) dX12_popInts_19 (by decide) ?_
      refine K_bind (fun u6 hu6 => ?_)
      refine K_callVI (As := [.int 0]) (k_X12_top fu hE ha0 hu6) dX12_popInts_20 v_X12_228 ha0 rfl rfl rfl rfl (Nat.le_of_ble_eq_true rfl) ⟨Nat.le_of_ble_eq_true rfl, Nat.le_of_ble_eq_true rfl, Nat.le_of_ble_eq_true rfl, Nat.le_of_ble_eq_true rfl⟩ ?_
      refine K_iconst (v := (-1)) dX12_popInts_23 (by decide) ?_
      refine K_icmp_ne (tgt := 31) dX12_popInts_24 (by decide) (fun c9 => ?_) (fun c9 => ?_)
      · refine K_iconst (v := 0) dX12_popInts_31 (by decide) ?_
        refine K_bind (fun u7 hu7 => ?_)
        refine K_callVV (As := [.int 0]) (k_X12_require fu hE ha0 hu7) dX12_popInts_32 v_X12_231 ha0 rfl rfl rfl rfl (Nat.le_of_ble_eq_true rfl) ⟨Nat.le_of_ble_eq_true rfl, Nat.le_of_ble_eq_true rfl, Nat.le_of_ble_eq_true rfl, Nat.le_of_ble_eq_true rfl⟩ ?_
        refine K_aload_n dX12_popInts_35 rfl rfl ?_
        refine K_iconst (v := 1) dX12_popInts_36 (by decide) ?_
        refine K_bind (fun u8 hu8 => ?_)
        refine K_callVI (As := [.int 1]) (k_X12_drop fu hE ha0 hu8) dX12_popInts_37 v_X12_235 ha0 rfl rfl rfl rfl (Nat.le_of_ble_eq_true rfl) ⟨Nat.le_of_ble_eq_true rfl, Nat.le_of_ble_eq_true rfl, Nat.le_of_ble_eq_true rfl, Nat.le_of_ble_eq_true rfl⟩ ?_
        refine K_pop dX12_popInts_40 rfl ?_
        exact K_vret dX12_popInts_41 hQ rfl (Nat.le_of_ble_eq_true rfl) (Nat.le_of_ble_eq_true rfl)
      · refine K.keep [0] ?_
        exact kj_X12_popInts_27 hQ hE fu ha0 ha0 u6.2
def sp_X12_popRow (fu : Nat) (E : Ev) (S : St) (a0 : Nat) : Option (Int32 × St) :=
  (sp_X12_has fu E S a0 1).bind fun u1 =>
  if u1.1 = 0 then (
    (sp_X12_drop fu E u1.2 a0 1).bind fun u2 =>
    some (u2.1, u2.2)
  ) else (
    (sp_X12_top fu E u1.2 a0 0).bind fun u3 =>
    if u3.1 = (-1) then (
      (sp_X12_require fu E u3.2 a0 1).bind fun u4 =>
      (sp_X12_drop fu E u4 a0 1).bind fun u5 =>
      some (u5.1, u5.2)
    ) else (
      (sp_X12_top fu E u3.2 a0 0).bind fun u6 =>
      (sp_X12_isRow fu E u6.2 a0 u6.1).bind fun u7 =>
      if u7.1 = 0 then (
        (sp_X12_require fu E u7.2 a0 0).bind fun u8 =>
        (sp_X12_drop fu E u8 a0 1).bind fun u9 =>
        some (u9.1, u9.2)
      ) else (
        (sp_X12_require fu E u7.2 a0 1).bind fun u10 =>
        (sp_X12_drop fu E u10 a0 1).bind fun u11 =>
        some (u11.1, u11.2)
      )
    )
  )
set_option maxRecDepth 100000 in
theorem k_X12_popRow {l : Launch} (fu : Nat) {E : Ev} (hE : WE E) {a0 : Nat} (ha0 : E.1 a0 = some (0, 10, 0)) {S : St} {t : (Int32 × St)} (h : sp_X12_popRow fu E S a0 = some t) : Cn l mX12_popRow [.ref a0] (hp E S) (PoI E t) := by
  refine Cn.of (by decide) rfl (Nat.le_of_ble_eq_true rfl) (fun X _ _ hQ => ?_)
  refine (?_ : K mX12_popRow X E 0 [(0, .ref a0)] [] S 0 0 (sp_X12_popRow fu E S a0) t) h
  unfold sp_X12_popRow
  refine K_aload_n dX12_popRow_0 rfl rfl ?_
  refine K_iconst (v := 1) dX12_popRow_1 (by decide) ?_
  refine K_bind (fun u1 hu1 => ?_)
  refine K_callVI (As := [.int 1]) (k_X12_has fu hE ha0 hu1) dX12_popRow_2 v_X12_225 ha0 rfl rfl rfl rfl (Nat.le_of_ble_eq_true rfl) ⟨Nat.le_of_ble_eq_true rfl, Nat.le_of_ble_eq_true rfl, Nat.le_of_ble_eq_true rfl, Nat.le_of_ble_eq_true rfl⟩ ?_
  refine K_if_eq (tgt := 38) dX12_popRow_5 (by decide) (fun c14 => ?_) (fun c14 => ?_)
  · refine K_aload_n dX12_popRow_38 rfl rfl ?_
    refine K_iconst (v := 1) dX12_popRow_39 (by decide) ?_
    refine K_bind (fun u2 hu2 => ?_)
    refine K_callVI (As := [.int 1]) (k_X12_drop fu hE ha0 hu2) dX12_popRow_40 v_X12_235 ha0 rfl rfl rfl rfl (Nat.le_of_ble_eq_true rfl) ⟨Nat.le_of_ble_eq_true rfl, Nat.le_of_ble_eq_true rfl, Nat.le_of_ble_eq_true rfl, Nat.le_of_ble_eq_true rfl⟩ ?_
    exact K_iret dX12_popRow_43 hQ rfl (Nat.le_of_ble_eq_true rfl) (Nat.le_of_ble_eq_true rfl)
  · refine K_aload_n dX12_popRow_8 rfl rfl ?_
    refine K_aload_n dX12_popRow_9 rfl rfl ?_
    refine K_iconst (v := 0) dX12_popRow_10 (by decide) ?_
    refine K_bind (fun u3 hu3 => ?_)
    refine K_callVI (As := [.int 0]) (k_X12_top fu hE ha0 hu3) dX12_popRow_11 v_X12_228 ha0 rfl rfl rfl rfl (Nat.le_of_ble_eq_true rfl) ⟨Nat.le_of_ble_eq_true rfl, Nat.le_of_ble_eq_true rfl, Nat.le_of_ble_eq_true rfl, Nat.le_of_ble_eq_true rfl⟩ ?_
    refine K_iconst (v := (-1)) dX12_popRow_14 (by decide) ?_
    refine K_icmp_eq (tgt := 30) dX12_popRow_15 (by decide) (fun c13 => ?_) (fun c13 => ?_)
    · refine K_iconst (v := 1) dX12_popRow_30 (by decide) ?_
      refine K_goto (tgt := 35) dX12_popRow_31 (by decide) ?_
      refine K_bind (fun u4 hu4 => ?_)
      refine K_callVV (As := [.int 1]) (k_X12_require fu hE ha0 hu4) dX12_popRow_35 v_X12_231 ha0 rfl rfl rfl rfl (Nat.le_of_ble_eq_true rfl) ⟨Nat.le_of_ble_eq_true rfl, Nat.le_of_ble_eq_true rfl, Nat.le_of_ble_eq_true rfl, Nat.le_of_ble_eq_true rfl⟩ ?_
      refine K_aload_n dX12_popRow_38 rfl rfl ?_
      refine K_iconst (v := 1) dX12_popRow_39 (by decide) ?_
      refine K_bind (fun u5 hu5 => ?_)
      refine K_callVI (As := [.int 1]) (k_X12_drop fu hE ha0 hu5) dX12_popRow_40 v_X12_235 ha0 rfl rfl rfl rfl (Nat.le_of_ble_eq_true rfl) ⟨Nat.le_of_ble_eq_true rfl, Nat.le_of_ble_eq_true rfl, Nat.le_of_ble_eq_true rfl, Nat.le_of_ble_eq_true rfl⟩ ?_
      exact K_iret dX12_popRow_43 hQ rfl (Nat.le_of_ble_eq_true rfl) (Nat.le_of_ble_eq_true rfl)
    · refine K_aload_n dX12_popRow_18 rfl rfl ?_
      refine K_aload_n dX12_popRow_19 rfl rfl ?_
      refine K_iconst (v := 0) dX12_popRow_20 (by decide) ?_
      refine K_bind (fun u6 hu6 => ?_)
      refine K_callVI (As := [.int 0]) (k_X12_top fu hE ha0 hu6) dX12_popRow_21 v_X12_228 ha0 rfl rfl rfl rfl (Nat.le_of_ble_eq_true rfl) ⟨Nat.le_of_ble_eq_true rfl, Nat.le_of_ble_eq_true rfl, Nat.le_of_ble_eq_true rfl, Nat.le_of_ble_eq_true rfl⟩ ?_
      refine K_bind (fun u7 hu7 => ?_)
      refine K_callVI (As := [.int u6.1]) (k_X12_isRow fu hE ha0 hu7) dX12_popRow_24 v_X12_106 ha0 rfl rfl rfl rfl (Nat.le_of_ble_eq_true rfl) ⟨Nat.le_of_ble_eq_true rfl, Nat.le_of_ble_eq_true rfl, Nat.le_of_ble_eq_true rfl, Nat.le_of_ble_eq_true rfl⟩ ?_
      refine K_if_eq (tgt := 34) dX12_popRow_27 (by decide) (fun c12 => ?_) (fun c12 => ?_)
      · refine K_iconst (v := 0) dX12_popRow_34 (by decide) ?_
        refine K_bind (fun u8 hu8 => ?_)
        refine K_callVV (As := [.int 0]) (k_X12_require fu hE ha0 hu8) dX12_popRow_35 v_X12_231 ha0 rfl rfl rfl rfl (Nat.le_of_ble_eq_true rfl) ⟨Nat.le_of_ble_eq_true rfl, Nat.le_of_ble_eq_true rfl, Nat.le_of_ble_eq_true rfl, Nat.le_of_ble_eq_true rfl⟩ ?_
        refine K_aload_n dX12_popRow_38 rfl rfl ?_
        refine K_iconst (v := 1) dX12_popRow_39 (by decide) ?_
        refine K_bind (fun u9 hu9 => ?_)
        refine K_callVI (As := [.int 1]) (k_X12_drop fu hE ha0 hu9) dX12_popRow_40 v_X12_235 ha0 rfl rfl rfl rfl (Nat.le_of_ble_eq_true rfl) ⟨Nat.le_of_ble_eq_true rfl, Nat.le_of_ble_eq_true rfl, Nat.le_of_ble_eq_true rfl, Nat.le_of_ble_eq_true rfl⟩ ?_
        exact K_iret dX12_popRow_43 hQ rfl (Nat.le_of_ble_eq_true rfl) (Nat.le_of_ble_eq_true rfl)
      · refine K_iconst (v := 1) dX12_popRow_30 (by decide) ?_
        refine K_goto (tgt := 35) dX12_popRow_31 (by decide) ?_
        refine K_bind (fun u10 hu10 => ?_)
        refine K_callVV (As := [.int 1]) (k_X12_require fu hE ha0 hu10) dX12_popRow_35 v_X12_231 ha0 rfl rfl rfl rfl (Nat.le_of_ble_eq_true rfl) ⟨Nat.le_of_ble_eq_true rfl, Nat.le_of_ble_eq_true rfl, Nat.le_of_ble_eq_true rfl, Nat.le_of_ble_eq_true rfl⟩ ?_
        refine K_aload_n dX12_popRow_38 rfl rfl ?_
        refine K_iconst (v := 1) dX12_popRow_39 (by decide) ?_
        refine K_bind (fun u11 hu11 => ?_)
        refine K_callVI (As := [.int 1]) (k_X12_drop fu hE ha0 hu11) dX12_popRow_40 v_X12_235 ha0 rfl rfl rfl rfl (Nat.le_of_ble_eq_true rfl) ⟨Nat.le_of_ble_eq_true rfl, Nat.le_of_ble_eq_true rfl, Nat.le_of_ble_eq_true rfl, Nat.le_of_ble_eq_true rfl⟩ ?_
        exact K_iret dX12_popRow_43 hQ rfl (Nat.le_of_ble_eq_true rfl) (Nat.le_of_ble_eq_true rfl)
def jb_X12_push_36 (fu : Nat) (E : Ev) (a0 : Nat) (S : St) : Option St :=
  bnd (sG S (E.2 a0 39) ((24 : Int32).toNatClampNeg) ((S.2.1 (E.2 a0 39) (24 : Int32).toNatClampNeg) + 1)) fun S4 =>
  some S4
set_option maxRecDepth 100000 in
theorem kj_X12_push_36 {X : Cx} {E : Ev} {t : St} {a0 : Nat} (hQ : EndR mX12_push X (PoV E t)) (hE : WE E) (fu : Nat) (ha0 : E.1 a0 = some (0, 10, 0)) (S : St) : K mX12_push X E 36 [(0, .ref a0)] [] S 0 0 (jb_X12_push_36 fu E a0 S) t := by
  unfold jb_X12_push_36
  refine K_aload_n dX12_push_36 rfl rfl ?_
  refine K_getC hE dX12_push_37 f_X12_81_10 ha0 rfl rfl (fun h3 => ?_)
  refine K_bipush (v := 24) dX12_push_40 (by decide) ?_
  refine K_dup2 dX12_push_42 rfl rfl ?_
  refine K_iald dX12_push_43 h3 (by decide) ?_
  refine K_iconst (v := 1) dX12_push_44 (by decide) ?_
  refine K_iadd dX12_push_45 ?_
  refine K_iast dX12_push_46 h3 (by decide) ?_
  refine K_nmS (fun S4 => ?_)
  exact K_vret dX12_push_47 hQ rfl (Nat.le_of_ble_eq_true rfl) (Nat.le_of_ble_eq_true rfl)
def sp_X12_push (fu : Nat) (E : Ev) (S : St) (a0 : Nat) (x1 : Int32) : Option St :=
  (sp_X12_isWell fu E S a0).bind fun u1 =>
  if u1.1 = 0 then (
    some u1.2
  ) else (
    if 12 ≤ (u1.2.2.1 (E.2 a0 39) (24 : Int32).toNatClampNeg) then (
      jb_X12_push_36 fu E a0 u1.2
    ) else (
      if inb (12 + (u1.2.2.1 (E.2 a0 39) (24 : Int32).toNatClampNeg)) 26 = true then (
        bnd (sG u1.2 (E.2 a0 39) ((12 + (u1.2.2.1 (E.2 a0 39) (24 : Int32).toNatClampNeg)).toNatClampNeg) x1) fun S8 =>
        jb_X12_push_36 fu E a0 S8
      ) else none
    )
  )
set_option maxRecDepth 100000 in
theorem k_X12_push {l : Launch} (fu : Nat) {E : Ev} (hE : WE E) {a0 : Nat} (ha0 : E.1 a0 = some (0, 10, 0)) {x1 : Int32} {S : St} {t : St} (h : sp_X12_push fu E S a0 x1 = some t) : Cn l mX12_push [.ref a0, .int x1] (hp E S) (PoV E t) := by
  refine Cn.of (by decide) rfl (Nat.le_of_ble_eq_true rfl) (fun X _ _ hQ => ?_)
  refine (?_ : K mX12_push X E 0 [(0, .ref a0), (1, .int x1)] [] S 0 0 (sp_X12_push fu E S a0 x1) t) h
  unfold sp_X12_push
  refine K_aload_n dX12_push_0 rfl rfl ?_
  refine K_bind (fun u1 hu1 => ?_)
  refine K_callVI (As := []) (k_X12_isWell fu hE ha0 hu1) dX12_push_1 v_X12_218 ha0 rfl rfl rfl rfl (Nat.le_of_ble_eq_true rfl) ⟨Nat.le_of_ble_eq_true rfl, Nat.le_of_ble_eq_true rfl, Nat.le_of_ble_eq_true rfl, Nat.le_of_ble_eq_true rfl⟩ ?_
  refine K_if_ne (tgt := 8) dX12_push_4 (by decide) (fun c10 => ?_) (fun c10 => ?_)
  · refine K_aload_n dX12_push_8 rfl rfl ?_
    refine K_getC hE dX12_push_9 f_X12_81_10 ha0 rfl rfl (fun h2 => ?_)
    refine K_bipush (v := 24) dX12_push_12 (by decide) ?_
    refine K_iald dX12_push_14 h2 (by decide) ?_
    refine K_bipush (v := 12) dX12_push_15 (by decide) ?_
    refine K_icmp_ge (tgt := 36) dX12_push_17 (by decide) (fun c9 => ?_) (fun c9 => ?_)
    · refine K.keep [0] ?_
      exact kj_X12_push_36 hQ hE fu ha0 u1.2
    · refine K_aload_n dX12_push_20 rfl rfl ?_
      refine K_getC hE dX12_push_21 f_X12_81_10 ha0 rfl rfl (fun h5 => ?_)
      refine K_bipush (v := 12) dX12_push_24 (by decide) ?_
      refine K_aload_n dX12_push_26 rfl rfl ?_
      refine K_getC hE dX12_push_27 f_X12_81_10 ha0 rfl rfl (fun h6 => ?_)
      refine K_bipush (v := 24) dX12_push_30 (by decide) ?_
      refine K_iald dX12_push_32 h6 (by decide) ?_
      refine K_iadd dX12_push_33 ?_
      refine K_iload_n dX12_push_34 rfl rfl ?_
      refine K_chk (fun h7 => ?_)
      refine K_iast dX12_push_35 h5 h7 ?_
      refine K_nmS (fun S8 => ?_)
      refine K.keep [0] ?_
      exact kj_X12_push_36 hQ hE fu ha0 S8
  · exact K_vret dX12_push_7 hQ rfl (Nat.le_of_ble_eq_true rfl) (Nat.le_of_ble_eq_true rfl)
def sp_X12_pushType (fu : Nat) (E : Ev) (S : St) (a0 : Nat) (x1 : Int32) : Option St :=
  if x1 = (-1) then (
    some S
  ) else (
    (sp_X12_push fu E S a0 x1).bind fun u1 =>
    if x1 = 8 then (
      (sp_X12_push fu E u1 a0 (-3)).bind fun u2 =>
      some u2
    ) else (
      some u1
    )
  )
set_option maxRecDepth 100000 in
theorem k_X12_pushType {l : Launch} (fu : Nat) {E : Ev} (hE : WE E) {a0 : Nat} (ha0 : E.1 a0 = some (0, 10, 0)) {x1 : Int32} {S : St} {t : St} (h : sp_X12_pushType fu E S a0 x1 = some t) : Cn l mX12_pushType [.ref a0, .int x1] (hp E S) (PoV E t) := by
  refine Cn.of (by decide) rfl (Nat.le_of_ble_eq_true rfl) (fun X _ _ hQ => ?_)
  refine (?_ : K mX12_pushType X E 0 [(0, .ref a0), (1, .int x1)] [] S 0 0 (sp_X12_pushType fu E S a0 x1) t) h
  unfold sp_X12_pushType
  refine K_iload_n dX12_pushType_0 rfl rfl ?_
  refine K_iconst (v := (-1)) dX12_pushType_1 (by decide) ?_
  refine K_icmp_ne (tgt := 6) dX12_pushType_2 (by decide) (fun c4 => ?_) (fun c4 => ?_)
  · refine K_aload_n dX12_pushType_6 rfl rfl ?_
    refine K_iload_n dX12_pushType_7 rfl rfl ?_
    refine K_bind (fun u1 hu1 => ?_)
    refine K_callVV (As := [.int x1]) (k_X12_push fu hE ha0 hu1) dX12_pushType_8 v_X12_247 ha0 rfl rfl rfl rfl (Nat.le_of_ble_eq_true rfl) ⟨Nat.le_of_ble_eq_true rfl, Nat.le_of_ble_eq_true rfl, Nat.le_of_ble_eq_true rfl, Nat.le_of_ble_eq_true rfl⟩ ?_
    refine K_iload_n dX12_pushType_11 rfl rfl ?_
    refine K_bipush (v := 8) dX12_pushType_12 (by decide) ?_
    refine K_icmp_ne (tgt := 23) dX12_pushType_14 (by decide) (fun c3 => ?_) (fun c3 => ?_)
    · exact K_vret dX12_pushType_23 hQ rfl (Nat.le_of_ble_eq_true rfl) (Nat.le_of_ble_eq_true rfl)
    · refine K_aload_n dX12_pushType_17 rfl rfl ?_
      refine K_bipush (v := (-3)) dX12_pushType_18 (by decide) ?_
      refine K_bind (fun u2 hu2 => ?_)
      refine K_callVV (As := [.int (-3)]) (k_X12_push fu hE ha0 hu2) dX12_pushType_20 v_X12_247 ha0 rfl rfl rfl rfl (Nat.le_of_ble_eq_true rfl) ⟨Nat.le_of_ble_eq_true rfl, Nat.le_of_ble_eq_true rfl, Nat.le_of_ble_eq_true rfl, Nat.le_of_ble_eq_true rfl⟩ ?_
      exact K_vret dX12_pushType_23 hQ rfl (Nat.le_of_ble_eq_true rfl) (Nat.le_of_ble_eq_true rfl)
  · exact K_vret dX12_pushType_5 hQ rfl (Nat.le_of_ble_eq_true rfl) (Nat.le_of_ble_eq_true rfl)
def jb_X12_setLocal_46 (fu : Nat) (E : Ev) (a0 : Nat) (x1 : Int32) (x2 : Int32) (S : St) : Option St :=
  if inb x1 26 = true then
    (
    if (S.2.1 (E.2 a0 39) x1.toNatClampNeg) = 8 then (
      if inb (x1 + 1) 26 = true then
        (
        if (S.2.1 (E.2 a0 39) (x1 + 1).toNatClampNeg) = (-3) then (
          if inb (x1 + 1) 26 = true then (
            bnd (sG S (E.2 a0 39) ((x1 + 1).toNatClampNeg) (-2)) fun S16 =>
            if inb x1 26 = true then (
              bnd (sG S16 (E.2 a0 39) (x1.toNatClampNeg) x2) fun S19 =>
              some S19
            ) else none
          ) else none
        ) else (
          if inb x1 26 = true then (
            bnd (sG S (E.2 a0 39) (x1.toNatClampNeg) x2) fun S13 =>
            some S13
          ) else none
        )
        )
      else none
    ) else (
      if inb x1 26 = true then (
        bnd (sG S (E.2 a0 39) (x1.toNatClampNeg) x2) fun S8 =>
        some S8
      ) else none
    )
    )
  else none
set_option maxRecDepth 100000 in
theorem kj_X12_setLocal_46 {X : Cx} {E : Ev} {t : St} {a0 : Nat} (hQ : EndR mX12_setLocal X (PoV E t)) (hE : WE E) (fu : Nat) (ha0 : E.1 a0 = some (0, 10, 0)) (x1 : Int32) (x2 : Int32) (S : St) : K mX12_setLocal X E 46 [(0, .ref a0), (1, .int x1), (2, .int x2)] [] S 0 0 (jb_X12_setLocal_46 fu E a0 x1 x2 S) t := by
  unfold jb_X12_setLocal_46
  refine K_aload_n dX12_setLocal_46 rfl rfl ?_
  refine K_getC hE dX12_setLocal_47 f_X12_81_10 ha0 rfl rfl (fun h4 => ?_)
  refine K_iload_n dX12_setLocal_50 rfl rfl ?_
  refine K_chk (fun h5 => ?_)
  refine K_iald dX12_setLocal_51 h4 h5 ?_
  refine K_bipush (v := 8) dX12_setLocal_52 (by decide) ?_
  refine K_icmp_ne (tgt := 80) dX12_setLocal_54 (by decide) (fun c21 => ?_) (fun c21 => ?_)
  · refine K_aload_n dX12_setLocal_80 rfl rfl ?_
    refine K_getC hE dX12_setLocal_81 f_X12_81_10 ha0 rfl rfl (fun h6 => ?_)
    refine K_iload_n dX12_setLocal_84 rfl rfl ?_
    refine K_iload_n dX12_setLocal_85 rfl rfl ?_
    refine K_chk (fun h7 => ?_)
    refine K_iast dX12_setLocal_86 h6 h7 ?_
    refine K_nmS (fun S8 => ?_)
    exact K_vret dX12_setLocal_87 hQ rfl (Nat.le_of_ble_eq_true rfl) (Nat.le_of_ble_eq_true rfl)
  · refine K_aload_n dX12_setLocal_57 rfl rfl ?_
    refine K_getC hE dX12_setLocal_58 f_X12_81_10 ha0 rfl rfl (fun h9 => ?_)
    refine K_iload_n dX12_setLocal_61 rfl rfl ?_
    refine K_iconst (v := 1) dX12_setLocal_62 (by decide) ?_
    refine K_iadd dX12_setLocal_63 ?_
    refine K_chk (fun h10 => ?_)
    refine K_iald dX12_setLocal_64 h9 h10 ?_
    refine K_bipush (v := (-3)) dX12_setLocal_65 (by decide) ?_
    refine K_icmp_ne (tgt := 80) dX12_setLocal_67 (by decide) (fun c20 => ?_) (fun c20 => ?_)
    · refine K_aload_n dX12_setLocal_80 rfl rfl ?_
      refine K_getC hE dX12_setLocal_81 f_X12_81_10 ha0 rfl rfl (fun h11 => ?_)
      refine K_iload_n dX12_setLocal_84 rfl rfl ?_
      refine K_iload_n dX12_setLocal_85 rfl rfl ?_
      refine K_chk (fun h12 => ?_)
      refine K_iast dX12_setLocal_86 h11 h12 ?_
      refine K_nmS (fun S13 => ?_)
      exact K_vret dX12_setLocal_87 hQ rfl (Nat.le_of_ble_eq_true rfl) (Nat.le_of_ble_eq_true rfl)
    · refine K_aload_n dX12_setLocal_70 rfl rfl ?_
      refine K_getC hE dX12_setLocal_71 f_X12_81_10 ha0 rfl rfl (fun h14 => ?_)
      refine K_iload_n dX12_setLocal_74 rfl rfl ?_
      refine K_iconst (v := 1) dX12_setLocal_75 (by decide) ?_
      refine K_iadd dX12_setLocal_76 ?_
      refine K_bipush (v := (-2)) dX12_setLocal_77 (by decide) ?_
      refine K_chk (fun h15 => ?_)
      refine K_iast dX12_setLocal_79 h14 h15 ?_
      refine K_nmS (fun S16 => ?_)
      refine K_aload_n dX12_setLocal_80 rfl rfl ?_
      refine K_getC hE dX12_setLocal_81 f_X12_81_10 ha0 rfl rfl (fun h17 => ?_)
      refine K_iload_n dX12_setLocal_84 rfl rfl ?_
      refine K_iload_n dX12_setLocal_85 rfl rfl ?_
      refine K_chk (fun h18 => ?_)
      refine K_iast dX12_setLocal_86 h17 h18 ?_
      refine K_nmS (fun S19 => ?_)
      exact K_vret dX12_setLocal_87 hQ rfl (Nat.le_of_ble_eq_true rfl) (Nat.le_of_ble_eq_true rfl)
def sp_X12_setLocal (fu : Nat) (E : Ev) (S : St) (a0 : Nat) (x1 : Int32) (x2 : Int32) : Option St :=
  (sp_X12_isWell fu E S a0).bind fun u1 =>
  if u1.1 = 0 then (
    some u1.2
  ) else (
    if inb x1 26 = true then
      (
      if (u1.2.2.1 (E.2 a0 39) x1.toNatClampNeg) = (-3) then (
        if x1 ≤ 0 then (
          jb_X12_setLocal_46 fu E a0 x1 x2 u1.2
        ) else (
          if inb (x1 - 1) 26 = true then
            (
            if (u1.2.2.1 (E.2 a0 39) (x1 - 1).toNatClampNeg) = 8 then (
              if inb (x1 - 1) 26 = true then (
                bnd (sG u1.2 (E.2 a0 39) ((x1 - 1).toNatClampNeg) (-2)) fun S26 =>
                jb_X12_setLocal_46 fu E a0 x1 x2 S26
              ) else none
            ) else (
              jb_X12_setLocal_46 fu E a0 x1 x2 u1.2
            )
            )
          else none
        )
      ) else (
        jb_X12_setLocal_46 fu E a0 x1 x2 u1.2
      )
      )
    else none
  )
set_option maxRecDepth 100000 in
theorem k_X12_setLocal {l : Launch} (fu : Nat) {E : Ev} (hE : WE E) {a0 : Nat} (ha0 : E.1 a0 = some (0, 10, 0)) {x1 : Int32} {x2 : Int32} {S : St} {t : St} (h : sp_X12_setLocal fu E S a0 x1 x2 = some t) : Cn l mX12_setLocal [.ref a0, .int x1, .int x2] (hp E S) (PoV E t) := by
  refine Cn.of (by decide) rfl (Nat.le_of_ble_eq_true rfl) (fun X _ _ hQ => ?_)
  refine (?_ : K mX12_setLocal X E 0 [(0, .ref a0), (1, .int x1), (2, .int x2)] [] S 0 0 (sp_X12_setLocal fu E S a0 x1 x2) t) h
  unfold sp_X12_setLocal
  refine K_aload_n dX12_setLocal_0 rfl rfl ?_
  refine K_bind (fun u1 hu1 => ?_)
  refine K_callVI (As := []) (k_X12_isWell fu hE ha0 hu1) dX12_setLocal_1 v_X12_218 ha0 rfl rfl rfl rfl (Nat.le_of_ble_eq_true rfl) ⟨Nat.le_of_ble_eq_true rfl, Nat.le_of_ble_eq_true rfl, Nat.le_of_ble_eq_true rfl, Nat.le_of_ble_eq_true rfl⟩ ?_
  refine K_if_ne (tgt := 8) dX12_setLocal_4 (by decide) (fun c30 => ?_) (fun c30 => ?_)
  · refine K_aload_n dX12_setLocal_8 rfl rfl ?_
    refine K_getC hE dX12_setLocal_9 f_X12_81_10 ha0 rfl rfl (fun h2 => ?_)
    refine K_iload_n dX12_setLocal_12 rfl rfl ?_
    refine K_chk (fun h3 => ?_)
    refine K_iald dX12_setLocal_13 h2 h3 ?_
    refine K_bipush (v := (-3)) dX12_setLocal_14 (by decide) ?_
    refine K_icmp_ne (tgt := 46) dX12_setLocal_16 (by decide) (fun c29 => ?_) (fun c29 => ?_)
    · refine K.keep [0, 1, 2] ?_
      exact kj_X12_setLocal_46 hQ hE fu ha0 x1 x2 u1.2
    · refine K_iload_n dX12_setLocal_19 rfl rfl ?_
      refine K_if_le (tgt := 46) dX12_setLocal_20 (by decide) (fun c28 => ?_) (fun c28 => ?_)
      · refine K.keep [0, 1, 2] ?_
        exact kj_X12_setLocal_46 hQ hE fu ha0 x1 x2 u1.2
      · refine K_aload_n dX12_setLocal_23 rfl rfl ?_
        refine K_getC hE dX12_setLocal_24 f_X12_81_10 ha0 rfl rfl (fun h22 => ?_)
        refine K_iload_n dX12_setLocal_27 rfl rfl ?_
        refine K_iconst (v := 1) dX12_setLocal_28 (by decide) ?_
        refine K_isub dX12_setLocal_29 ?_
        refine K_chk (fun h23 => ?_)
        refine K_iald dX12_setLocal_30 h22 h23 ?_
        refine K_bipush (v := 8) dX12_setLocal_31 (by decide) ?_
        refine K_icmp_ne (tgt := 46) dX12_setLocal_33 (by decide) (fun c27 => ?_) (fun c27 => ?_)
        · refine K.keep [0, 1, 2] ?_
          exact kj_X12_setLocal_46 hQ hE fu ha0 x1 x2 u1.2
        · refine K_aload_n dX12_setLocal_36 rfl rfl ?_
          refine K_getC hE dX12_setLocal_37 f_X12_81_10 ha0 rfl rfl (fun h24 => ?_)
          refine K_iload_n dX12_setLocal_40 rfl rfl ?_
          refine K_iconst (v := 1) dX12_setLocal_41 (by decide) ?_
          refine K_isub dX12_setLocal_42 ?_
          refine K_bipush (v := (-2)) dX12_setLocal_43 (by decide) ?_
          refine K_chk (fun h25 => ?_)
          refine K_iast dX12_setLocal_45 h24 h25 ?_
          refine K_nmS (fun S26 => ?_)
          refine K.keep [0, 1, 2] ?_
          exact kj_X12_setLocal_46 hQ hE fu ha0 x1 x2 S26
  · exact K_vret dX12_setLocal_7 hQ rfl (Nat.le_of_ble_eq_true rfl) (Nat.le_of_ble_eq_true rfl)
def sp_X12_storeLong (fu : Nat) (E : Ev) (S : St) (a0 : Nat) (x1 : Int32) : Option St :=
  (sp_X12_isWell fu E S a0).bind fun u1 =>
  if u1.1 = 0 then (
    some u1.2
  ) else (
    (sp_X12_setLocal fu E u1.2 a0 x1 (-2)).bind fun u2 =>
    (sp_X12_setLocal fu E u2 a0 (x1 + 1) (-2)).bind fun u3 =>
    if inb x1 26 = true then (
      bnd (sG u3 (E.2 a0 39) (x1.toNatClampNeg) 8) fun S6 =>
      if inb (x1 + 1) 26 = true then (
        bnd (sG S6 (E.2 a0 39) ((x1 + 1).toNatClampNeg) (-3)) fun S9 =>
        some S9
      ) else none
    ) else none
  )
set_option maxRecDepth 100000 in
theorem k_X12_storeLong {l : Launch} (fu : Nat) {E : Ev} (hE : WE E) {a0 : Nat} (ha0 : E.1 a0 = some (0, 10, 0)) {x1 : Int32} {S : St} {t : St} (h : sp_X12_storeLong fu E S a0 x1 = some t) : Cn l mX12_storeLong [.ref a0, .int x1] (hp E S) (PoV E t) := by
  refine Cn.of (by decide) rfl (Nat.le_of_ble_eq_true rfl) (fun X _ _ hQ => ?_)
  refine (?_ : K mX12_storeLong X E 0 [(0, .ref a0), (1, .int x1)] [] S 0 0 (sp_X12_storeLong fu E S a0 x1) t) h
  unfold sp_X12_storeLong
  refine K_aload_n dX12_storeLong_0 rfl rfl ?_
  refine K_bind (fun u1 hu1 => ?_)
  refine K_callVI (As := []) (k_X12_isWell fu hE ha0 hu1) dX12_storeLong_1 v_X12_218 ha0 rfl rfl rfl rfl (Nat.le_of_ble_eq_true rfl) ⟨Nat.le_of_ble_eq_true rfl, Nat.le_of_ble_eq_true rfl, Nat.le_of_ble_eq_true rfl, Nat.le_of_ble_eq_true rfl⟩ ?_
  refine K_if_ne (tgt := 8) dX12_storeLong_4 (by decide) (fun c10 => ?_) (fun c10 => ?_)
  · refine K_aload_n dX12_storeLong_8 rfl rfl ?_
    refine K_iload_n dX12_storeLong_9 rfl rfl ?_
    refine K_bipush (v := (-2)) dX12_storeLong_10 (by decide) ?_
    refine K_bind (fun u2 hu2 => ?_)
    refine K_callVV (As := [.int x1, .int (-2)]) (k_X12_setLocal fu hE ha0 hu2) dX12_storeLong_12 v_X12_250 ha0 rfl rfl rfl rfl (Nat.le_of_ble_eq_true rfl) ⟨Nat.le_of_ble_eq_true rfl, Nat.le_of_ble_eq_true rfl, Nat.le_of_ble_eq_true rfl, Nat.le_of_ble_eq_true rfl⟩ ?_
    refine K_aload_n dX12_storeLong_15 rfl rfl ?_
    refine K_iload_n dX12_storeLong_16 rfl rfl ?_
    refine K_iconst (v := 1) dX12_storeLong_17 (by decide) ?_
    refine K_iadd dX12_storeLong_18 ?_
    refine K_bipush (v := (-2)) dX12_storeLong_19 (by decide) ?_
    refine K_bind (fun u3 hu3 => ?_)
    refine K_callVV (As := [.int (x1 + 1), .int (-2)]) (k_X12_setLocal fu hE ha0 hu3) dX12_storeLong_21 v_X12_250 ha0 rfl rfl rfl rfl (Nat.le_of_ble_eq_true rfl) ⟨Nat.le_of_ble_eq_true rfl, Nat.le_of_ble_eq_true rfl, Nat.le_of_ble_eq_true rfl, Nat.le_of_ble_eq_true rfl⟩ ?_
    refine K_aload_n dX12_storeLong_24 rfl rfl ?_
    refine K_getC hE dX12_storeLong_25 f_X12_81_10 ha0 rfl rfl (fun h4 => ?_)
    refine K_iload_n dX12_storeLong_28 rfl rfl ?_
    refine K_bipush (v := 8) dX12_storeLong_29 (by decide) ?_
    refine K_chk (fun h5 => ?_)
    refine K_iast dX12_storeLong_31 h4 h5 ?_
    refine K_nmS (fun S6 => ?_)
    refine K_aload_n dX12_storeLong_32 rfl rfl ?_
    refine K_getC hE dX12_storeLong_33 f_X12_81_10 ha0 rfl rfl (fun h7 => ?_)
    refine K_iload_n dX12_storeLong_36 rfl rfl ?_
    refine K_iconst (v := 1) dX12_storeLong_37 (by decide) ?_
    refine K_iadd dX12_storeLong_38 ?_
    refine K_bipush (v := (-3)) dX12_storeLong_39 (by decide) ?_
    refine K_chk (fun h8 => ?_)
    refine K_iast dX12_storeLong_41 h7 h8 ?_
    refine K_nmS (fun S9 => ?_)
    exact K_vret dX12_storeLong_42 hQ rfl (Nat.le_of_ble_eq_true rfl) (Nat.le_of_ble_eq_true rfl)
  · exact K_vret dX12_storeLong_7 hQ rfl (Nat.le_of_ble_eq_true rfl) (Nat.le_of_ble_eq_true rfl)
def bd_X12_replace_2 (fu : Nat) (E : Ev) (a0 : Nat) (rc2 : Int32 → Int32 → Int32 → St → Option St) (x1 : Int32) (x2 : Int32) (x3 : Int32) (S : St) : Option St :=
  if 24 ≤ x3 then (
    some S
  ) else (
    if inb x3 26 = true then
      (
      if (S.2.1 (E.2 a0 39) x3.toNatClampNeg) = x1 then (
        if inb x3 26 = true then (
          bnd (sG S (E.2 a0 39) (x3.toNatClampNeg) x2) fun S5 =>
          rc2 x1 x2 (x3 + 1) S5
        ) else none
      ) else (
        rc2 x1 x2 (x3 + 1) S
      )
      )
    else none
  )
def lp_X12_replace_2 (fu : Nat) (E : Ev) (a0 : Nat) : Nat → Int32 → Int32 → Int32 → St → Option St
  | 0, _, _, _, _ => none
  | f + 1, x1, x2, x3, S => bd_X12_replace_2 fu E a0 (lp_X12_replace_2 fu E a0 f) x1 x2 x3 S
set_option maxRecDepth 100000 in
theorem kl_X12_replace_2 {X : Cx} {E : Ev} {t : St} {a0 : Nat} (hQ : EndR mX12_replace X (PoV E t)) (hE : WE E) (fu : Nat) (ha0 : E.1 a0 = some (0, 10, 0)) : ∀ (f : Nat) (x1 : Int32) (x2 : Int32) (x3 : Int32) (S : St), K mX12_replace X E 2 [(0, .ref a0), (1, .int x1), (2, .int x2), (3, .int x3)] [] S 0 0 (lp_X12_replace_2 fu E a0 f x1 x2 x3 S) t := by
  intro f
  induction f with
  | zero => intro x1 x2 x3 S; exact K_none
  | succ f hrc2 =>
    intro x1 x2 x3 S
    show K _ _ _ _ _ _ _ _ _ (bd_X12_replace_2 fu E a0 (lp_X12_replace_2 fu E a0 f) x1 x2 x3 S) t
    unfold bd_X12_replace_2
    refine K_iload_n dX12_replace_2 rfl rfl ?_
    refine K_bipush (v := 24) dX12_replace_3 (by decide) ?_
    refine K_icmp_ge (tgt := 31) dX12_replace_5 (by decide) (fun c7 => ?_) (fun c7 => ?_)
    · exact K_vret dX12_replace_31 hQ rfl (Nat.le_of_ble_eq_true rfl) (Nat.le_of_ble_eq_true rfl)
    · refine K_aload_n dX12_replace_8 rfl rfl ?_
      refine K_getC hE dX12_replace_9 f_X12_81_10 ha0 rfl rfl (fun h1 => ?_)
      refine K_iload_n dX12_replace_12 rfl rfl ?_
      refine K_chk (fun h2 => ?_)
      refine K_iald dX12_replace_13 h1 h2 ?_
      refine K_iload_n dX12_replace_14 rfl rfl ?_
      refine K_icmp_ne (tgt := 25) dX12_replace_15 (by decide) (fun c6 => ?_) (fun c6 => ?_)
      · refine K_iinc (v := (x3 + 1)) (ls' := [(0, _), (1, _), (2, _), (3, _)]) dX12_replace_25 rfl rfl (by decide) rfl ?_
        refine K_goto (tgt := 2) dX12_replace_28 (by decide) ?_
        refine K.keep [0, 1, 2, 3] ?_
        exact hrc2 x1 x2 (x3 + 1) S
      · refine K_aload_n dX12_replace_18 rfl rfl ?_
        refine K_getC hE dX12_replace_19 f_X12_81_10 ha0 rfl rfl (fun h3 => ?_)
        refine K_iload_n dX12_replace_22 rfl rfl ?_
        refine K_iload_n dX12_replace_23 rfl rfl ?_
        refine K_chk (fun h4 => ?_)
        refine K_iast dX12_replace_24 h3 h4 ?_
        refine K_nmS (fun S5 => ?_)
        refine K_iinc (v := (x3 + 1)) (ls' := [(0, _), (1, _), (2, _), (3, _)]) dX12_replace_25 rfl rfl (by decide) rfl ?_
        refine K_goto (tgt := 2) dX12_replace_28 (by decide) ?_
        refine K.keep [0, 1, 2, 3] ?_
        exact hrc2 x1 x2 (x3 + 1) S5
def sp_X12_replace (fu : Nat) (E : Ev) (S : St) (a0 : Nat) (x1 : Int32) (x2 : Int32) : Option St :=
  lp_X12_replace_2 fu E a0 fu x1 x2 0 S
set_option maxRecDepth 100000 in
theorem k_X12_replace {l : Launch} (fu : Nat) {E : Ev} (hE : WE E) {a0 : Nat} (ha0 : E.1 a0 = some (0, 10, 0)) {x1 : Int32} {x2 : Int32} {S : St} {t : St} (h : sp_X12_replace fu E S a0 x1 x2 = some t) : Cn l mX12_replace [.ref a0, .int x1, .int x2] (hp E S) (PoV E t) := by
  refine Cn.of (by decide) rfl (Nat.le_of_ble_eq_true rfl) (fun X _ _ hQ => ?_)
  refine (?_ : K mX12_replace X E 0 [(0, .ref a0), (1, .int x1), (2, .int x2)] [] S 0 0 (sp_X12_replace fu E S a0 x1 x2) t) h
  unfold sp_X12_replace
  refine K_iconst (v := 0) dX12_replace_0 (by decide) ?_
  refine K_istore_n (ls' := [(0, _), (1, _), (2, _), (3, _)]) dX12_replace_1 rfl (by decide) rfl ?_
  refine K.keep [0, 1, 2, 3] ?_
  exact kl_X12_replace_2 hQ hE fu ha0 fu x1 x2 0 S
def sp_X12_look (fu : Nat) (E : Ev) (S : St) (a0 : Nat) (x1 : Int32) : Option St :=
  if x1 = 0 then (
    (sp_X12_fail fu E S a0 5 (S.1 a0 43)).bind fun u1 =>
    some u1
  ) else (
    some S
  )
set_option maxRecDepth 100000 in
theorem k_X12_look {l : Launch} (fu : Nat) {E : Ev} (hE : WE E) {a0 : Nat} (ha0 : E.1 a0 = some (0, 10, 0)) {x1 : Int32} {S : St} {t : St} (h : sp_X12_look fu E S a0 x1 = some t) : Cn l mX12_look [.ref a0, .int x1] (hp E S) (PoV E t) := by
  refine Cn.of (by decide) rfl (Nat.le_of_ble_eq_true rfl) (fun X _ _ hQ => ?_)
  refine (?_ : K mX12_look X E 0 [(0, .ref a0), (1, .int x1)] [] S 0 0 (sp_X12_look fu E S a0 x1) t) h
  unfold sp_X12_look
  refine K_iload_n dX12_look_0 rfl rfl ?_
  refine K_if_ne (tgt := 13) dX12_look_1 (by decide) (fun c2 => ?_) (fun c2 => ?_)
  · exact K_vret dX12_look_13 hQ rfl (Nat.le_of_ble_eq_true rfl) (Nat.le_of_ble_eq_true rfl)
  · refine K_aload_n dX12_look_4 rfl rfl ?_
    refine K_iconst (v := 5) dX12_look_5 (by decide) ?_
    refine K_aload_n dX12_look_6 rfl rfl ?_
    refine K_getI dX12_look_7 f_X12_222_10 ha0 rfl ?_
    refine K_bind (fun u1 hu1 => ?_)
    refine K_callVV (As := [.int 5, .int (S.1 a0 43)]) (k_X12_fail fu hE ha0 hu1) dX12_look_10 v_X12_208 ha0 rfl rfl rfl rfl (Nat.le_of_ble_eq_true rfl) ⟨Nat.le_of_ble_eq_true rfl, Nat.le_of_ble_eq_true rfl, Nat.le_of_ble_eq_true rfl, Nat.le_of_ble_eq_true rfl⟩ ?_
    exact K_vret dX12_look_13 hQ rfl (Nat.le_of_ble_eq_true rfl) (Nat.le_of_ble_eq_true rfl)
def sp_X12_compute (fu : Nat) (E : Ev) (S : St) (a0 : Nat) (x1 : Int32) (x2 : Int32) : Option St :=
  if x1 = 16 then (
    (sp_X12_popInt fu E S a0).bind fun u2 =>
    (sp_X12_popInt fu E u2 a0).bind fun u3 =>
    (sp_X12_push fu E u3 a0 0).bind fun u4 =>
    some u4
  ) else (
    if x1 = 17 then (
      (sp_X12_popLong fu E S a0).bind fun u6 =>
      (sp_X12_popLong fu E u6 a0).bind fun u7 =>
      (sp_X12_pushType fu E u7 a0 8).bind fun u8 =>
      some u8
    ) else (
      if x1 = 18 then (
        (sp_X12_popInt fu E S a0).bind fun u10 =>
        (sp_X12_pushType fu E u10 a0 8).bind fun u11 =>
        some u11
      ) else (
        if x1 = 19 then (
          (sp_X12_popLong fu E S a0).bind fun u13 =>
          (sp_X12_push fu E u13 a0 0).bind fun u14 =>
          some u14
        ) else (
          if x1 = 20 then (
            (sp_X12_popLong fu E S a0).bind fun u16 =>
            (sp_X12_popLong fu E u16 a0).bind fun u17 =>
            (sp_X12_push fu E u17 a0 0).bind fun u18 =>
            some u18
          ) else (
            if x1 = 21 then (
              if inb x2 26 = true then
                (
                if (S.2.1 (E.2 a0 39) x2.toNatClampNeg) = 0 then (
                  (sp_X12_look fu E S a0 1).bind fun u23 =>
                  some u23
                ) else (
                  (sp_X12_look fu E S a0 0).bind fun u22 =>
                  some u22
                )
                )
              else none
            ) else (
              if x1 = 23 then (
                (sp_X12_popInt fu E S a0).bind fun u26 =>
                some u26
              ) else (
                if x1 = 24 then (
                  (sp_X12_popInt fu E S a0).bind fun u28 =>
                  (sp_X12_popInt fu E u28 a0).bind fun u29 =>
                  some u29
                ) else (
                  if x1 = 25 then (
                    (sp_X12_popAnyReference fu E S a0).bind fun u31 =>
                    some u31.2
                  ) else (
                    if x1 = 26 then (
                      (sp_X12_popAnyReference fu E S a0).bind fun u33 =>
                      (sp_X12_popAnyReference fu E u33.2 a0).bind fun u34 =>
                      some u34.2
                    ) else (
                      some S
                    )
                  )
                )
              )
            )
          )
        )
      )
    )
  )
set_option maxRecDepth 100000 in
theorem k_X12_compute {l : Launch} (fu : Nat) {E : Ev} (hE : WE E) {a0 : Nat} (ha0 : E.1 a0 = some (0, 10, 0)) {x1 : Int32} {x2 : Int32} {S : St} {t : St} (h : sp_X12_compute fu E S a0 x1 x2 = some t) : Cn l mX12_compute [.ref a0, .int x1, .int x2] (hp E S) (PoV E t) := by
  refine Cn.of (by decide) rfl (Nat.le_of_ble_eq_true rfl) (fun X _ _ hQ => ?_)
  refine (?_ : K mX12_compute X E 0 [(0, .ref a0), (1, .int x1), (2, .int x2)] [] S 0 0 (sp_X12_compute fu E S a0 x1 x2) t) h
  unfold sp_X12_compute
  refine K_iload_n dX12_compute_0 rfl rfl ?_
  refine K_ite (fun c1 => ?_) (fun c1 => ?_)
  · refine K_tswIn (tgt := 60) 16 dX12_compute_1 c1 (by decide) (by decide) rfl (by decide) ?_
    refine K_aload_n dX12_compute_60 rfl rfl ?_
    refine K_bind (fun u2 hu2 => ?_)
    refine K_callVV (As := []) (k_X12_popInt fu hE ha0 hu2) dX12_compute_61 v_X12_277 ha0 rfl rfl rfl rfl (Nat.le_of_ble_eq_true rfl) ⟨Nat.le_of_ble_eq_true rfl, Nat.le_of_ble_eq_true rfl, Nat.le_of_ble_eq_true rfl, Nat.le_of_ble_eq_true rfl⟩ ?_
    refine K_aload_n dX12_compute_64 rfl rfl ?_
    refine K_bind (fun u3 hu3 => ?_)
    refine K_callVV (As := []) (k_X12_popInt fu hE ha0 hu3) dX12_compute_65 v_X12_277 ha0 rfl rfl rfl rfl (Nat.le_of_ble_eq_true rfl) ⟨Nat.le_of_ble_eq_true rfl, Nat.le_of_ble_eq_true rfl, Nat.le_of_ble_eq_true rfl, Nat.le_of_ble_eq_true rfl⟩ ?_
    refine K_aload_n dX12_compute_68 rfl rfl ?_
    refine K_iconst (v := 0) dX12_compute_69 (by decide) ?_
    refine K_bind (fun u4 hu4 => ?_)
    refine K_callVV (As := [.int 0]) (k_X12_push fu hE ha0 hu4) dX12_compute_70 v_X12_247 ha0 rfl rfl rfl rfl (Nat.le_of_ble_eq_true rfl) ⟨Nat.le_of_ble_eq_true rfl, Nat.le_of_ble_eq_true rfl, Nat.le_of_ble_eq_true rfl, Nat.le_of_ble_eq_true rfl⟩ ?_
    refine K_goto (tgt := 194) dX12_compute_73 (by decide) ?_
    exact K_vret dX12_compute_194 hQ rfl (Nat.le_of_ble_eq_true rfl) (Nat.le_of_ble_eq_true rfl)
  · refine K_ite (fun c5 => ?_) (fun c5 => ?_)
    · refine K_tswIn (tgt := 76) 17 dX12_compute_1 c5 (by decide) (by decide) rfl (by decide) ?_
      refine K_aload_n dX12_compute_76 rfl rfl ?_
      refine K_bind (fun u6 hu6 => ?_)
      refine K_callVV (As := []) (k_X12_popLong fu hE ha0 hu6) dX12_compute_77 v_X12_241 ha0 rfl rfl rfl rfl (Nat.le_of_ble_eq_true rfl) ⟨Nat.le_of_ble_eq_true rfl, Nat.le_of_ble_eq_true rfl, Nat.le_of_ble_eq_true rfl, Nat.le_of_ble_eq_true rfl⟩ ?_
      refine K_aload_n dX12_compute_80 rfl rfl ?_
      refine K_bind (fun u7 hu7 => ?_)
      refine K_callVV (As := []) (k_X12_popLong fu hE ha0 hu7) dX12_compute_81 v_X12_241 ha0 rfl rfl rfl rfl (Nat.le_of_ble_eq_true rfl) ⟨Nat.le_of_ble_eq_true rfl, Nat.le_of_ble_eq_true rfl, Nat.le_of_ble_eq_true rfl, Nat.le_of_ble_eq_true rfl⟩ ?_
      refine K_aload_n dX12_compute_84 rfl rfl ?_
      refine K_bipush (v := 8) dX12_compute_85 (by decide) ?_
      refine K_bind (fun u8 hu8 => ?_)
      refine K_callVV (As := [.int 8]) (k_X12_pushType fu hE ha0 hu8) dX12_compute_87 v_X12_271 ha0 rfl rfl rfl rfl (Nat.le_of_ble_eq_true rfl) ⟨Nat.le_of_ble_eq_true rfl, Nat.le_of_ble_eq_true rfl, Nat.le_of_ble_eq_true rfl, Nat.le_of_ble_eq_true rfl⟩ ?_
      refine K_goto (tgt := 194) dX12_compute_90 (by decide) ?_
      exact K_vret dX12_compute_194 hQ rfl (Nat.le_of_ble_eq_true rfl) (Nat.le_of_ble_eq_true rfl)
    · refine K_ite (fun c9 => ?_) (fun c9 => ?_)
      · refine K_tswIn (tgt := 93) 18 dX12_compute_1 c9 (by decide) (by decide) rfl (by decide) ?_
        refine K_aload_n dX12_compute_93 rfl rfl ?_
        refine K_bind (fun u10 hu10 => ?_)
        refine K_callVV (As := []) (k_X12_popInt fu hE ha0 hu10) dX12_compute_94 v_X12_277 ha0 rfl rfl rfl rfl (Nat.le_of_ble_eq_true rfl) ⟨Nat.le_of_ble_eq_true rfl, Nat.le_of_ble_eq_true rfl, Nat.le_of_ble_eq_true rfl, Nat.le_of_ble_eq_true rfl⟩ ?_
        refine K_aload_n dX12_compute_97 rfl rfl ?_
        refine K_bipush (v := 8) dX12_compute_98 (by decide) ?_
        refine K_bind (fun u11 hu11 => ?_)
        refine K_callVV (As := [.int 8]) (k_X12_pushType fu hE ha0 hu11) dX12_compute_100 v_X12_271 ha0 rfl rfl rfl rfl (Nat.le_of_ble_eq_true rfl) ⟨Nat.le_of_ble_eq_true rfl, Nat.le_of_ble_eq_true rfl, Nat.le_of_ble_eq_true rfl, Nat.le_of_ble_eq_true rfl⟩ ?_
        refine K_goto (tgt := 194) dX12_compute_103 (by decide) ?_
        exact K_vret dX12_compute_194 hQ rfl (Nat.le_of_ble_eq_true rfl) (Nat.le_of_ble_eq_true rfl)
      · refine K_ite (fun c12 => ?_) (fun c12 => ?_)
        · refine K_tswIn (tgt := 106) 19 dX12_compute_1 c12 (by decide) (by decide) rfl (by decide) ?_
          refine K_aload_n dX12_compute_106 rfl rfl ?_
          refine K_bind (fun u13 hu13 => ?_)
          refine K_callVV (As := []) (k_X12_popLong fu hE ha0 hu13) dX12_compute_107 v_X12_241 ha0 rfl rfl rfl rfl (Nat.le_of_ble_eq_true rfl) ⟨Nat.le_of_ble_eq_true rfl, Nat.le_of_ble_eq_true rfl, Nat.le_of_ble_eq_true rfl, Nat.le_of_ble_eq_true rfl⟩ ?_
          refine K_aload_n dX12_compute_110 rfl rfl ?_
          refine K_iconst (v := 0) dX12_compute_111 (by decide) ?_
          refine K_bind (fun u14 hu14 => ?_)
          refine K_callVV (As := [.int 0]) (k_X12_push fu hE ha0 hu14) dX12_compute_112 v_X12_247 ha0 rfl rfl rfl rfl (Nat.le_of_ble_eq_true rfl) ⟨Nat.le_of_ble_eq_true rfl, Nat.le_of_ble_eq_true rfl, Nat.le_of_ble_eq_true rfl, Nat.le_of_ble_eq_true rfl⟩ ?_
          refine K_goto (tgt := 194) dX12_compute_115 (by decide) ?_
          exact K_vret dX12_compute_194 hQ rfl (Nat.le_of_ble_eq_true rfl) (Nat.le_of_ble_eq_true rfl)
        · refine K_ite (fun c15 => ?_) (fun c15 => ?_)
          · refine K_tswIn (tgt := 118) 20 dX12_compute_1 c15 (by decide) (by decide) rfl (by decide) ?_
            refine K_aload_n dX12_compute_118 rfl rfl ?_
            refine K_bind (fun u16 hu16 => ?_)
            refine K_callVV (As := []) (k_X12_popLong fu hE ha0 hu16) dX12_compute_119 v_X12_241 ha0 rfl rfl rfl rfl (Nat.le_of_ble_eq_true rfl) ⟨Nat.le_of_ble_eq_true rfl, Nat.le_of_ble_eq_true rfl, Nat.le_of_ble_eq_true rfl, Nat.le_of_ble_eq_true rfl⟩ ?_
            refine K_aload_n dX12_compute_122 rfl rfl ?_
            refine K_bind (fun u17 hu17 => ?_)
            refine K_callVV (As := []) (k_X12_popLong fu hE ha0 hu17) dX12_compute_123 v_X12_241 ha0 rfl rfl rfl rfl (Nat.le_of_ble_eq_true rfl) ⟨Nat.le_of_ble_eq_true rfl, Nat.le_of_ble_eq_true rfl, Nat.le_of_ble_eq_true rfl, Nat.le_of_ble_eq_true rfl⟩ ?_
            refine K_aload_n dX12_compute_126 rfl rfl ?_
            refine K_iconst (v := 0) dX12_compute_127 (by decide) ?_
            refine K_bind (fun u18 hu18 => ?_)
            refine K_callVV (As := [.int 0]) (k_X12_push fu hE ha0 hu18) dX12_compute_128 v_X12_247 ha0 rfl rfl rfl rfl (Nat.le_of_ble_eq_true rfl) ⟨Nat.le_of_ble_eq_true rfl, Nat.le_of_ble_eq_true rfl, Nat.le_of_ble_eq_true rfl, Nat.le_of_ble_eq_true rfl⟩ ?_
            refine K_goto (tgt := 194) dX12_compute_131 (by decide) ?_
            exact K_vret dX12_compute_194 hQ rfl (Nat.le_of_ble_eq_true rfl) (Nat.le_of_ble_eq_true rfl)
          · refine K_ite (fun c19 => ?_) (fun c19 => ?_)
            · refine K_tswIn (tgt := 134) 21 dX12_compute_1 c19 (by decide) (by decide) rfl (by decide) ?_
              refine K_aload_n dX12_compute_134 rfl rfl ?_
              refine K_aload_n dX12_compute_135 rfl rfl ?_
              refine K_getC hE dX12_compute_136 f_X12_81_10 ha0 rfl rfl (fun h20 => ?_)
              refine K_iload_n dX12_compute_139 rfl rfl ?_
              refine K_chk (fun h21 => ?_)
              refine K_iald dX12_compute_140 h20 h21 ?_
              refine K_if_ne (tgt := 148) dX12_compute_141 (by decide) (fun c24 => ?_) (fun c24 => ?_)
              · refine K_iconst (v := 0) dX12_compute_148 (by decide) ?_
                refine K_bind (fun u22 hu22 => ?_)
                refine K_callVV (As := [.int 0]) (k_X12_look fu hE ha0 hu22) dX12_compute_149 v_X12_274 ha0 rfl rfl rfl rfl (Nat.le_of_ble_eq_true rfl) ⟨Nat.le_of_ble_eq_true rfl, Nat.le_of_ble_eq_true rfl, Nat.le_of_ble_eq_true rfl, Nat.le_of_ble_eq_true rfl⟩ ?_
                refine K_goto (tgt := 194) dX12_compute_152 (by decide) ?_
                exact K_vret dX12_compute_194 hQ rfl (Nat.le_of_ble_eq_true rfl) (Nat.le_of_ble_eq_true rfl)
              · refine K_iconst (v := 1) dX12_compute_144 (by decide) ?_
                refine K_goto (tgt := 149) dX12_compute_145 (by decide) ?_
                refine K_bind (fun u23 hu23 => ?_)
                refine K_callVV (As := [.int 1]) (k_X12_look fu hE ha0 hu23) dX12_compute_149 v_X12_274 ha0 rfl rfl rfl rfl (Nat.le_of_ble_eq_true rfl) ⟨Nat.le_of_ble_eq_true rfl, Nat.le_of_ble_eq_true rfl, Nat.le_of_ble_eq_true rfl, Nat.le_of_ble_eq_true rfl⟩ ?_
                refine K_goto (tgt := 194) dX12_compute_152 (by decide) ?_
                exact K_vret dX12_compute_194 hQ rfl (Nat.le_of_ble_eq_true rfl) (Nat.le_of_ble_eq_true rfl)
            · refine K_ite (fun c25 => ?_) (fun c25 => ?_)
              · refine K_tswIn (tgt := 155) 23 dX12_compute_1 c25 (by decide) (by decide) rfl (by decide) ?_
                refine K_aload_n dX12_compute_155 rfl rfl ?_
                refine K_bind (fun u26 hu26 => ?_)
                refine K_callVV (As := []) (k_X12_popInt fu hE ha0 hu26) dX12_compute_156 v_X12_277 ha0 rfl rfl rfl rfl (Nat.le_of_ble_eq_true rfl) ⟨Nat.le_of_ble_eq_true rfl, Nat.le_of_ble_eq_true rfl, Nat.le_of_ble_eq_true rfl, Nat.le_of_ble_eq_true rfl⟩ ?_
                refine K_goto (tgt := 194) dX12_compute_159 (by decide) ?_
                exact K_vret dX12_compute_194 hQ rfl (Nat.le_of_ble_eq_true rfl) (Nat.le_of_ble_eq_true rfl)
              · refine K_ite (fun c27 => ?_) (fun c27 => ?_)
                · refine K_tswIn (tgt := 162) 24 dX12_compute_1 c27 (by decide) (by decide) rfl (by decide) ?_
                  refine K_aload_n dX12_compute_162 rfl rfl ?_
                  refine K_bind (fun u28 hu28 => ?_)
                  refine K_callVV (As := []) (k_X12_popInt fu hE ha0 hu28) dX12_compute_163 v_X12_277 ha0 rfl rfl rfl rfl (Nat.le_of_ble_eq_true rfl) ⟨Nat.le_of_ble_eq_true rfl, Nat.le_of_ble_eq_true rfl, Nat.le_of_ble_eq_true rfl, Nat.le_of_ble_eq_true rfl⟩ ?_
                  refine K_aload_n dX12_compute_166 rfl rfl ?_
                  refine K_bind (fun u29 hu29 => ?_)
                  refine K_callVV (As := []) (k_X12_popInt fu hE ha0 hu29) dX12_compute_167 v_X12_277 ha0 rfl rfl rfl rfl (Nat.le_of_ble_eq_true rfl) ⟨Nat.le_of_ble_eq_true rfl, Nat.le_of_ble_eq_true rfl, Nat.le_of_ble_eq_true rfl, Nat.le_of_ble_eq_true rfl⟩ ?_
                  refine K_goto (tgt := 194) dX12_compute_170 (by decide) ?_
                  exact K_vret dX12_compute_194 hQ rfl (Nat.le_of_ble_eq_true rfl) (Nat.le_of_ble_eq_true rfl)
                · refine K_ite (fun c30 => ?_) (fun c30 => ?_)
                  · refine K_tswIn (tgt := 173) 25 dX12_compute_1 c30 (by decide) (by decide) rfl (by decide) ?_
                    refine K_aload_n dX12_compute_173 rfl rfl ?_
                    refine K_bind (fun u31 hu31 => ?_)
                    refine K_callVI (As := []) (k_X12_popAnyReference fu hE ha0 hu31) dX12_compute_174 v_X12_283 ha0 rfl rfl rfl rfl (Nat.le_of_ble_eq_true rfl) ⟨Nat.le_of_ble_eq_true rfl, Nat.le_of_ble_eq_true rfl, Nat.le_of_ble_eq_true rfl, Nat.le_of_ble_eq_true rfl⟩ ?_
                    refine K_pop dX12_compute_177 rfl ?_
                    refine K_goto (tgt := 194) dX12_compute_178 (by decide) ?_
                    exact K_vret dX12_compute_194 hQ rfl (Nat.le_of_ble_eq_true rfl) (Nat.le_of_ble_eq_true rfl)
                  · refine K_ite (fun c32 => ?_) (fun c32 => ?_)
                    · refine K_tswIn (tgt := 181) 26 dX12_compute_1 c32 (by decide) (by decide) rfl (by decide) ?_
                      refine K_aload_n dX12_compute_181 rfl rfl ?_
                      refine K_bind (fun u33 hu33 => ?_)
                      refine K_callVI (As := []) (k_X12_popAnyReference fu hE ha0 hu33) dX12_compute_182 v_X12_283 ha0 rfl rfl rfl rfl (Nat.le_of_ble_eq_true rfl) ⟨Nat.le_of_ble_eq_true rfl, Nat.le_of_ble_eq_true rfl, Nat.le_of_ble_eq_true rfl, Nat.le_of_ble_eq_true rfl⟩ ?_
                      refine K_pop dX12_compute_185 rfl ?_
                      refine K_aload_n dX12_compute_186 rfl rfl ?_
                      refine K_bind (fun u34 hu34 => ?_)
                      refine K_callVI (As := []) (k_X12_popAnyReference fu hE ha0 hu34) dX12_compute_187 v_X12_283 ha0 rfl rfl rfl rfl (Nat.le_of_ble_eq_true rfl) ⟨Nat.le_of_ble_eq_true rfl, Nat.le_of_ble_eq_true rfl, Nat.le_of_ble_eq_true rfl, Nat.le_of_ble_eq_true rfl⟩ ?_
                      refine K_pop dX12_compute_190 rfl ?_
                      refine K_goto (tgt := 194) dX12_compute_191 (by decide) ?_
                      exact K_vret dX12_compute_194 hQ rfl (Nat.le_of_ble_eq_true rfl) (Nat.le_of_ble_eq_true rfl)
                    · refine K_tswD (tgt := 194) [16, 17, 18, 19, 20, 21, 23, 24, 25, 26] dX12_compute_1 (List.forall_mem_cons.mpr ⟨c1, List.forall_mem_cons.mpr ⟨c5, List.forall_mem_cons.mpr ⟨c9, List.forall_mem_cons.mpr ⟨c12, List.forall_mem_cons.mpr ⟨c15, List.forall_mem_cons.mpr ⟨c19, List.forall_mem_cons.mpr ⟨c25, List.forall_mem_cons.mpr ⟨c27, List.forall_mem_cons.mpr ⟨c30, List.forall_mem_cons.mpr ⟨c32, fun _ h => absurd h List.not_mem_nil⟩⟩⟩⟩⟩⟩⟩⟩⟩⟩) (by decide) (by decide) ?_
                      exact K_vret dX12_compute_194 hQ rfl (Nat.le_of_ble_eq_true rfl) (Nat.le_of_ble_eq_true rfl)
def sp_X12_leave (fu : Nat) (E : Ev) (S : St) (a0 : Nat) (x1 : Int32) : Option St :=
  if inb (S.1 a0 16) 30 = true then
    (
    bnd (S.2.1 (E.2 a0 10) (S.1 a0 16).toNatClampNeg) fun v3 =>
    if x1 = 31 then (
      (sp_X12_popReference fu E S a0).bind fun u25 =>
      some u25.2
    ) else (
      if x1 = 27 then (
        (sp_X12_popInt fu E S a0).bind fun u21 =>
        if v3 = 0 then (
          some u21
        ) else (
          (sp_X12_fail fu E u21 a0 9 (u21.1 a0 43)).bind fun u22 =>
          some u22
        )
      ) else (
        if x1 = 28 then (
          (sp_X12_popLong fu E S a0).bind fun u17 =>
          if v3 = 8 then (
            some u17
          ) else (
            (sp_X12_fail fu E u17 a0 9 (u17.1 a0 43)).bind fun u18 =>
            some u18
          )
        ) else (
          if x1 = 29 then (
            (sp_X12_popReference fu E S a0).bind fun u9 =>
            (sp_X12_isReferenceType fu E u9.2 a0 v3).bind fun u10 =>
            if u10.1 = 0 then (
              (sp_X12_fail fu E u10.2 a0 9 (u10.2.1 a0 43)).bind fun u11 =>
              some u11
            ) else (
              (sp_X12_fits fu E u10.2 a0 u9.1 v3).bind fun u12 =>
              if u12.1 = 0 then (
                (sp_X12_fail fu E u12.2 a0 9 (u12.2.1 a0 43)).bind fun u13 =>
                some u13
              ) else (
                some u12.2
              )
            )
          ) else (
            if v3 = (-1) then (
              if (S.2.1 (E.2 a0 39) (25 : Int32).toNatClampNeg) = 1 then (
                (sp_X12_fail fu E S a0 9 (S.1 a0 43)).bind fun u6 =>
                some u6
              ) else (
                some S
              )
            ) else (
              (sp_X12_fail fu E S a0 9 (S.1 a0 43)).bind fun u4 =>
              some u4
            )
          )
        )
      )
    )
    )
  else none
set_option maxRecDepth 100000 in
theorem k_X12_leave {l : Launch} (fu : Nat) {E : Ev} (hE : WE E) {a0 : Nat} (ha0 : E.1 a0 = some (0, 10, 0)) {x1 : Int32} {S : St} {t : St} (h : sp_X12_leave fu E S a0 x1 = some t) : Cn l mX12_leave [.ref a0, .int x1] (hp E S) (PoV E t) := by
  refine Cn.of (by decide) rfl (Nat.le_of_ble_eq_true rfl) (fun X _ _ hQ => ?_)
  refine (?_ : K mX12_leave X E 0 [(0, .ref a0), (1, .int x1)] [] S 0 0 (sp_X12_leave fu E S a0 x1) t) h
  unfold sp_X12_leave
  refine K_aload_n dX12_leave_0 rfl rfl ?_
  refine K_getC hE dX12_leave_1 f_X12_33_10 ha0 rfl rfl (fun h1 => ?_)
  refine K_aload_n dX12_leave_4 rfl rfl ?_
  refine K_getI dX12_leave_5 f_X12_156_10 ha0 rfl ?_
  refine K_chk (fun h2 => ?_)
  refine K_iald dX12_leave_8 h1 h2 ?_
  refine K_nmI (fun v3 => ?_)
  refine K_istore_n (ls' := [(0, _), (1, _), (2, _)]) dX12_leave_9 rfl (by decide) rfl ?_
  refine K_iload_n dX12_leave_10 rfl rfl ?_
  refine K_bipush (v := 31) dX12_leave_11 (by decide) ?_
  refine K_icmp_ne (tgt := 24) dX12_leave_13 (by decide) (fun c26 => ?_) (fun c26 => ?_)
  · refine K_iload_n dX12_leave_24 rfl rfl ?_
    refine K_bipush (v := 27) dX12_leave_25 (by decide) ?_
    refine K_icmp_ne (tgt := 51) dX12_leave_27 (by decide) (fun c24 => ?_) (fun c24 => ?_)
    · refine K_iload_n dX12_leave_51 rfl rfl ?_
      refine K_bipush (v := 28) dX12_leave_52 (by decide) ?_
      refine K_icmp_ne (tgt := 80) dX12_leave_54 (by decide) (fun c20 => ?_) (fun c20 => ?_)
      · refine K_iload_n dX12_leave_80 rfl rfl ?_
        refine K_bipush (v := 29) dX12_leave_81 (by decide) ?_
        refine K_icmp_ne (tgt := 121) dX12_leave_83 (by decide) (fun c16 => ?_) (fun c16 => ?_)
        · refine K_iload_n dX12_leave_121 rfl rfl ?_
          refine K_iconst (v := (-1)) dX12_leave_122 (by decide) ?_
          refine K_icmp_ne (tgt := 137) dX12_leave_123 (by decide) (fun c8 => ?_) (fun c8 => ?_)
          · refine K_aload_n dX12_leave_137 rfl rfl ?_
            refine K_bipush (v := 9) dX12_leave_138 (by decide) ?_
            refine K_aload_n dX12_leave_140 rfl rfl ?_
            refine K_getI dX12_leave_141 f_X12_222_10 ha0 rfl ?_
            refine K_bind (fun u4 hu4 => ?_)
            refine K_callVV (As := [.int 9, .int (S.1 a0 43)]) (k_X12_fail fu hE ha0 hu4) dX12_leave_144 v_X12_208 ha0 rfl rfl rfl rfl (Nat.le_of_ble_eq_true rfl) ⟨Nat.le_of_ble_eq_true rfl, Nat.le_of_ble_eq_true rfl, Nat.le_of_ble_eq_true rfl, Nat.le_of_ble_eq_true rfl⟩ ?_
            exact K_vret dX12_leave_147 hQ rfl (Nat.le_of_ble_eq_true rfl) (Nat.le_of_ble_eq_true rfl)
          · refine K_aload_n dX12_leave_126 rfl rfl ?_
            refine K_getC hE dX12_leave_127 f_X12_81_10 ha0 rfl rfl (fun h5 => ?_)
            refine K_bipush (v := 25) dX12_leave_130 (by decide) ?_
            refine K_iald dX12_leave_132 h5 (by decide) ?_
            refine K_iconst (v := 1) dX12_leave_133 (by decide) ?_
            refine K_icmp_ne (tgt := 147) dX12_leave_134 (by decide) (fun c7 => ?_) (fun c7 => ?_)
            · exact K_vret dX12_leave_147 hQ rfl (Nat.le_of_ble_eq_true rfl) (Nat.le_of_ble_eq_true rfl)
            · refine K_aload_n dX12_leave_137 rfl rfl ?_
              refine K_bipush (v := 9) dX12_leave_138 (by decide) ?_
              refine K_aload_n dX12_leave_140 rfl rfl ?_
              refine K_getI dX12_leave_141 f_X12_222_10 ha0 rfl ?_
              refine K_bind (fun u6 hu6 => ?_)
              refine K_callVV (As := [.int 9, .int (S.1 a0 43)]) (k_X12_fail fu hE ha0 hu6) dX12_leave_144 v_X12_208 ha0 rfl rfl rfl rfl (Nat.le_of_ble_eq_true rfl) ⟨Nat.le_of_ble_eq_true rfl, Nat.le_of_ble_eq_true rfl, Nat.le_of_ble_eq_true rfl, Nat.le_of_ble_eq_true rfl⟩ ?_
              exact K_vret dX12_leave_147 hQ rfl (Nat.le_of_ble_eq_true rfl) (Nat.le_of_ble_eq_true rfl)
        · refine K_aload_n dX12_leave_86 rfl rfl ?_
          refine K_bind (fun u9 hu9 => ?_)
          refine K_callVI (As := []) (k_X12_popReference fu hE ha0 hu9) dX12_leave_87 v_X12_289 ha0 rfl rfl rfl rfl (Nat.le_of_ble_eq_true rfl) ⟨Nat.le_of_ble_eq_true rfl, Nat.le_of_ble_eq_true rfl, Nat.le_of_ble_eq_true rfl, Nat.le_of_ble_eq_true rfl⟩ ?_
          refine K_istore_n (ls' := [(0, _), (1, _), (2, _), (3, _)]) dX12_leave_90 rfl (by decide) rfl ?_
          refine K_aload_n dX12_leave_91 rfl rfl ?_
          refine K_iload_n dX12_leave_92 rfl rfl ?_
          refine K_bind (fun u10 hu10 => ?_)
          refine K_callVI (As := [.int v3]) (k_X12_isReferenceType fu hE ha0 hu10) dX12_leave_93 v_X12_100 ha0 rfl rfl rfl rfl (Nat.le_of_ble_eq_true rfl) ⟨Nat.le_of_ble_eq_true rfl, Nat.le_of_ble_eq_true rfl, Nat.le_of_ble_eq_true rfl, Nat.le_of_ble_eq_true rfl⟩ ?_
          refine K_if_eq (tgt := 108) dX12_leave_96 (by decide) (fun c15 => ?_) (fun c15 => ?_)
          · refine K_aload_n dX12_leave_108 rfl rfl ?_
            refine K_bipush (v := 9) dX12_leave_109 (by decide) ?_
            refine K_aload_n dX12_leave_111 rfl rfl ?_
            refine K_getI dX12_leave_112 f_X12_222_10 ha0 rfl ?_
            refine K_bind (fun u11 hu11 => ?_)
            refine K_callVV (As := [.int 9, .int (u10.2.1 a0 43)]) (k_X12_fail fu hE ha0 hu11) dX12_leave_115 v_X12_208 ha0 rfl rfl rfl rfl (Nat.le_of_ble_eq_true rfl) ⟨Nat.le_of_ble_eq_true rfl, Nat.le_of_ble_eq_true rfl, Nat.le_of_ble_eq_true rfl, Nat.le_of_ble_eq_true rfl⟩ ?_
            refine K_goto (tgt := 147) dX12_leave_118 (by decide) ?_
            exact K_vret dX12_leave_147 hQ rfl (Nat.le_of_ble_eq_true rfl) (Nat.le_of_ble_eq_true rfl)
          · refine K_aload_n dX12_leave_99 rfl rfl ?_
            refine K_iload_n dX12_leave_100 rfl rfl ?_
            refine K_iload_n dX12_leave_101 rfl rfl ?_
            refine K_bind (fun u12 hu12 => ?_)
            refine K_callVI (As := [.int u9.1, .int v3]) (k_X12_fits fu hE ha0 hu12) dX12_leave_102 v_X12_130 ha0 rfl rfl rfl rfl (Nat.le_of_ble_eq_true rfl) ⟨Nat.le_of_ble_eq_true rfl, Nat.le_of_ble_eq_true rfl, Nat.le_of_ble_eq_true rfl, Nat.le_of_ble_eq_true rfl⟩ ?_
            refine K_if_ne (tgt := 118) dX12_leave_105 (by decide) (fun c14 => ?_) (fun c14 => ?_)
            · refine K_goto (tgt := 147) dX12_leave_118 (by decide) ?_
              exact K_vret dX12_leave_147 hQ rfl (Nat.le_of_ble_eq_true rfl) (Nat.le_of_ble_eq_true rfl)
            · refine K_aload_n dX12_leave_108 rfl rfl ?_
              refine K_bipush (v := 9) dX12_leave_109 (by decide) ?_
              refine K_aload_n dX12_leave_111 rfl rfl ?_
              refine K_getI dX12_leave_112 f_X12_222_10 ha0 rfl ?_
              refine K_bind (fun u13 hu13 => ?_)
              refine K_callVV (As := [.int 9, .int (u12.2.1 a0 43)]) (k_X12_fail fu hE ha0 hu13) dX12_leave_115 v_X12_208 ha0 rfl rfl rfl rfl (Nat.le_of_ble_eq_true rfl) ⟨Nat.le_of_ble_eq_true rfl, Nat.le_of_ble_eq_true rfl, Nat.le_of_ble_eq_true rfl, Nat.le_of_ble_eq_true rfl⟩ ?_
              refine K_goto (tgt := 147) dX12_leave_118 (by decide) ?_
              exact K_vret dX12_leave_147 hQ rfl (Nat.le_of_ble_eq_true rfl) (Nat.le_of_ble_eq_true rfl)
      · refine K_aload_n dX12_leave_57 rfl rfl ?_
        refine K_bind (fun u17 hu17 => ?_)
        refine K_callVV (As := []) (k_X12_popLong fu hE ha0 hu17) dX12_leave_58 v_X12_241 ha0 rfl rfl rfl rfl (Nat.le_of_ble_eq_true rfl) ⟨Nat.le_of_ble_eq_true rfl, Nat.le_of_ble_eq_true rfl, Nat.le_of_ble_eq_true rfl, Nat.le_of_ble_eq_true rfl⟩ ?_
        refine K_iload_n dX12_leave_61 rfl rfl ?_
        refine K_bipush (v := 8) dX12_leave_62 (by decide) ?_
        refine K_icmp_eq (tgt := 147) dX12_leave_64 (by decide) (fun c19 => ?_) (fun c19 => ?_)
        · exact K_vret dX12_leave_147 hQ rfl (Nat.le_of_ble_eq_true rfl) (Nat.le_of_ble_eq_true rfl)
        · refine K_aload_n dX12_leave_67 rfl rfl ?_
          refine K_bipush (v := 9) dX12_leave_68 (by decide) ?_
          refine K_aload_n dX12_leave_70 rfl rfl ?_
          refine K_getI dX12_leave_71 f_X12_222_10 ha0 rfl ?_
          refine K_bind (fun u18 hu18 => ?_)
          refine K_callVV (As := [.int 9, .int (u17.1 a0 43)]) (k_X12_fail fu hE ha0 hu18) dX12_leave_74 v_X12_208 ha0 rfl rfl rfl rfl (Nat.le_of_ble_eq_true rfl) ⟨Nat.le_of_ble_eq_true rfl, Nat.le_of_ble_eq_true rfl, Nat.le_of_ble_eq_true rfl, Nat.le_of_ble_eq_true rfl⟩ ?_
          refine K_goto (tgt := 147) dX12_leave_77 (by decide) ?_
          exact K_vret dX12_leave_147 hQ rfl (Nat.le_of_ble_eq_true rfl) (Nat.le_of_ble_eq_true rfl)
    · refine K_aload_n dX12_leave_30 rfl rfl ?_
      refine K_bind (fun u21 hu21 => ?_)
      refine K_callVV (As := []) (k_X12_popInt fu hE ha0 hu21) dX12_leave_31 v_X12_277 ha0 rfl rfl rfl rfl (Nat.le_of_ble_eq_true rfl) ⟨Nat.le_of_ble_eq_true rfl, Nat.le_of_ble_eq_true rfl, Nat.le_of_ble_eq_true rfl, Nat.le_of_ble_eq_true rfl⟩ ?_
      refine K_iload_n dX12_leave_34 rfl rfl ?_
      refine K_if_eq (tgt := 147) dX12_leave_35 (by decide) (fun c23 => ?_) (fun c23 => ?_)
      · exact K_vret dX12_leave_147 hQ rfl (Nat.le_of_ble_eq_true rfl) (Nat.le_of_ble_eq_true rfl)
      · refine K_aload_n dX12_leave_38 rfl rfl ?_
        refine K_bipush (v := 9) dX12_leave_39 (by decide) ?_
        refine K_aload_n dX12_leave_41 rfl rfl ?_
        refine K_getI dX12_leave_42 f_X12_222_10 ha0 rfl ?_
        refine K_bind (fun u22 hu22 => ?_)
        refine K_callVV (As := [.int 9, .int (u21.1 a0 43)]) (k_X12_fail fu hE ha0 hu22) dX12_leave_45 v_X12_208 ha0 rfl rfl rfl rfl (Nat.le_of_ble_eq_true rfl) ⟨Nat.le_of_ble_eq_true rfl, Nat.le_of_ble_eq_true rfl, Nat.le_of_ble_eq_true rfl, Nat.le_of_ble_eq_true rfl⟩ ?_
        refine K_goto (tgt := 147) dX12_leave_48 (by decide) ?_
        exact K_vret dX12_leave_147 hQ rfl (Nat.le_of_ble_eq_true rfl) (Nat.le_of_ble_eq_true rfl)
  · refine K_aload_n dX12_leave_16 rfl rfl ?_
    refine K_bind (fun u25 hu25 => ?_)
    refine K_callVI (As := []) (k_X12_popReference fu hE ha0 hu25) dX12_leave_17 v_X12_289 ha0 rfl rfl rfl rfl (Nat.le_of_ble_eq_true rfl) ⟨Nat.le_of_ble_eq_true rfl, Nat.le_of_ble_eq_true rfl, Nat.le_of_ble_eq_true rfl, Nat.le_of_ble_eq_true rfl⟩ ?_
    refine K_pop dX12_leave_20 rfl ?_
    refine K_goto (tgt := 147) dX12_leave_21 (by decide) ?_
    exact K_vret dX12_leave_147 hQ rfl (Nat.le_of_ble_eq_true rfl) (Nat.le_of_ble_eq_true rfl)
