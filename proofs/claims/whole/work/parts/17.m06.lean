def bd_X11_digest_96 (fu : Nat) (E : Ev) (a0 : Nat) (rc96 : Int64 → Int32 → St → Option (Int64 × St)) (x1 : Int64) (x3 : Int32) (S : St) : Option (Int64 × St) :=
  if (S.1 (E.2 a0 2) 6) ≤ x3 then (
    some (x1, S)
  ) else (
    (sp_X4_contains fu E S (E.2 a0 5) x3).bind fun u15 =>
    if u15.1 = 0 then (
      bnd (x1 * 31) fun v16 =>
      rc96 v16 (x3 + 1) u15.2
    ) else (
      if inb x3 100 = true then
        (
        (sp_X11_addFrame fu E u15.2 a0 ((x1 * 31) + 1) (E.2 (E.2 (E.2 a0 5) 0) x3.toNatClampNeg)).bind fun u21 =>
        rc96 u21.1 (x3 + 1) u21.2
        )
      else none
    )
  )
def lp_X11_digest_96 (fu : Nat) (E : Ev) (a0 : Nat) : Nat → Int64 → Int32 → St → Option (Int64 × St)
  | 0, _, _, _ => none
  | f + 1, x1, x3, S => bd_X11_digest_96 fu E a0 (lp_X11_digest_96 fu E a0 f) x1 x3 S
set_option maxRecDepth 100000 in
theorem kl_X11_digest_96 {X : Cx} {E : Ev} {t : (Int64 × St)} {a0 : Nat} (hQ : EndR mX11_digest X (PoL E t)) (hE : WE E) (fu : Nat) (ha0 : E.1 a0 = some (0, 9, 0)) : ∀ (f : Nat) (x1 : Int64) (x3 : Int32) (S : St), K mX11_digest X E 96 [(0, .ref a0), (1, .long x1), (3, .int x3)] [] S 0 0 (lp_X11_digest_96 fu E a0 f x1 x3 S) t := by
  intro f
  induction f with
  | zero => intro x1 x3 S; exact K_none
  | succ f hrc96 =>
    intro x1 x3 S
    show K _ _ _ _ _ _ _ _ _ (bd_X11_digest_96 fu E a0 (lp_X11_digest_96 fu E a0 f) x1 x3 S) t
    unfold bd_X11_digest_96
    refine K_iload_n dX11_digest_96 rfl rfl ?_
    refine K_aload_n dX11_digest_97 rfl rfl ?_
    refine K_getC hE dX11_digest_98 f_X11_26_9 ha0 rfl rfl (fun h13 => ?_)
    refine K_getI dX11_digest_101 f_X11_194_0 h13 rfl ?_
    refine K_icmp_ge (tgt := 154) dX11_digest_104 (by decide) (fun c23 => ?_) (fun c23 => ?_)
    · refine K_lload_n dX11_digest_154 rfl rfl ?_
      exact K_lret dX11_digest_155 hQ rfl (Nat.le_of_ble_eq_true rfl) (Nat.le_of_ble_eq_true rfl)
    · refine K_aload_n dX11_digest_107 rfl rfl ?_
      refine K_getC hE dX11_digest_108 f_X11_47_9 ha0 rfl rfl (fun h14 => ?_)
      refine K_iload_n dX11_digest_111 rfl rfl ?_
      refine K_bind (fun u15 hu15 => ?_)
      refine K_callVI (As := [.int x3]) (k_X4_contains fu hE h14 hu15) dX11_digest_112 v_X11_260 h14 rfl rfl rfl rfl (Nat.le_of_ble_eq_true rfl) ⟨Nat.le_of_ble_eq_true rfl, Nat.le_of_ble_eq_true rfl, Nat.le_of_ble_eq_true rfl, Nat.le_of_ble_eq_true rfl⟩ ?_
      refine K_if_eq (tgt := 142) dX11_digest_115 (by decide) (fun c22 => ?_) (fun c22 => ?_)
      · refine K_lload_n dX11_digest_142 rfl rfl ?_
        refine K_ldc2 (v := 31) dX11_digest_143 c2_X11_324 ?_
        refine K_lmul dX11_digest_146 ?_
        refine K_nmL (fun v16 => ?_)
        refine K_lstore_n (ls' := [(1, _), (0, _), (3, _)]) dX11_digest_147 rfl (by decide) rfl ?_
        refine K_iinc (v := (x3 + 1)) (ls' := [(1, _), (0, _), (3, _)]) dX11_digest_148 rfl rfl (by decide) rfl ?_
        refine K_goto (tgt := 96) dX11_digest_151 (by decide) ?_
        refine K.keep [0, 1, 3] ?_
        exact hrc96 v16 (x3 + 1) u15.2
      · refine K_aload_n dX11_digest_118 rfl rfl ?_
        refine K_lload_n dX11_digest_119 rfl rfl ?_
        refine K_ldc2 (v := 31) dX11_digest_120 c2_X11_324 ?_
        refine K_lmul dX11_digest_123 ?_
        refine K_lconst (v := 1) dX11_digest_124 rfl ?_
        refine K_ladd dX11_digest_125 ?_
        refine K_aload_n dX11_digest_126 rfl rfl ?_
        refine K_getC hE dX11_digest_127 f_X11_47_9 ha0 rfl rfl (fun h17 => ?_)
        refine K_getC hE dX11_digest_130 f_X11_285_3 h17 rfl rfl (fun h18 => ?_)
        refine K_iload_n dX11_digest_133 rfl rfl ?_
        refine K_chk (fun h19 => ?_)
        refine K_qald hE dX11_digest_134 h18 h19 (fun h20 => ?_)
        refine K_bind (fun u21 hu21 => ?_)
        refine K_callVL (As := [.long ((x1 * 31) + 1), .ref (E.2 (E.2 (E.2 a0 5) 0) x3.toNatClampNeg)]) (k_X11_addFrame fu hE ha0 h20 hu21) dX11_digest_135 v_X11_326 ha0 rfl rfl rfl rfl (Nat.le_of_ble_eq_true rfl) ⟨Nat.le_of_ble_eq_true rfl, Nat.le_of_ble_eq_true rfl, Nat.le_of_ble_eq_true rfl, Nat.le_of_ble_eq_true rfl⟩ ?_
        refine K_lstore_n (ls' := [(1, _), (0, _), (3, _)]) dX11_digest_138 rfl (by decide) rfl ?_
        refine K_goto (tgt := 148) dX11_digest_139 (by decide) ?_
        refine K_iinc (v := (x3 + 1)) (ls' := [(1, _), (0, _), (3, _)]) dX11_digest_148 rfl rfl (by decide) rfl ?_
        refine K_goto (tgt := 96) dX11_digest_151 (by decide) ?_
        refine K.keep [0, 1, 3] ?_
        exact hrc96 u21.1 (x3 + 1) u21.2
def sp_X11_digest (fu : Nat) (E : Ev) (S : St) (a0 : Nat) : Option (Int64 × St) :=
  bnd ((37 * 31) + ((S.1 (E.2 a0 0) 2).toInt64)) fun v2 =>
  bnd ((v2 * 31) + ((S.1 (E.2 a0 1) 2).toInt64)) fun v4 =>
  bnd ((v4 * 31) + ((S.1 (E.2 a0 1) 9).toInt64)) fun v6 =>
  bnd ((v6 * 31) + ((S.1 (E.2 a0 2) 6).toInt64)) fun v8 =>
  bnd ((v8 * 31) + ((S.1 (E.2 a0 2) 11).toInt64)) fun v10 =>
  bnd ((v10 * 31) + ((S.1 (E.2 a0 6) 2).toInt64)) fun v12 =>
  lp_X11_digest_96 fu E a0 fu v12 0 S
set_option maxRecDepth 100000 in
theorem k_X11_digest {l : Launch} (fu : Nat) {E : Ev} (hE : WE E) {a0 : Nat} (ha0 : E.1 a0 = some (0, 9, 0)) {S : St} {t : (Int64 × St)} (h : sp_X11_digest fu E S a0 = some t) : Cn l mX11_digest [.ref a0] (hp E S) (PoL E t) := by
  refine Cn.of (by decide) rfl (Nat.le_of_ble_eq_true rfl) (fun X _ _ hQ => ?_)
  refine (?_ : K mX11_digest X E 0 [(0, .ref a0)] [] S 0 0 (sp_X11_digest fu E S a0) t) h
  unfold sp_X11_digest
  refine K_ldc2 (v := 37) dX11_digest_0 c2_X11_322 ?_
  refine K_lstore_n (ls' := [(1, _), (0, _)]) dX11_digest_3 rfl (by decide) rfl ?_
  refine K_lload_n dX11_digest_4 rfl rfl ?_
  refine K_ldc2 (v := 31) dX11_digest_5 c2_X11_324 ?_
  refine K_lmul dX11_digest_8 ?_
  refine K_aload_n dX11_digest_9 rfl rfl ?_
  refine K_getC hE dX11_digest_10 f_X11_10_9 ha0 rfl rfl (fun h1 => ?_)
  refine K_getI dX11_digest_13 f_X11_87_8 h1 rfl ?_
  refine K_i2l dX11_digest_16 ?_
  refine K_ladd dX11_digest_17 ?_
  refine K_nmL (fun v2 => ?_)
  refine K_lstore_n (ls' := [(1, _), (0, _)]) dX11_digest_18 rfl (by decide) rfl ?_
  refine K_lload_n dX11_digest_19 rfl rfl ?_
  refine K_ldc2 (v := 31) dX11_digest_20 c2_X11_324 ?_
  refine K_lmul dX11_digest_23 ?_
  refine K_aload_n dX11_digest_24 rfl rfl ?_
  refine K_getC hE dX11_digest_25 f_X11_19_9 ha0 rfl rfl (fun h3 => ?_)
  refine K_getI dX11_digest_28 f_X11_104_7 h3 rfl ?_
  refine K_i2l dX11_digest_31 ?_
  refine K_ladd dX11_digest_32 ?_
  refine K_nmL (fun v4 => ?_)
  refine K_lstore_n (ls' := [(1, _), (0, _)]) dX11_digest_33 rfl (by decide) rfl ?_
  refine K_lload_n dX11_digest_34 rfl rfl ?_
  refine K_ldc2 (v := 31) dX11_digest_35 c2_X11_324 ?_
  refine K_lmul dX11_digest_38 ?_
  refine K_aload_n dX11_digest_39 rfl rfl ?_
  refine K_getC hE dX11_digest_40 f_X11_19_9 ha0 rfl rfl (fun h5 => ?_)
  refine K_getI dX11_digest_43 f_X11_136_7 h5 rfl ?_
  refine K_i2l dX11_digest_46 ?_
  refine K_ladd dX11_digest_47 ?_
  refine K_nmL (fun v6 => ?_)
  refine K_lstore_n (ls' := [(1, _), (0, _)]) dX11_digest_48 rfl (by decide) rfl ?_
  refine K_lload_n dX11_digest_49 rfl rfl ?_
  refine K_ldc2 (v := 31) dX11_digest_50 c2_X11_324 ?_
  refine K_lmul dX11_digest_53 ?_
  refine K_aload_n dX11_digest_54 rfl rfl ?_
  refine K_getC hE dX11_digest_55 f_X11_26_9 ha0 rfl rfl (fun h7 => ?_)
  refine K_getI dX11_digest_58 f_X11_194_0 h7 rfl ?_
  refine K_i2l dX11_digest_61 ?_
  refine K_ladd dX11_digest_62 ?_
  refine K_nmL (fun v8 => ?_)
  refine K_lstore_n (ls' := [(1, _), (0, _)]) dX11_digest_63 rfl (by decide) rfl ?_
  refine K_lload_n dX11_digest_64 rfl rfl ?_
  refine K_ldc2 (v := 31) dX11_digest_65 c2_X11_324 ?_
  refine K_lmul dX11_digest_68 ?_
  refine K_aload_n dX11_digest_69 rfl rfl ?_
  refine K_getC hE dX11_digest_70 f_X11_26_9 ha0 rfl rfl (fun h9 => ?_)
  refine K_getI dX11_digest_73 f_X11_202_0 h9 rfl ?_
  refine K_i2l dX11_digest_76 ?_
  refine K_ladd dX11_digest_77 ?_
  refine K_nmL (fun v10 => ?_)
  refine K_lstore_n (ls' := [(1, _), (0, _)]) dX11_digest_78 rfl (by decide) rfl ?_
  refine K_lload_n dX11_digest_79 rfl rfl ?_
  refine K_ldc2 (v := 31) dX11_digest_80 c2_X11_324 ?_
  refine K_lmul dX11_digest_83 ?_
  refine K_aload_n dX11_digest_84 rfl rfl ?_
  refine K_getC hE dX11_digest_85 f_X11_51_9 ha0 rfl rfl (fun h11 => ?_)
  refine K_getI dX11_digest_88 f_X11_248_3 h11 rfl ?_
  refine K_i2l dX11_digest_91 ?_
  refine K_ladd dX11_digest_92 ?_
  refine K_nmL (fun v12 => ?_)
  refine K_lstore_n (ls' := [(1, _), (0, _)]) dX11_digest_93 rfl (by decide) rfl ?_
  refine K_iconst (v := 0) dX11_digest_94 (by decide) ?_
  refine K_istore_n (ls' := [(1, _), (0, _), (3, _)]) dX11_digest_95 rfl (by decide) rfl ?_
  refine K.keep [0, 1, 3] ?_
  exact kl_X11_digest_96 hQ hE fu ha0 fu v12 0 S
def sp_X12_thrown (fu : Nat) (E : Ev) (S : St) (a0 : Nat) : Option (Int32 × St) :=
  some (S.1 a0 0, S)
set_option maxRecDepth 100000 in
theorem k_X12_thrown {l : Launch} (fu : Nat) {E : Ev} (hE : WE E) {a0 : Nat} (ha0 : E.1 a0 = some (0, 10, 0)) {S : St} {t : (Int32 × St)} (h : sp_X12_thrown fu E S a0 = some t) : Cn l mX12_thrown [.ref a0] (hp E S) (PoI E t) := by
  refine Cn.of (by decide) rfl (Nat.le_of_ble_eq_true rfl) (fun X _ _ hQ => ?_)
  refine (?_ : K mX12_thrown X E 0 [(0, .ref a0)] [] S 0 0 (sp_X12_thrown fu E S a0) t) h
  unfold sp_X12_thrown
  refine K_aload_n dX12_thrown_0 rfl rfl ?_
  refine K_getI dX12_thrown_1 f_X12_90_10 ha0 rfl ?_
  exact K_iret dX12_thrown_4 hQ rfl (Nat.le_of_ble_eq_true rfl) (Nat.le_of_ble_eq_true rfl)
def sp_X12_no (fu : Nat) (E : Ev) (S : St) (a0 : Nat) (x1 : Int32) : Option (Int32 × St) :=
  bnd (sF S a0 0 x1) fun S1 =>
  some (0, S1)
set_option maxRecDepth 100000 in
theorem k_X12_no {l : Launch} (fu : Nat) {E : Ev} (hE : WE E) {a0 : Nat} (ha0 : E.1 a0 = some (0, 10, 0)) {x1 : Int32} {S : St} {t : (Int32 × St)} (h : sp_X12_no fu E S a0 x1 = some t) : Cn l mX12_no [.ref a0, .int x1] (hp E S) (PoI E t) := by
  refine Cn.of (by decide) rfl (Nat.le_of_ble_eq_true rfl) (fun X _ _ hQ => ?_)
  refine (?_ : K mX12_no X E 0 [(0, .ref a0), (1, .int x1)] [] S 0 0 (sp_X12_no fu E S a0 x1) t) h
  unfold sp_X12_no
  refine K_aload_n dX12_no_0 rfl rfl ?_
  refine K_iload_n dX12_no_1 rfl rfl ?_
  refine K_putI dX12_no_2 p_X12_90_10 ha0 rfl ?_
  refine K_nmS (fun S1 => ?_)
  refine K_iconst (v := 0) dX12_no_5 (by decide) ?_
  exact K_iret dX12_no_6 hQ rfl (Nat.le_of_ble_eq_true rfl) (Nat.le_of_ble_eq_true rfl)
def sp_X12_isClass (fu : Nat) (E : Ev) (S : St) (a0 : Nat) (x1 : Int32) : Option (Int32 × St) :=
  if x1 < 2 then (
    some (0, S)
  ) else (
    if (S.1 a0 1) ≤ x1 then (
      some (0, S)
    ) else (
      if inb x1 20 = true then
        (
        if (S.2.1 (E.2 a0 3) x1.toNatClampNeg) = 0 then (
          some (1, S)
        ) else (
          some (0, S)
        )
        )
      else none
    )
  )
set_option maxRecDepth 100000 in
theorem k_X12_isClass {l : Launch} (fu : Nat) {E : Ev} (hE : WE E) {a0 : Nat} (ha0 : E.1 a0 = some (0, 10, 0)) {x1 : Int32} {S : St} {t : (Int32 × St)} (h : sp_X12_isClass fu E S a0 x1 = some t) : Cn l mX12_isClass [.ref a0, .int x1] (hp E S) (PoI E t) := by
  refine Cn.of (by decide) rfl (Nat.le_of_ble_eq_true rfl) (fun X _ _ hQ => ?_)
  refine (?_ : K mX12_isClass X E 0 [(0, .ref a0), (1, .int x1)] [] S 0 0 (sp_X12_isClass fu E S a0 x1) t) h
  unfold sp_X12_isClass
  refine K_iload_n dX12_isClass_0 rfl rfl ?_
  refine K_iconst (v := 2) dX12_isClass_1 (by decide) ?_
  refine K_icmp_lt (tgt := 26) dX12_isClass_2 (by decide) (fun c5 => ?_) (fun c5 => ?_)
  · refine K_iconst (v := 0) dX12_isClass_26 (by decide) ?_
    exact K_zret dX12_isClass_27 hQ rfl rfl (Nat.le_of_ble_eq_true rfl) (Nat.le_of_ble_eq_true rfl)
  · refine K_iload_n dX12_isClass_5 rfl rfl ?_
    refine K_aload_n dX12_isClass_6 rfl rfl ?_
    refine K_getI dX12_isClass_7 f_X12_9_10 ha0 rfl ?_
    refine K_icmp_ge (tgt := 26) dX12_isClass_10 (by decide) (fun c4 => ?_) (fun c4 => ?_)
    · refine K_iconst (v := 0) dX12_isClass_26 (by decide) ?_
      exact K_zret dX12_isClass_27 hQ rfl rfl (Nat.le_of_ble_eq_true rfl) (Nat.le_of_ble_eq_true rfl)
    · refine K_aload_n dX12_isClass_13 rfl rfl ?_
      refine K_getC hE dX12_isClass_14 f_X12_17_10 ha0 rfl rfl (fun h1 => ?_)
      refine K_iload_n dX12_isClass_17 rfl rfl ?_
      refine K_chk (fun h2 => ?_)
      refine K_zald dX12_isClass_18 h1 h2 ?_
      refine K_if_ne (tgt := 26) dX12_isClass_19 (by decide) (fun c3 => ?_) (fun c3 => ?_)
      · refine K_iconst (v := 0) dX12_isClass_26 (by decide) ?_
        exact K_zret dX12_isClass_27 hQ rfl rfl (Nat.le_of_ble_eq_true rfl) (Nat.le_of_ble_eq_true rfl)
      · refine K_iconst (v := 1) dX12_isClass_22 (by decide) ?_
        refine K_goto (tgt := 27) dX12_isClass_23 (by decide) ?_
        exact K_zret dX12_isClass_27 hQ rfl rfl (Nat.le_of_ble_eq_true rfl) (Nat.le_of_ble_eq_true rfl)
def sp_X12_isType (fu : Nat) (E : Ev) (S : St) (a0 : Nat) (x1 : Int32) : Option (Int32 × St) :=
  if x1 < 0 then (
    some (0, S)
  ) else (
    if (S.1 a0 1) ≤ (x1 / 8) then (
      some (0, S)
    ) else (
      if 4 < (x1 - x1 / 8 * 8) then (
        some (0, S)
      ) else (
        some (1, S)
      )
    )
  )
set_option maxRecDepth 100000 in
theorem k_X12_isType {l : Launch} (fu : Nat) {E : Ev} (hE : WE E) {a0 : Nat} (ha0 : E.1 a0 = some (0, 10, 0)) {x1 : Int32} {S : St} {t : (Int32 × St)} (h : sp_X12_isType fu E S a0 x1 = some t) : Cn l mX12_isType [.ref a0, .int x1] (hp E S) (PoI E t) := by
  refine Cn.of (by decide) rfl (Nat.le_of_ble_eq_true rfl) (fun X _ _ hQ => ?_)
  refine (?_ : K mX12_isType X E 0 [(0, .ref a0), (1, .int x1)] [] S 0 0 (sp_X12_isType fu E S a0 x1) t) h
  unfold sp_X12_isType
  refine K_iload_n dX12_isType_0 rfl rfl ?_
  refine K_if_lt (tgt := 27) dX12_isType_1 (by decide) (fun c3 => ?_) (fun c3 => ?_)
  · refine K_iconst (v := 0) dX12_isType_27 (by decide) ?_
    exact K_zret dX12_isType_28 hQ rfl rfl (Nat.le_of_ble_eq_true rfl) (Nat.le_of_ble_eq_true rfl)
  · refine K_iload_n dX12_isType_4 rfl rfl ?_
    refine K_bipush (v := 8) dX12_isType_5 (by decide) ?_
    refine K_idiv dX12_isType_7 (by decide) ?_
    refine K_aload_n dX12_isType_8 rfl rfl ?_
    refine K_getI dX12_isType_9 f_X12_9_10 ha0 rfl ?_
    refine K_icmp_ge (tgt := 27) dX12_isType_12 (by decide) (fun c2 => ?_) (fun c2 => ?_)
    · refine K_iconst (v := 0) dX12_isType_27 (by decide) ?_
      exact K_zret dX12_isType_28 hQ rfl rfl (Nat.le_of_ble_eq_true rfl) (Nat.le_of_ble_eq_true rfl)
    · refine K_iload_n dX12_isType_15 rfl rfl ?_
      refine K_bipush (v := 8) dX12_isType_16 (by decide) ?_
      refine K_irem dX12_isType_18 (by decide) ?_
      refine K_iconst (v := 4) dX12_isType_19 (by decide) ?_
      refine K_icmp_gt (tgt := 27) dX12_isType_20 (by decide) (fun c1 => ?_) (fun c1 => ?_)
      · refine K_iconst (v := 0) dX12_isType_27 (by decide) ?_
        exact K_zret dX12_isType_28 hQ rfl rfl (Nat.le_of_ble_eq_true rfl) (Nat.le_of_ble_eq_true rfl)
      · refine K_iconst (v := 1) dX12_isType_23 (by decide) ?_
        refine K_goto (tgt := 28) dX12_isType_24 (by decide) ?_
        exact K_zret dX12_isType_28 hQ rfl rfl (Nat.le_of_ble_eq_true rfl) (Nat.le_of_ble_eq_true rfl)
def sp_X12_isReferenceType (fu : Nat) (E : Ev) (S : St) (a0 : Nat) (x1 : Int32) : Option (Int32 × St) :=
  (sp_X12_isType fu E S a0 x1).bind fun u1 =>
  if u1.1 = 0 then (
    some (0, u1.2)
  ) else (
    if x1 = 0 then (
      some (0, u1.2)
    ) else (
      if x1 = 8 then (
        some (0, u1.2)
      ) else (
        some (1, u1.2)
      )
    )
  )
set_option maxRecDepth 100000 in
theorem k_X12_isReferenceType {l : Launch} (fu : Nat) {E : Ev} (hE : WE E) {a0 : Nat} (ha0 : E.1 a0 = some (0, 10, 0)) {x1 : Int32} {S : St} {t : (Int32 × St)} (h : sp_X12_isReferenceType fu E S a0 x1 = some t) : Cn l mX12_isReferenceType [.ref a0, .int x1] (hp E S) (PoI E t) := by
  refine Cn.of (by decide) rfl (Nat.le_of_ble_eq_true rfl) (fun X _ _ hQ => ?_)
  refine (?_ : K mX12_isReferenceType X E 0 [(0, .ref a0), (1, .int x1)] [] S 0 0 (sp_X12_isReferenceType fu E S a0 x1) t) h
  unfold sp_X12_isReferenceType
  refine K_aload_n dX12_isReferenceType_0 rfl rfl ?_
  refine K_iload_n dX12_isReferenceType_1 rfl rfl ?_
  refine K_bind (fun u1 hu1 => ?_)
  refine K_callVI (As := [.int x1]) (k_X12_isType fu hE ha0 hu1) dX12_isReferenceType_2 v_X12_93 ha0 rfl rfl rfl rfl (Nat.le_of_ble_eq_true rfl) ⟨Nat.le_of_ble_eq_true rfl, Nat.le_of_ble_eq_true rfl, Nat.le_of_ble_eq_true rfl, Nat.le_of_ble_eq_true rfl⟩ ?_
  refine K_if_eq (tgt := 22) dX12_isReferenceType_5 (by decide) (fun c4 => ?_) (fun c4 => ?_)
  · refine K_iconst (v := 0) dX12_isReferenceType_22 (by decide) ?_
    exact K_zret dX12_isReferenceType_23 hQ rfl rfl (Nat.le_of_ble_eq_true rfl) (Nat.le_of_ble_eq_true rfl)
  · refine K_iload_n dX12_isReferenceType_8 rfl rfl ?_
    refine K_if_eq (tgt := 22) dX12_isReferenceType_9 (by decide) (fun c3 => ?_) (fun c3 => ?_)
    · refine K_iconst (v := 0) dX12_isReferenceType_22 (by decide) ?_
      exact K_zret dX12_isReferenceType_23 hQ rfl rfl (Nat.le_of_ble_eq_true rfl) (Nat.le_of_ble_eq_true rfl)
    · refine K_iload_n dX12_isReferenceType_12 rfl rfl ?_
      refine K_bipush (v := 8) dX12_isReferenceType_13 (by decide) ?_
      refine K_icmp_eq (tgt := 22) dX12_isReferenceType_15 (by decide) (fun c2 => ?_) (fun c2 => ?_)
      · refine K_iconst (v := 0) dX12_isReferenceType_22 (by decide) ?_
        exact K_zret dX12_isReferenceType_23 hQ rfl rfl (Nat.le_of_ble_eq_true rfl) (Nat.le_of_ble_eq_true rfl)
      · refine K_iconst (v := 1) dX12_isReferenceType_18 (by decide) ?_
        refine K_goto (tgt := 23) dX12_isReferenceType_19 (by decide) ?_
        exact K_zret dX12_isReferenceType_23 hQ rfl rfl (Nat.le_of_ble_eq_true rfl) (Nat.le_of_ble_eq_true rfl)
def sp_X12_isArray (fu : Nat) (E : Ev) (S : St) (a0 : Nat) (x1 : Int32) : Option (Int32 × St) :=
  (sp_X12_isType fu E S a0 x1).bind fun u1 =>
  if u1.1 = 0 then (
    some (0, u1.2)
  ) else (
    if (x1 - x1 / 8 * 8) ≤ 0 then (
      some (0, u1.2)
    ) else (
      some (1, u1.2)
    )
  )
set_option maxRecDepth 100000 in
theorem k_X12_isArray {l : Launch} (fu : Nat) {E : Ev} (hE : WE E) {a0 : Nat} (ha0 : E.1 a0 = some (0, 10, 0)) {x1 : Int32} {S : St} {t : (Int32 × St)} (h : sp_X12_isArray fu E S a0 x1 = some t) : Cn l mX12_isArray [.ref a0, .int x1] (hp E S) (PoI E t) := by
  refine Cn.of (by decide) rfl (Nat.le_of_ble_eq_true rfl) (fun X _ _ hQ => ?_)
  refine (?_ : K mX12_isArray X E 0 [(0, .ref a0), (1, .int x1)] [] S 0 0 (sp_X12_isArray fu E S a0 x1) t) h
  unfold sp_X12_isArray
  refine K_aload_n dX12_isArray_0 rfl rfl ?_
  refine K_iload_n dX12_isArray_1 rfl rfl ?_
  refine K_bind (fun u1 hu1 => ?_)
  refine K_callVI (As := [.int x1]) (k_X12_isType fu hE ha0 hu1) dX12_isArray_2 v_X12_93 ha0 rfl rfl rfl rfl (Nat.le_of_ble_eq_true rfl) ⟨Nat.le_of_ble_eq_true rfl, Nat.le_of_ble_eq_true rfl, Nat.le_of_ble_eq_true rfl, Nat.le_of_ble_eq_true rfl⟩ ?_
  refine K_if_eq (tgt := 19) dX12_isArray_5 (by decide) (fun c3 => ?_) (fun c3 => ?_)
  · refine K_iconst (v := 0) dX12_isArray_19 (by decide) ?_
    exact K_zret dX12_isArray_20 hQ rfl rfl (Nat.le_of_ble_eq_true rfl) (Nat.le_of_ble_eq_true rfl)
  · refine K_iload_n dX12_isArray_8 rfl rfl ?_
    refine K_bipush (v := 8) dX12_isArray_9 (by decide) ?_
    refine K_irem dX12_isArray_11 (by decide) ?_
    refine K_if_le (tgt := 19) dX12_isArray_12 (by decide) (fun c2 => ?_) (fun c2 => ?_)
    · refine K_iconst (v := 0) dX12_isArray_19 (by decide) ?_
      exact K_zret dX12_isArray_20 hQ rfl rfl (Nat.le_of_ble_eq_true rfl) (Nat.le_of_ble_eq_true rfl)
    · refine K_iconst (v := 1) dX12_isArray_15 (by decide) ?_
      refine K_goto (tgt := 20) dX12_isArray_16 (by decide) ?_
      exact K_zret dX12_isArray_20 hQ rfl rfl (Nat.le_of_ble_eq_true rfl) (Nat.le_of_ble_eq_true rfl)
def sp_X12_isRow (fu : Nat) (E : Ev) (S : St) (a0 : Nat) (x1 : Int32) : Option (Int32 × St) :=
  (sp_X12_isArray fu E S a0 x1).bind fun u1 =>
  if u1.1 = 0 then (
    some (0, u1.2)
  ) else (
    (sp_X12_isReferenceType fu E u1.2 a0 (x1 - 1)).bind fun u2 =>
    if u2.1 = 0 then (
      some (0, u2.2)
    ) else (
      some (1, u2.2)
    )
  )
set_option maxRecDepth 100000 in
theorem k_X12_isRow {l : Launch} (fu : Nat) {E : Ev} (hE : WE E) {a0 : Nat} (ha0 : E.1 a0 = some (0, 10, 0)) {x1 : Int32} {S : St} {t : (Int32 × St)} (h : sp_X12_isRow fu E S a0 x1 = some t) : Cn l mX12_isRow [.ref a0, .int x1] (hp E S) (PoI E t) := by
  refine Cn.of (by decide) rfl (Nat.le_of_ble_eq_true rfl) (fun X _ _ hQ => ?_)
  refine (?_ : K mX12_isRow X E 0 [(0, .ref a0), (1, .int x1)] [] S 0 0 (sp_X12_isRow fu E S a0 x1) t) h
  unfold sp_X12_isRow
  refine K_aload_n dX12_isRow_0 rfl rfl ?_
  refine K_iload_n dX12_isRow_1 rfl rfl ?_
  refine K_bind (fun u1 hu1 => ?_)
  refine K_callVI (As := [.int x1]) (k_X12_isArray fu hE ha0 hu1) dX12_isRow_2 v_X12_97 ha0 rfl rfl rfl rfl (Nat.le_of_ble_eq_true rfl) ⟨Nat.le_of_ble_eq_true rfl, Nat.le_of_ble_eq_true rfl, Nat.le_of_ble_eq_true rfl, Nat.le_of_ble_eq_true rfl⟩ ?_
  refine K_if_eq (tgt := 22) dX12_isRow_5 (by decide) (fun c4 => ?_) (fun c4 => ?_)
  · refine K_iconst (v := 0) dX12_isRow_22 (by decide) ?_
    exact K_zret dX12_isRow_23 hQ rfl rfl (Nat.le_of_ble_eq_true rfl) (Nat.le_of_ble_eq_true rfl)
  · refine K_aload_n dX12_isRow_8 rfl rfl ?_
    refine K_iload_n dX12_isRow_9 rfl rfl ?_
    refine K_iconst (v := 1) dX12_isRow_10 (by decide) ?_
    refine K_isub dX12_isRow_11 ?_
    refine K_bind (fun u2 hu2 => ?_)
    refine K_callVI (As := [.int (x1 - 1)]) (k_X12_isReferenceType fu hE ha0 hu2) dX12_isRow_12 v_X12_100 ha0 rfl rfl rfl rfl (Nat.le_of_ble_eq_true rfl) ⟨Nat.le_of_ble_eq_true rfl, Nat.le_of_ble_eq_true rfl, Nat.le_of_ble_eq_true rfl, Nat.le_of_ble_eq_true rfl⟩ ?_
    refine K_if_eq (tgt := 22) dX12_isRow_15 (by decide) (fun c3 => ?_) (fun c3 => ?_)
    · refine K_iconst (v := 0) dX12_isRow_22 (by decide) ?_
      exact K_zret dX12_isRow_23 hQ rfl rfl (Nat.le_of_ble_eq_true rfl) (Nat.le_of_ble_eq_true rfl)
    · refine K_iconst (v := 1) dX12_isRow_18 (by decide) ?_
      refine K_goto (tgt := 23) dX12_isRow_19 (by decide) ?_
      exact K_zret dX12_isRow_23 hQ rfl rfl (Nat.le_of_ble_eq_true rfl) (Nat.le_of_ble_eq_true rfl)
def jb_X12_isSlotValue_19 (fu : Nat) (E : Ev) (x1 : Int32) (S : St) : Option (Int32 × St) :=
  if (-10) < x1 then (
    some (0, S)
  ) else (
    if x1 ≤ (-110) then (
      some (0, S)
    ) else (
      some (1, S)
    )
  )
set_option maxRecDepth 100000 in
theorem kj_X12_isSlotValue_19 {X : Cx} {E : Ev} {t : (Int32 × St)} (hQ : EndR mX12_isSlotValue X (PoI E t)) (hE : WE E) (fu : Nat) (x1 : Int32) (S : St) : K mX12_isSlotValue X E 19 [(1, .int x1)] [] S 0 0 (jb_X12_isSlotValue_19 fu E x1 S) t := by
  unfold jb_X12_isSlotValue_19
  refine K_iload_n dX12_isSlotValue_19 rfl rfl ?_
  refine K_bipush (v := (-10)) dX12_isSlotValue_20 (by decide) ?_
  refine K_icmp_gt (tgt := 35) dX12_isSlotValue_22 (by decide) (fun c3 => ?_) (fun c3 => ?_)
  · refine K_iconst (v := 0) dX12_isSlotValue_35 (by decide) ?_
    exact K_zret dX12_isSlotValue_36 hQ rfl rfl (Nat.le_of_ble_eq_true rfl) (Nat.le_of_ble_eq_true rfl)
  · refine K_iload_n dX12_isSlotValue_25 rfl rfl ?_
    refine K_bipush (v := (-110)) dX12_isSlotValue_26 (by decide) ?_
    refine K_icmp_le (tgt := 35) dX12_isSlotValue_28 (by decide) (fun c2 => ?_) (fun c2 => ?_)
    · refine K_iconst (v := 0) dX12_isSlotValue_35 (by decide) ?_
      exact K_zret dX12_isSlotValue_36 hQ rfl rfl (Nat.le_of_ble_eq_true rfl) (Nat.le_of_ble_eq_true rfl)
    · refine K_iconst (v := 1) dX12_isSlotValue_31 (by decide) ?_
      refine K_goto (tgt := 36) dX12_isSlotValue_32 (by decide) ?_
      exact K_zret dX12_isSlotValue_36 hQ rfl rfl (Nat.le_of_ble_eq_true rfl) (Nat.le_of_ble_eq_true rfl)
def sp_X12_isSlotValue (fu : Nat) (E : Ev) (S : St) (a0 : Nat) (x1 : Int32) : Option (Int32 × St) :=
  (sp_X12_isType fu E S a0 x1).bind fun u1 =>
  if u1.1 = 0 then (
    if (-1) < x1 then (
      jb_X12_isSlotValue_19 fu E  x1 u1.2
    ) else (
      if (-4) ≤ x1 then (
        some (1, u1.2)
      ) else (
        jb_X12_isSlotValue_19 fu E  x1 u1.2
      )
    )
  ) else (
    some (1, u1.2)
  )
set_option maxRecDepth 100000 in
theorem k_X12_isSlotValue {l : Launch} (fu : Nat) {E : Ev} (hE : WE E) {a0 : Nat} (ha0 : E.1 a0 = some (0, 10, 0)) {x1 : Int32} {S : St} {t : (Int32 × St)} (h : sp_X12_isSlotValue fu E S a0 x1 = some t) : Cn l mX12_isSlotValue [.ref a0, .int x1] (hp E S) (PoI E t) := by
  refine Cn.of (by decide) rfl (Nat.le_of_ble_eq_true rfl) (fun X _ _ hQ => ?_)
  refine (?_ : K mX12_isSlotValue X E 0 [(0, .ref a0), (1, .int x1)] [] S 0 0 (sp_X12_isSlotValue fu E S a0 x1) t) h
  unfold sp_X12_isSlotValue
  refine K_aload_n dX12_isSlotValue_0 rfl rfl ?_
  refine K_iload_n dX12_isSlotValue_1 rfl rfl ?_
  refine K_bind (fun u1 hu1 => ?_)
  refine K_callVI (As := [.int x1]) (k_X12_isType fu hE ha0 hu1) dX12_isSlotValue_2 v_X12_93 ha0 rfl rfl rfl rfl (Nat.le_of_ble_eq_true rfl) ⟨Nat.le_of_ble_eq_true rfl, Nat.le_of_ble_eq_true rfl, Nat.le_of_ble_eq_true rfl, Nat.le_of_ble_eq_true rfl⟩ ?_
  refine K_if_ne (tgt := 31) dX12_isSlotValue_5 (by decide) (fun c6 => ?_) (fun c6 => ?_)
  · refine K_iconst (v := 1) dX12_isSlotValue_31 (by decide) ?_
    refine K_goto (tgt := 36) dX12_isSlotValue_32 (by decide) ?_
    exact K_zret dX12_isSlotValue_36 hQ rfl rfl (Nat.le_of_ble_eq_true rfl) (Nat.le_of_ble_eq_true rfl)
  · refine K_iload_n dX12_isSlotValue_8 rfl rfl ?_
    refine K_iconst (v := (-1)) dX12_isSlotValue_9 (by decide) ?_
    refine K_icmp_gt (tgt := 19) dX12_isSlotValue_10 (by decide) (fun c5 => ?_) (fun c5 => ?_)
    · refine K.keep [1] ?_
      exact kj_X12_isSlotValue_19 hQ hE fu  x1 u1.2
    · refine K_iload_n dX12_isSlotValue_13 rfl rfl ?_
      refine K_bipush (v := (-4)) dX12_isSlotValue_14 (by decide) ?_
      refine K_icmp_ge (tgt := 31) dX12_isSlotValue_16 (by decide) (fun c4 => ?_) (fun c4 => ?_)
      · refine K_iconst (v := 1) dX12_isSlotValue_31 (by decide) ?_
        refine K_goto (tgt := 36) dX12_isSlotValue_32 (by decide) ?_
        exact K_zret dX12_isSlotValue_36 hQ rfl rfl (Nat.le_of_ble_eq_true rfl) (Nat.le_of_ble_eq_true rfl)
      · refine K.keep [1] ?_
        exact kj_X12_isSlotValue_19 hQ hE fu  x1 u1.2
def sp_X12_isReference (fu : Nat) (E : Ev) (S : St) (a0 : Nat) (x1 : Int32) : Option (Int32 × St) :=
  if x1 = (-1) then (
    some (1, S)
  ) else (
    (sp_X12_isReferenceType fu E S a0 x1).bind fun u1 =>
    if u1.1 = 0 then (
      some (0, u1.2)
    ) else (
      some (1, u1.2)
    )
  )
set_option maxRecDepth 100000 in
theorem k_X12_isReference {l : Launch} (fu : Nat) {E : Ev} (hE : WE E) {a0 : Nat} (ha0 : E.1 a0 = some (0, 10, 0)) {x1 : Int32} {S : St} {t : (Int32 × St)} (h : sp_X12_isReference fu E S a0 x1 = some t) : Cn l mX12_isReference [.ref a0, .int x1] (hp E S) (PoI E t) := by
  refine Cn.of (by decide) rfl (Nat.le_of_ble_eq_true rfl) (fun X _ _ hQ => ?_)
  refine (?_ : K mX12_isReference X E 0 [(0, .ref a0), (1, .int x1)] [] S 0 0 (sp_X12_isReference fu E S a0 x1) t) h
  unfold sp_X12_isReference
  refine K_iload_n dX12_isReference_0 rfl rfl ?_
  refine K_iconst (v := (-1)) dX12_isReference_1 (by decide) ?_
  refine K_icmp_eq (tgt := 13) dX12_isReference_2 (by decide) (fun c3 => ?_) (fun c3 => ?_)
  · refine K_iconst (v := 1) dX12_isReference_13 (by decide) ?_
    refine K_goto (tgt := 18) dX12_isReference_14 (by decide) ?_
    exact K_zret dX12_isReference_18 hQ rfl rfl (Nat.le_of_ble_eq_true rfl) (Nat.le_of_ble_eq_true rfl)
  · refine K_aload_n dX12_isReference_5 rfl rfl ?_
    refine K_iload_n dX12_isReference_6 rfl rfl ?_
    refine K_bind (fun u1 hu1 => ?_)
    refine K_callVI (As := [.int x1]) (k_X12_isReferenceType fu hE ha0 hu1) dX12_isReference_7 v_X12_100 ha0 rfl rfl rfl rfl (Nat.le_of_ble_eq_true rfl) ⟨Nat.le_of_ble_eq_true rfl, Nat.le_of_ble_eq_true rfl, Nat.le_of_ble_eq_true rfl, Nat.le_of_ble_eq_true rfl⟩ ?_
    refine K_if_eq (tgt := 17) dX12_isReference_10 (by decide) (fun c2 => ?_) (fun c2 => ?_)
    · refine K_iconst (v := 0) dX12_isReference_17 (by decide) ?_
      exact K_zret dX12_isReference_18 hQ rfl rfl (Nat.le_of_ble_eq_true rfl) (Nat.le_of_ble_eq_true rfl)
    · refine K_iconst (v := 1) dX12_isReference_13 (by decide) ?_
      refine K_goto (tgt := 18) dX12_isReference_14 (by decide) ?_
      exact K_zret dX12_isReference_18 hQ rfl rfl (Nat.le_of_ble_eq_true rfl) (Nat.le_of_ble_eq_true rfl)
def sp_X12_isAnyReference (fu : Nat) (E : Ev) (S : St) (a0 : Nat) (x1 : Int32) : Option (Int32 × St) :=
  (sp_X12_isReference fu E S a0 x1).bind fun u1 =>
  if u1.1 = 0 then (
    if x1 = (-4) then (
      some (1, u1.2)
    ) else (
      if (-10) < x1 then (
        some (0, u1.2)
      ) else (
        some (1, u1.2)
      )
    )
  ) else (
    some (1, u1.2)
  )
set_option maxRecDepth 100000 in
theorem k_X12_isAnyReference {l : Launch} (fu : Nat) {E : Ev} (hE : WE E) {a0 : Nat} (ha0 : E.1 a0 = some (0, 10, 0)) {x1 : Int32} {S : St} {t : (Int32 × St)} (h : sp_X12_isAnyReference fu E S a0 x1 = some t) : Cn l mX12_isAnyReference [.ref a0, .int x1] (hp E S) (PoI E t) := by
  refine Cn.of (by decide) rfl (Nat.le_of_ble_eq_true rfl) (fun X _ _ hQ => ?_)
  refine (?_ : K mX12_isAnyReference X E 0 [(0, .ref a0), (1, .int x1)] [] S 0 0 (sp_X12_isAnyReference fu E S a0 x1) t) h
  unfold sp_X12_isAnyReference
  refine K_aload_n dX12_isAnyReference_0 rfl rfl ?_
  refine K_iload_n dX12_isAnyReference_1 rfl rfl ?_
  refine K_bind (fun u1 hu1 => ?_)
  refine K_callVI (As := [.int x1]) (k_X12_isReference fu hE ha0 hu1) dX12_isAnyReference_2 v_X12_103 ha0 rfl rfl rfl rfl (Nat.le_of_ble_eq_true rfl) ⟨Nat.le_of_ble_eq_true rfl, Nat.le_of_ble_eq_true rfl, Nat.le_of_ble_eq_true rfl, Nat.le_of_ble_eq_true rfl⟩ ?_
  refine K_if_ne (tgt := 20) dX12_isAnyReference_5 (by decide) (fun c4 => ?_) (fun c4 => ?_)
  · refine K_iconst (v := 1) dX12_isAnyReference_20 (by decide) ?_
    refine K_goto (tgt := 25) dX12_isAnyReference_21 (by decide) ?_
    exact K_zret dX12_isAnyReference_25 hQ rfl rfl (Nat.le_of_ble_eq_true rfl) (Nat.le_of_ble_eq_true rfl)
  · refine K_iload_n dX12_isAnyReference_8 rfl rfl ?_
    refine K_bipush (v := (-4)) dX12_isAnyReference_9 (by decide) ?_
    refine K_icmp_eq (tgt := 20) dX12_isAnyReference_11 (by decide) (fun c3 => ?_) (fun c3 => ?_)
    · refine K_iconst (v := 1) dX12_isAnyReference_20 (by decide) ?_
      refine K_goto (tgt := 25) dX12_isAnyReference_21 (by decide) ?_
      exact K_zret dX12_isAnyReference_25 hQ rfl rfl (Nat.le_of_ble_eq_true rfl) (Nat.le_of_ble_eq_true rfl)
    · refine K_iload_n dX12_isAnyReference_14 rfl rfl ?_
      refine K_bipush (v := (-10)) dX12_isAnyReference_15 (by decide) ?_
      refine K_icmp_gt (tgt := 24) dX12_isAnyReference_17 (by decide) (fun c2 => ?_) (fun c2 => ?_)
      · refine K_iconst (v := 0) dX12_isAnyReference_24 (by decide) ?_
        exact K_zret dX12_isAnyReference_25 hQ rfl rfl (Nat.le_of_ble_eq_true rfl) (Nat.le_of_ble_eq_true rfl)
      · refine K_iconst (v := 1) dX12_isAnyReference_20 (by decide) ?_
        refine K_goto (tgt := 25) dX12_isAnyReference_21 (by decide) ?_
        exact K_zret dX12_isAnyReference_25 hQ rfl rfl (Nat.le_of_ble_eq_true rfl) (Nat.le_of_ble_eq_true rfl)
def jb_X12_isAbove_22 (fu : Nat) (E : Ev) (x1 : Int32) (x3 : Int32) (S : St) : Option (Int32 × St) :=
  if x3 = x1 then (
    some (1, S)
  ) else (
    some (0, S)
  )
set_option maxRecDepth 100000 in
theorem kj_X12_isAbove_22 {X : Cx} {E : Ev} {t : (Int32 × St)} (hQ : EndR mX12_isAbove X (PoI E t)) (hE : WE E) (fu : Nat) (x1 : Int32) (x3 : Int32) (S : St) : K mX12_isAbove X E 22 [(1, .int x1), (3, .int x3)] [] S 0 0 (jb_X12_isAbove_22 fu E x1 x3 S) t := by
  unfold jb_X12_isAbove_22
  refine K_iload_n dX12_isAbove_22 rfl rfl ?_
  refine K_iload_n dX12_isAbove_23 rfl rfl ?_
  refine K_icmp_ne (tgt := 31) dX12_isAbove_24 (by decide) (fun c1 => ?_) (fun c1 => ?_)
  · refine K_iconst (v := 0) dX12_isAbove_31 (by decide) ?_
    exact K_zret dX12_isAbove_32 hQ rfl rfl (Nat.le_of_ble_eq_true rfl) (Nat.le_of_ble_eq_true rfl)
  · refine K_iconst (v := 1) dX12_isAbove_27 (by decide) ?_
    refine K_goto (tgt := 32) dX12_isAbove_28 (by decide) ?_
    exact K_zret dX12_isAbove_32 hQ rfl rfl (Nat.le_of_ble_eq_true rfl) (Nat.le_of_ble_eq_true rfl)
def bd_X12_isAbove_2 (fu : Nat) (E : Ev) (a0 : Nat) (rc2 : Int32 → Int32 → St → Option (Int32 × St)) (x1 : Int32) (x3 : Int32) (S : St) : Option (Int32 × St) :=
  if x3 = x1 then (
    jb_X12_isAbove_22 fu E  x1 x3 S
  ) else (
    if x3 = 2 then (
      jb_X12_isAbove_22 fu E  x1 x3 S
    ) else (
      if inb x3 20 = true then
        (
        bnd (S.2.1 (E.2 a0 2) x3.toNatClampNeg) fun v4 =>
        rc2 x1 v4 S
        )
      else none
    )
  )
def lp_X12_isAbove_2 (fu : Nat) (E : Ev) (a0 : Nat) : Nat → Int32 → Int32 → St → Option (Int32 × St)
  | 0, _, _, _ => none
  | f + 1, x1, x3, S => bd_X12_isAbove_2 fu E a0 (lp_X12_isAbove_2 fu E a0 f) x1 x3 S
set_option maxRecDepth 100000 in
theorem kl_X12_isAbove_2 {X : Cx} {E : Ev} {t : (Int32 × St)} {a0 : Nat} (hQ : EndR mX12_isAbove X (PoI E t)) (hE : WE E) (fu : Nat) (ha0 : E.1 a0 = some (0, 10, 0)) : ∀ (f : Nat) (x1 : Int32) (x3 : Int32) (S : St), K mX12_isAbove X E 2 [(0, .ref a0), (1, .int x1), (3, .int x3)] [] S 0 0 (lp_X12_isAbove_2 fu E a0 f x1 x3 S) t := by
  intro f
  induction f with
  | zero => intro x1 x3 S; exact K_none
  | succ f hrc2 =>
    intro x1 x3 S
    show K _ _ _ _ _ _ _ _ _ (bd_X12_isAbove_2 fu E a0 (lp_X12_isAbove_2 fu E a0 f) x1 x3 S) t
    unfold bd_X12_isAbove_2
    refine K_iload_n dX12_isAbove_2 rfl rfl ?_
    refine K_iload_n dX12_isAbove_3 rfl rfl ?_
    refine K_icmp_eq (tgt := 22) dX12_isAbove_4 (by decide) (fun c6 => ?_) (fun c6 => ?_)
    · refine K.keep [1, 3] ?_
      exact kj_X12_isAbove_22 hQ hE fu  x1 x3 S
    · refine K_iload_n dX12_isAbove_7 rfl rfl ?_
      refine K_iconst (v := 2) dX12_isAbove_8 (by decide) ?_
      refine K_icmp_eq (tgt := 22) dX12_isAbove_9 (by decide) (fun c5 => ?_) (fun c5 => ?_)
      · refine K.keep [1, 3] ?_
        exact kj_X12_isAbove_22 hQ hE fu  x1 x3 S
      · refine K_aload_n dX12_isAbove_12 rfl rfl ?_
        refine K_getC hE dX12_isAbove_13 f_X12_13_10 ha0 rfl rfl (fun h2 => ?_)
        refine K_iload_n dX12_isAbove_16 rfl rfl ?_
        refine K_chk (fun h3 => ?_)
        refine K_iald dX12_isAbove_17 h2 h3 ?_
        refine K_nmI (fun v4 => ?_)
        refine K_istore_n (ls' := [(0, _), (1, _), (3, _)]) dX12_isAbove_18 rfl (by decide) rfl ?_
        refine K_goto (tgt := 2) dX12_isAbove_19 (by decide) ?_
        refine K.keep [0, 1, 3] ?_
        exact hrc2 x1 v4 S
def sp_X12_isAbove (fu : Nat) (E : Ev) (S : St) (a0 : Nat) (x1 : Int32) (x2 : Int32) : Option (Int32 × St) :=
  lp_X12_isAbove_2 fu E a0 fu x1 x2 S
set_option maxRecDepth 100000 in
theorem k_X12_isAbove {l : Launch} (fu : Nat) {E : Ev} (hE : WE E) {a0 : Nat} (ha0 : E.1 a0 = some (0, 10, 0)) {x1 : Int32} {x2 : Int32} {S : St} {t : (Int32 × St)} (h : sp_X12_isAbove fu E S a0 x1 x2 = some t) : Cn l mX12_isAbove [.ref a0, .int x1, .int x2] (hp E S) (PoI E t) := by
  refine Cn.of (by decide) rfl (Nat.le_of_ble_eq_true rfl) (fun X _ _ hQ => ?_)
  refine (?_ : K mX12_isAbove X E 0 [(0, .ref a0), (1, .int x1), (2, .int x2)] [] S 0 0 (sp_X12_isAbove fu E S a0 x1 x2) t) h
  unfold sp_X12_isAbove
  refine K_iload_n dX12_isAbove_0 rfl rfl ?_
  refine K_istore_n (ls' := [(0, _), (1, _), (2, _), (3, _)]) dX12_isAbove_1 rfl (by decide) rfl ?_
  refine K.keep [0, 1, 3] ?_
  exact kl_X12_isAbove_2 hQ hE fu ha0 fu x1 x2 S
def jb_X12_areAssignable_37 (fu : Nat) (E : Ev) (a0 : Nat) (x3 : Int32) (x4 : Int32) (S : St) : Option (Int32 × St) :=
  if x3 = x4 then (
    some (1, S)
  ) else (
    if x4 = 16 then (
      some (1, S)
    ) else (
      if 0 < (x4 - x4 / 8 * 8) then (
        some (0, S)
      ) else (
        (sp_X12_isReferenceType fu E S a0 x4).bind fun u1 =>
        if u1.1 = 0 then (
          some (0, u1.2)
        ) else (
          if inb (x4 / 8) 20 = true then
            (
            if (u1.2.2.1 (E.2 a0 3) (x4 / 8).toNatClampNeg) = 0 then (
              if (x3 - x3 / 8 * 8) = 0 then (
                (sp_X12_isClass fu E u1.2 a0 (x3 / 8)).bind fun u4 =>
                if u4.1 = 0 then (
                  some (0, u4.2)
                ) else (
                  (sp_X12_isAbove fu E u4.2 a0 (x4 / 8) (x3 / 8)).bind fun u5 =>
                  if u5.1 = 0 then (
                    some (0, u5.2)
                  ) else (
                    some (1, u5.2)
                  )
                )
              ) else (
                some (0, u1.2)
              )
            ) else (
              some (1, u1.2)
            )
            )
          else none
        )
      )
    )
  )
set_option maxRecDepth 100000 in
theorem kj_X12_areAssignable_37 {X : Cx} {E : Ev} {t : (Int32 × St)} {a0 : Nat} (hQ : EndR mX12_areAssignable X (PoI E t)) (hE : WE E) (fu : Nat) (ha0 : E.1 a0 = some (0, 10, 0)) (x3 : Int32) (x4 : Int32) (S : St) : K mX12_areAssignable X E 37 [(0, .ref a0), (3, .int x3), (4, .int x4)] [] S 0 0 (jb_X12_areAssignable_37 fu E a0 x3 x4 S) t := by
  unfold jb_X12_areAssignable_37
  refine K_iload_n dX12_areAssignable_37 rfl rfl ?_
  refine K_iload dX12_areAssignable_38 rfl ?_
  refine K_icmp_eq (tgt := 50) dX12_areAssignable_40 (by decide) (fun c13 => ?_) (fun c13 => ?_)
  · refine K_iconst (v := 1) dX12_areAssignable_50 (by decide) ?_
    exact K_zret dX12_areAssignable_51 hQ rfl rfl (Nat.le_of_ble_eq_true rfl) (Nat.le_of_ble_eq_true rfl)
  · refine K_iload dX12_areAssignable_43 rfl ?_
    refine K_bipush (v := 16) dX12_areAssignable_45 (by decide) ?_
    refine K_icmp_ne (tgt := 52) dX12_areAssignable_47 (by decide) (fun c12 => ?_) (fun c12 => ?_)
    · refine K_iload dX12_areAssignable_52 rfl ?_
      refine K_bipush (v := 8) dX12_areAssignable_54 (by decide) ?_
      refine K_irem dX12_areAssignable_56 (by decide) ?_
      refine K_if_gt (tgt := 69) dX12_areAssignable_57 (by decide) (fun c11 => ?_) (fun c11 => ?_)
      · refine K_iconst (v := 0) dX12_areAssignable_69 (by decide) ?_
        exact K_zret dX12_areAssignable_70 hQ rfl rfl (Nat.le_of_ble_eq_true rfl) (Nat.le_of_ble_eq_true rfl)
      · refine K_aload_n dX12_areAssignable_60 rfl rfl ?_
        refine K_iload dX12_areAssignable_61 rfl ?_
        refine K_bind (fun u1 hu1 => ?_)
        refine K_callVI (As := [.int x4]) (k_X12_isReferenceType fu hE ha0 hu1) dX12_areAssignable_63 v_X12_100 ha0 rfl rfl rfl rfl (Nat.le_of_ble_eq_true rfl) ⟨Nat.le_of_ble_eq_true rfl, Nat.le_of_ble_eq_true rfl, Nat.le_of_ble_eq_true rfl, Nat.le_of_ble_eq_true rfl⟩ ?_
        refine K_if_ne (tgt := 71) dX12_areAssignable_66 (by decide) (fun c10 => ?_) (fun c10 => ?_)
        · refine K_aload_n dX12_areAssignable_71 rfl rfl ?_
          refine K_getC hE dX12_areAssignable_72 f_X12_17_10 ha0 rfl rfl (fun h2 => ?_)
          refine K_iload dX12_areAssignable_75 rfl ?_
          refine K_bipush (v := 8) dX12_areAssignable_77 (by decide) ?_
          refine K_idiv dX12_areAssignable_79 (by decide) ?_
          refine K_chk (fun h3 => ?_)
          refine K_zald dX12_areAssignable_80 h2 h3 ?_
          refine K_if_ne (tgt := 118) dX12_areAssignable_81 (by decide) (fun c9 => ?_) (fun c9 => ?_)
          · refine K_iconst (v := 1) dX12_areAssignable_118 (by decide) ?_
            refine K_goto (tgt := 123) dX12_areAssignable_119 (by decide) ?_
            exact K_zret dX12_areAssignable_123 hQ rfl rfl (Nat.le_of_ble_eq_true rfl) (Nat.le_of_ble_eq_true rfl)
          · refine K_iload_n dX12_areAssignable_84 rfl rfl ?_
            refine K_bipush (v := 8) dX12_areAssignable_85 (by decide) ?_
            refine K_irem dX12_areAssignable_87 (by decide) ?_
            refine K_if_ne (tgt := 122) dX12_areAssignable_88 (by decide) (fun c8 => ?_) (fun c8 => ?_)
            · refine K_iconst (v := 0) dX12_areAssignable_122 (by decide) ?_
              exact K_zret dX12_areAssignable_123 hQ rfl rfl (Nat.le_of_ble_eq_true rfl) (Nat.le_of_ble_eq_true rfl)
            · refine K_aload_n dX12_areAssignable_91 rfl rfl ?_
              refine K_iload_n dX12_areAssignable_92 rfl rfl ?_
              refine K_bipush (v := 8) dX12_areAssignable_93 (by decide) ?_
              refine K_idiv dX12_areAssignable_95 (by decide) ?_
              refine K_bind (fun u4 hu4 => ?_)
              refine K_callVI (As := [.int (x3 / 8)]) (k_X12_isClass fu hE ha0 hu4) dX12_areAssignable_96 v_X12_109 ha0 rfl rfl rfl rfl (Nat.le_of_ble_eq_true rfl) ⟨Nat.le_of_ble_eq_true rfl, Nat.le_of_ble_eq_true rfl, Nat.le_of_ble_eq_true rfl, Nat.le_of_ble_eq_true rfl⟩ ?_
              refine K_if_eq (tgt := 122) dX12_areAssignable_99 (by decide) (fun c7 => ?_) (fun c7 => ?_)
              · refine K_iconst (v := 0) dX12_areAssignable_122 (by decide) ?_
                exact K_zret dX12_areAssignable_123 hQ rfl rfl (Nat.le_of_ble_eq_true rfl) (Nat.le_of_ble_eq_true rfl)
              · refine K_aload_n dX12_areAssignable_102 rfl rfl ?_
                refine K_iload dX12_areAssignable_103 rfl ?_
                refine K_bipush (v := 8) dX12_areAssignable_105 (by decide) ?_
                refine K_idiv dX12_areAssignable_107 (by decide) ?_
                refine K_iload_n dX12_areAssignable_108 rfl rfl ?_
                refine K_bipush (v := 8) dX12_areAssignable_109 (by decide) ?_
                refine K_idiv dX12_areAssignable_111 (by decide) ?_
                refine K_bind (fun u5 hu5 => ?_)
                refine K_callVI (As := [.int (x4 / 8), .int (x3 / 8)]) (k_X12_isAbove fu hE ha0 hu5) dX12_areAssignable_112 v_X12_112 ha0 rfl rfl rfl rfl (Nat.le_of_ble_eq_true rfl) ⟨Nat.le_of_ble_eq_true rfl, Nat.le_of_ble_eq_true rfl, Nat.le_of_ble_eq_true rfl, Nat.le_of_ble_eq_true rfl⟩ ?_
                refine K_if_eq (tgt := 122) dX12_areAssignable_115 (by decide) (fun c6 => ?_) (fun c6 => ?_)
                · refine K_iconst (v := 0) dX12_areAssignable_122 (by decide) ?_
                  exact K_zret dX12_areAssignable_123 hQ rfl rfl (Nat.le_of_ble_eq_true rfl) (Nat.le_of_ble_eq_true rfl)
                · refine K_iconst (v := 1) dX12_areAssignable_118 (by decide) ?_
                  refine K_goto (tgt := 123) dX12_areAssignable_119 (by decide) ?_
                  exact K_zret dX12_areAssignable_123 hQ rfl rfl (Nat.le_of_ble_eq_true rfl) (Nat.le_of_ble_eq_true rfl)
        · refine K_iconst (v := 0) dX12_areAssignable_69 (by decide) ?_
          exact K_zret dX12_areAssignable_70 hQ rfl rfl (Nat.le_of_ble_eq_true rfl) (Nat.le_of_ble_eq_true rfl)
    · refine K_iconst (v := 1) dX12_areAssignable_50 (by decide) ?_
      exact K_zret dX12_areAssignable_51 hQ rfl rfl (Nat.le_of_ble_eq_true rfl) (Nat.le_of_ble_eq_true rfl)
def bd_X12_areAssignable_5 (fu : Nat) (E : Ev) (a0 : Nat) (rc5 : Int32 → Int32 → St → Option (Int32 × St)) (x3 : Int32) (x4 : Int32) (S : St) : Option (Int32 × St) :=
  if x3 = x4 then (
    jb_X12_areAssignable_37 fu E a0 x3 x4 S
  ) else (
    (sp_X12_isRow fu E S a0 x3).bind fun u14 =>
    if u14.1 = 0 then (
      jb_X12_areAssignable_37 fu E a0 x3 x4 u14.2
    ) else (
      (sp_X12_isRow fu E u14.2 a0 x4).bind fun u15 =>
      if u15.1 = 0 then (
        jb_X12_areAssignable_37 fu E a0 x3 x4 u15.2
      ) else (
        rc5 (x3 + (-1)) (x4 + (-1)) u15.2
      )
    )
  )
def lp_X12_areAssignable_5 (fu : Nat) (E : Ev) (a0 : Nat) : Nat → Int32 → Int32 → St → Option (Int32 × St)
  | 0, _, _, _ => none
  | f + 1, x3, x4, S => bd_X12_areAssignable_5 fu E a0 (lp_X12_areAssignable_5 fu E a0 f) x3 x4 S
set_option maxRecDepth 100000 in
theorem kl_X12_areAssignable_5 {X : Cx} {E : Ev} {t : (Int32 × St)} {a0 : Nat} (hQ : EndR mX12_areAssignable X (PoI E t)) (hE : WE E) (fu : Nat) (ha0 : E.1 a0 = some (0, 10, 0)) : ∀ (f : Nat) (x3 : Int32) (x4 : Int32) (S : St), K mX12_areAssignable X E 5 [(0, .ref a0), (3, .int x3), (4, .int x4)] [] S 0 0 (lp_X12_areAssignable_5 fu E a0 f x3 x4 S) t := by
  intro f
  induction f with
  | zero => intro x3 x4 S; exact K_none
  | succ f hrc5 =>
    intro x3 x4 S
    show K _ _ _ _ _ _ _ _ _ (bd_X12_areAssignable_5 fu E a0 (lp_X12_areAssignable_5 fu E a0 f) x3 x4 S) t
    unfold bd_X12_areAssignable_5
    refine K_iload_n dX12_areAssignable_5 rfl rfl ?_
    refine K_iload dX12_areAssignable_6 rfl ?_
    refine K_icmp_eq (tgt := 37) dX12_areAssignable_8 (by decide) (fun c18 => ?_) (fun c18 => ?_)
    · refine K.keep [0, 3, 4] ?_
      exact kj_X12_areAssignable_37 hQ hE fu ha0 x3 x4 S
    · refine K_aload_n dX12_areAssignable_11 rfl rfl ?_
      refine K_iload_n dX12_areAssignable_12 rfl rfl ?_
      refine K_bind (fun u14 hu14 => ?_)
      refine K_callVI (As := [.int x3]) (k_X12_isRow fu hE ha0 hu14) dX12_areAssignable_13 v_X12_106 ha0 rfl rfl rfl rfl (Nat.le_of_ble_eq_true rfl) ⟨Nat.le_of_ble_eq_true rfl, Nat.le_of_ble_eq_true rfl, Nat.le_of_ble_eq_true rfl, Nat.le_of_ble_eq_true rfl⟩ ?_
      refine K_if_eq (tgt := 37) dX12_areAssignable_16 (by decide) (fun c17 => ?_) (fun c17 => ?_)
      · refine K.keep [0, 3, 4] ?_
        exact kj_X12_areAssignable_37 hQ hE fu ha0 x3 x4 u14.2
      · refine K_aload_n dX12_areAssignable_19 rfl rfl ?_
        refine K_iload dX12_areAssignable_20 rfl ?_
        refine K_bind (fun u15 hu15 => ?_)
        refine K_callVI (As := [.int x4]) (k_X12_isRow fu hE ha0 hu15) dX12_areAssignable_22 v_X12_106 ha0 rfl rfl rfl rfl (Nat.le_of_ble_eq_true rfl) ⟨Nat.le_of_ble_eq_true rfl, Nat.le_of_ble_eq_true rfl, Nat.le_of_ble_eq_true rfl, Nat.le_of_ble_eq_true rfl⟩ ?_
        refine K_if_eq (tgt := 37) dX12_areAssignable_25 (by decide) (fun c16 => ?_) (fun c16 => ?_)
        · refine K.keep [0, 3, 4] ?_
          exact kj_X12_areAssignable_37 hQ hE fu ha0 x3 x4 u15.2
        · refine K_iinc (v := (x3 + (-1))) (ls' := [(0, _), (3, _), (4, _)]) dX12_areAssignable_28 rfl rfl (by decide) rfl ?_
          refine K_iinc (v := (x4 + (-1))) (ls' := [(0, _), (3, _), (4, _)]) dX12_areAssignable_31 rfl rfl (by decide) rfl ?_
          refine K_goto (tgt := 5) dX12_areAssignable_34 (by decide) ?_
          refine K.keep [0, 3, 4] ?_
          exact hrc5 (x3 + (-1)) (x4 + (-1)) u15.2
def sp_X12_areAssignable (fu : Nat) (E : Ev) (S : St) (a0 : Nat) (x1 : Int32) (x2 : Int32) : Option (Int32 × St) :=
  lp_X12_areAssignable_5 fu E a0 fu x1 x2 S
set_option maxRecDepth 100000 in
theorem k_X12_areAssignable {l : Launch} (fu : Nat) {E : Ev} (hE : WE E) {a0 : Nat} (ha0 : E.1 a0 = some (0, 10, 0)) {x1 : Int32} {x2 : Int32} {S : St} {t : (Int32 × St)} (h : sp_X12_areAssignable fu E S a0 x1 x2 = some t) : Cn l mX12_areAssignable [.ref a0, .int x1, .int x2] (hp E S) (PoI E t) := by
  refine Cn.of (by decide) rfl (Nat.le_of_ble_eq_true rfl) (fun X _ _ hQ => ?_)
  refine (?_ : K mX12_areAssignable X E 0 [(0, .ref a0), (1, .int x1), (2, .int x2)] [] S 0 0 (sp_X12_areAssignable fu E S a0 x1 x2) t) h
  unfold sp_X12_areAssignable
  refine K_iload_n dX12_areAssignable_0 rfl rfl ?_
  refine K_istore_n (ls' := [(0, _), (1, _), (2, _), (3, _)]) dX12_areAssignable_1 rfl (by decide) rfl ?_
  refine K_iload_n dX12_areAssignable_2 rfl rfl ?_
  refine K_istore (ls' := [(0, _), (1, _), (2, _), (3, _), (4, _)]) dX12_areAssignable_3 (by decide) rfl ?_
  refine K.keep [0, 3, 4] ?_
  exact kl_X12_areAssignable_5 hQ hE fu ha0 fu x1 x2 S
def bd_X12_joined_104 (fu : Nat) (E : Ev) (a0 : Nat) (rc104 : Int32 → Int32 → Int32 → St → Option (Int32 × St)) (x4 : Int32) (x5 : Int32) (x6 : Int32) (S : St) : Option (Int32 × St) :=
  (sp_X12_isAbove fu E S a0 x6 (x4 / 8)).bind fun u4 =>
  if u4.1 = 0 then (
    if inb x6 20 = true then
      (
      bnd (u4.2.2.1 (E.2 a0 2) x6.toNatClampNeg) fun v7 =>
      rc104 x4 x5 v7 u4.2
      )
    else none
  ) else (
    some ((8 * x6) + x5, u4.2)
  )
def lp_X12_joined_104 (fu : Nat) (E : Ev) (a0 : Nat) : Nat → Int32 → Int32 → Int32 → St → Option (Int32 × St)
  | 0, _, _, _, _ => none
  | f + 1, x4, x5, x6, S => bd_X12_joined_104 fu E a0 (lp_X12_joined_104 fu E a0 f) x4 x5 x6 S
set_option maxRecDepth 100000 in
theorem kl_X12_joined_104 {X : Cx} {E : Ev} {t : (Int32 × St)} {a0 : Nat} (hQ : EndR mX12_joined X (PoI E t)) (hE : WE E) (fu : Nat) (ha0 : E.1 a0 = some (0, 10, 0)) : ∀ (f : Nat) (x4 : Int32) (x5 : Int32) (x6 : Int32) (S : St), K mX12_joined X E 104 [(0, .ref a0), (4, .int x4), (5, .int x5), (6, .int x6)] [] S 0 0 (lp_X12_joined_104 fu E a0 f x4 x5 x6 S) t := by
  intro f
  induction f with
  | zero => intro x4 x5 x6 S; exact K_none
  | succ f hrc104 =>
    intro x4 x5 x6 S
    show K _ _ _ _ _ _ _ _ _ (bd_X12_joined_104 fu E a0 (lp_X12_joined_104 fu E a0 f) x4 x5 x6 S) t
    unfold bd_X12_joined_104
    refine K_aload_n dX12_joined_104 rfl rfl ?_
    refine K_iload dX12_joined_105 rfl ?_
    refine K_iload dX12_joined_107 rfl ?_
    refine K_bipush (v := 8) dX12_joined_109 (by decide) ?_
    refine K_idiv dX12_joined_111 (by decide) ?_
    refine K_bind (fun u4 hu4 => ?_)
    refine K_callVI (As := [.int x6, .int (x4 / 8)]) (k_X12_isAbove fu hE ha0 hu4) dX12_joined_112 v_X12_112 ha0 rfl rfl rfl rfl (Nat.le_of_ble_eq_true rfl) ⟨Nat.le_of_ble_eq_true rfl, Nat.le_of_ble_eq_true rfl, Nat.le_of_ble_eq_true rfl, Nat.le_of_ble_eq_true rfl⟩ ?_
    refine K_if_ne (tgt := 130) dX12_joined_115 (by decide) (fun c8 => ?_) (fun c8 => ?_)
    · refine K_bipush (v := 8) dX12_joined_130 (by decide) ?_
      refine K_iload dX12_joined_132 rfl ?_
      refine K_imul dX12_joined_134 ?_
      refine K_iload dX12_joined_135 rfl ?_
      refine K_iadd dX12_joined_137 ?_
      exact K_iret dX12_joined_138 hQ rfl (Nat.le_of_ble_eq_true rfl) (Nat.le_of_ble_eq_true rfl)
    · refine K_aload_n dX12_joined_118 rfl rfl ?_
      refine K_getC hE dX12_joined_119 f_X12_13_10 ha0 rfl rfl (fun h5 => ?_)
      refine K_iload dX12_joined_122 rfl ?_
      refine K_chk (fun h6 => ?_)
      refine K_iald dX12_joined_124 h5 h6 ?_
      refine K_nmI (fun v7 => ?_)
      refine K_istore (ls' := [(0, _), (4, _), (5, _), (6, _)]) dX12_joined_125 (by decide) rfl ?_
      refine K_goto (tgt := 104) dX12_joined_127 (by decide) ?_
      refine K.keep [0, 4, 5, 6] ?_
      exact hrc104 x4 x5 v7 u4.2
def jb_X12_joined_43 (fu : Nat) (E : Ev) (a0 : Nat) (x3 : Int32) (x4 : Int32) (x5 : Int32) (S : St) : Option (Int32 × St) :=
  if x3 = x4 then (
    some (x3 + x5, S)
  ) else (
    if 0 < (x3 - x3 / 8 * 8) then (
      some (16 + x5, S)
    ) else (
      if 0 < (x4 - x4 / 8 * 8) then (
        some (16 + x5, S)
      ) else (
        (sp_X12_isClass fu E S a0 (x3 / 8)).bind fun u1 =>
        if u1.1 = 0 then (
          some (16 + x5, u1.2)
        ) else (
          (sp_X12_isClass fu E u1.2 a0 (x4 / 8)).bind fun u2 =>
          if u2.1 = 0 then (
            some (16 + x5, u2.2)
          ) else (
            bnd (x3 / 8) fun v3 =>
            lp_X12_joined_104 fu E a0 fu x4 x5 v3 u2.2
          )
        )
      )
    )
  )
set_option maxRecDepth 100000 in
theorem kj_X12_joined_43 {X : Cx} {E : Ev} {t : (Int32 × St)} {a0 : Nat} (hQ : EndR mX12_joined X (PoI E t)) (hE : WE E) (fu : Nat) (ha0 : E.1 a0 = some (0, 10, 0)) (x3 : Int32) (x4 : Int32) (x5 : Int32) (S : St) : K mX12_joined X E 43 [(0, .ref a0), (3, .int x3), (4, .int x4), (5, .int x5)] [] S 0 0 (jb_X12_joined_43 fu E a0 x3 x4 x5 S) t := by
  unfold jb_X12_joined_43
  refine K_iload_n dX12_joined_43 rfl rfl ?_
  refine K_iload dX12_joined_44 rfl ?_
  refine K_icmp_ne (tgt := 54) dX12_joined_46 (by decide) (fun c13 => ?_) (fun c13 => ?_)
  · refine K_iload_n dX12_joined_54 rfl rfl ?_
    refine K_bipush (v := 8) dX12_joined_55 (by decide) ?_
    refine K_irem dX12_joined_57 (by decide) ?_
    refine K_if_gt (tgt := 92) dX12_joined_58 (by decide) (fun c12 => ?_) (fun c12 => ?_)
    · refine K_bipush (v := 16) dX12_joined_92 (by decide) ?_
      refine K_iload dX12_joined_94 rfl ?_
      refine K_iadd dX12_joined_96 ?_
      exact K_iret dX12_joined_97 hQ rfl (Nat.le_of_ble_eq_true rfl) (Nat.le_of_ble_eq_true rfl)
    · refine K_iload dX12_joined_61 rfl ?_
      refine K_bipush (v := 8) dX12_joined_63 (by decide) ?_
      refine K_irem dX12_joined_65 (by decide) ?_
      refine K_if_gt (tgt := 92) dX12_joined_66 (by decide) (fun c11 => ?_) (fun c11 => ?_)
      · refine K_bipush (v := 16) dX12_joined_92 (by decide) ?_
        refine K_iload dX12_joined_94 rfl ?_
        refine K_iadd dX12_joined_96 ?_
        exact K_iret dX12_joined_97 hQ rfl (Nat.le_of_ble_eq_true rfl) (Nat.le_of_ble_eq_true rfl)
      · refine K_aload_n dX12_joined_69 rfl rfl ?_
        refine K_iload_n dX12_joined_70 rfl rfl ?_
        refine K_bipush (v := 8) dX12_joined_71 (by decide) ?_
        refine K_idiv dX12_joined_73 (by decide) ?_
        refine K_bind (fun u1 hu1 => ?_)
        refine K_callVI (As := [.int (x3 / 8)]) (k_X12_isClass fu hE ha0 hu1) dX12_joined_74 v_X12_109 ha0 rfl rfl rfl rfl (Nat.le_of_ble_eq_true rfl) ⟨Nat.le_of_ble_eq_true rfl, Nat.le_of_ble_eq_true rfl, Nat.le_of_ble_eq_true rfl, Nat.le_of_ble_eq_true rfl⟩ ?_
        refine K_if_eq (tgt := 92) dX12_joined_77 (by decide) (fun c10 => ?_) (fun c10 => ?_)
        · refine K_bipush (v := 16) dX12_joined_92 (by decide) ?_
          refine K_iload dX12_joined_94 rfl ?_
          refine K_iadd dX12_joined_96 ?_
          exact K_iret dX12_joined_97 hQ rfl (Nat.le_of_ble_eq_true rfl) (Nat.le_of_ble_eq_true rfl)
        · refine K_aload_n dX12_joined_80 rfl rfl ?_
          refine K_iload dX12_joined_81 rfl ?_
          refine K_bipush (v := 8) dX12_joined_83 (by decide) ?_
          refine K_idiv dX12_joined_85 (by decide) ?_
          refine K_bind (fun u2 hu2 => ?_)
          refine K_callVI (As := [.int (x4 / 8)]) (k_X12_isClass fu hE ha0 hu2) dX12_joined_86 v_X12_109 ha0 rfl rfl rfl rfl (Nat.le_of_ble_eq_true rfl) ⟨Nat.le_of_ble_eq_true rfl, Nat.le_of_ble_eq_true rfl, Nat.le_of_ble_eq_true rfl, Nat.le_of_ble_eq_true rfl⟩ ?_
          refine K_if_ne (tgt := 98) dX12_joined_89 (by decide) (fun c9 => ?_) (fun c9 => ?_)
          · refine K_iload_n dX12_joined_98 rfl rfl ?_
            refine K_bipush (v := 8) dX12_joined_99 (by decide) ?_
            refine K_idiv dX12_joined_101 (by decide) ?_
            refine K_nmI (fun v3 => ?_)
            refine K_istore (ls' := [(0, _), (3, _), (4, _), (5, _), (6, _)]) dX12_joined_102 (by decide) rfl ?_
            refine K.keep [0, 4, 5, 6] ?_
            exact kl_X12_joined_104 hQ hE fu ha0 fu x4 x5 v3 u2.2
          · refine K_bipush (v := 16) dX12_joined_92 (by decide) ?_
            refine K_iload dX12_joined_94 rfl ?_
            refine K_iadd dX12_joined_96 ?_
            exact K_iret dX12_joined_97 hQ rfl (Nat.le_of_ble_eq_true rfl) (Nat.le_of_ble_eq_true rfl)
  · refine K_iload_n dX12_joined_49 rfl rfl ?_
    refine K_iload dX12_joined_50 rfl ?_
    refine K_iadd dX12_joined_52 ?_
    exact K_iret dX12_joined_53 hQ rfl (Nat.le_of_ble_eq_true rfl) (Nat.le_of_ble_eq_true rfl)
def bd_X12_joined_8 (fu : Nat) (E : Ev) (a0 : Nat) (rc8 : Int32 → Int32 → Int32 → St → Option (Int32 × St)) (x3 : Int32) (x4 : Int32) (x5 : Int32) (S : St) : Option (Int32 × St) :=
  if x3 = x4 then (
    jb_X12_joined_43 fu E a0 x3 x4 x5 S
  ) else (
    (sp_X12_isRow fu E S a0 x3).bind fun u14 =>
    if u14.1 = 0 then (
      jb_X12_joined_43 fu E a0 x3 x4 x5 u14.2
    ) else (
      (sp_X12_isRow fu E u14.2 a0 x4).bind fun u15 =>
      if u15.1 = 0 then (
        jb_X12_joined_43 fu E a0 x3 x4 x5 u15.2
      ) else (
        rc8 (x3 + (-1)) (x4 + (-1)) (x5 + 1) u15.2
      )
    )
  )
def lp_X12_joined_8 (fu : Nat) (E : Ev) (a0 : Nat) : Nat → Int32 → Int32 → Int32 → St → Option (Int32 × St)
  | 0, _, _, _, _ => none
  | f + 1, x3, x4, x5, S => bd_X12_joined_8 fu E a0 (lp_X12_joined_8 fu E a0 f) x3 x4 x5 S
set_option maxRecDepth 100000 in
theorem kl_X12_joined_8 {X : Cx} {E : Ev} {t : (Int32 × St)} {a0 : Nat} (hQ : EndR mX12_joined X (PoI E t)) (hE : WE E) (fu : Nat) (ha0 : E.1 a0 = some (0, 10, 0)) : ∀ (f : Nat) (x3 : Int32) (x4 : Int32) (x5 : Int32) (S : St), K mX12_joined X E 8 [(0, .ref a0), (3, .int x3), (4, .int x4), (5, .int x5)] [] S 0 0 (lp_X12_joined_8 fu E a0 f x3 x4 x5 S) t := by
  intro f
  induction f with
  | zero => intro x3 x4 x5 S; exact K_none
  | succ f hrc8 =>
    intro x3 x4 x5 S
    show K _ _ _ _ _ _ _ _ _ (bd_X12_joined_8 fu E a0 (lp_X12_joined_8 fu E a0 f) x3 x4 x5 S) t
    unfold bd_X12_joined_8
    refine K_iload_n dX12_joined_8 rfl rfl ?_
    refine K_iload dX12_joined_9 rfl ?_
    refine K_icmp_eq (tgt := 43) dX12_joined_11 (by decide) (fun c18 => ?_) (fun c18 => ?_)
    · refine K.keep [0, 3, 4, 5] ?_
      exact kj_X12_joined_43 hQ hE fu ha0 x3 x4 x5 S
    · refine K_aload_n dX12_joined_14 rfl rfl ?_
      refine K_iload_n dX12_joined_15 rfl rfl ?_
      refine K_bind (fun u14 hu14 => ?_)
      refine K_callVI (As := [.int x3]) (k_X12_isRow fu hE ha0 hu14) dX12_joined_16 v_X12_106 ha0 rfl rfl rfl rfl (Nat.le_of_ble_eq_true rfl) ⟨Nat.le_of_ble_eq_true rfl, Nat.le_of_ble_eq_true rfl, Nat.le_of_ble_eq_true rfl, Nat.le_of_ble_eq_true rfl⟩ ?_
      refine K_if_eq (tgt := 43) dX12_joined_19 (by decide) (fun c17 => ?_) (fun c17 => ?_)
      · refine K.keep [0, 3, 4, 5] ?_
        exact kj_X12_joined_43 hQ hE fu ha0 x3 x4 x5 u14.2
      · refine K_aload_n dX12_joined_22 rfl rfl ?_
        refine K_iload dX12_joined_23 rfl ?_
        refine K_bind (fun u15 hu15 => ?_)
        refine K_callVI (As := [.int x4]) (k_X12_isRow fu hE ha0 hu15) dX12_joined_25 v_X12_106 ha0 rfl rfl rfl rfl (Nat.le_of_ble_eq_true rfl) ⟨Nat.le_of_ble_eq_true rfl, Nat.le_of_ble_eq_true rfl, Nat.le_of_ble_eq_true rfl, Nat.le_of_ble_eq_true rfl⟩ ?_
        refine K_if_eq (tgt := 43) dX12_joined_28 (by decide) (fun c16 => ?_) (fun c16 => ?_)
        · refine K.keep [0, 3, 4, 5] ?_
          exact kj_X12_joined_43 hQ hE fu ha0 x3 x4 x5 u15.2
        · refine K_iinc (v := (x3 + (-1))) (ls' := [(0, _), (3, _), (4, _), (5, _)]) dX12_joined_31 rfl rfl (by decide) rfl ?_
          refine K_iinc (v := (x4 + (-1))) (ls' := [(0, _), (3, _), (4, _), (5, _)]) dX12_joined_34 rfl rfl (by decide) rfl ?_
          refine K_iinc (v := (x5 + 1)) (ls' := [(0, _), (3, _), (4, _), (5, _)]) dX12_joined_37 rfl rfl (by decide) rfl ?_
          refine K_goto (tgt := 8) dX12_joined_40 (by decide) ?_
          refine K.keep [0, 3, 4, 5] ?_
          exact hrc8 (x3 + (-1)) (x4 + (-1)) (x5 + 1) u15.2
def sp_X12_joined (fu : Nat) (E : Ev) (S : St) (a0 : Nat) (x1 : Int32) (x2 : Int32) : Option (Int32 × St) :=
  lp_X12_joined_8 fu E a0 fu x1 x2 0 S
set_option maxRecDepth 100000 in
theorem k_X12_joined {l : Launch} (fu : Nat) {E : Ev} (hE : WE E) {a0 : Nat} (ha0 : E.1 a0 = some (0, 10, 0)) {x1 : Int32} {x2 : Int32} {S : St} {t : (Int32 × St)} (h : sp_X12_joined fu E S a0 x1 x2 = some t) : Cn l mX12_joined [.ref a0, .int x1, .int x2] (hp E S) (PoI E t) := by
  refine Cn.of (by decide) rfl (Nat.le_of_ble_eq_true rfl) (fun X _ _ hQ => ?_)
  refine (?_ : K mX12_joined X E 0 [(0, .ref a0), (1, .int x1), (2, .int x2)] [] S 0 0 (sp_X12_joined fu E S a0 x1 x2) t) h
  unfold sp_X12_joined
  refine K_iload_n dX12_joined_0 rfl rfl ?_
  refine K_istore_n (ls' := [(0, _), (1, _), (2, _), (3, _)]) dX12_joined_1 rfl (by decide) rfl ?_
  refine K_iload_n dX12_joined_2 rfl rfl ?_
  refine K_istore (ls' := [(0, _), (1, _), (2, _), (3, _), (4, _)]) dX12_joined_3 (by decide) rfl ?_
  refine K_iconst (v := 0) dX12_joined_5 (by decide) ?_
  refine K_istore (ls' := [(0, _), (1, _), (2, _), (3, _), (4, _), (5, _)]) dX12_joined_6 (by decide) rfl ?_
  refine K.keep [0, 3, 4, 5] ?_
  exact kl_X12_joined_8 hQ hE fu ha0 fu x1 x2 0 S
def sp_X12_fits (fu : Nat) (E : Ev) (S : St) (a0 : Nat) (x1 : Int32) (x2 : Int32) : Option (Int32 × St) :=
  if x1 = x2 then (
    some (1, S)
  ) else (
    if x2 = (-2) then (
      some (1, S)
    ) else (
      (sp_X12_isReference fu E S a0 x1).bind fun u1 =>
      if u1.1 = 0 then (
        some (0, u1.2)
      ) else (
        (sp_X12_isReferenceType fu E u1.2 a0 x2).bind fun u2 =>
        if u2.1 = 0 then (
          some (0, u2.2)
        ) else (
          if x1 = (-1) then (
            some (1, u2.2)
          ) else (
            (sp_X12_areAssignable fu E u2.2 a0 x1 x2).bind fun u3 =>
            if u3.1 = 0 then (
              some (0, u3.2)
            ) else (
              some (1, u3.2)
            )
          )
        )
      )
    )
  )
set_option maxRecDepth 100000 in
theorem k_X12_fits {l : Launch} (fu : Nat) {E : Ev} (hE : WE E) {a0 : Nat} (ha0 : E.1 a0 = some (0, 10, 0)) {x1 : Int32} {x2 : Int32} {S : St} {t : (Int32 × St)} (h : sp_X12_fits fu E S a0 x1 x2 = some t) : Cn l mX12_fits [.ref a0, .int x1, .int x2] (hp E S) (PoI E t) := by
  refine Cn.of (by decide) rfl (Nat.le_of_ble_eq_true rfl) (fun X _ _ hQ => ?_)
  refine (?_ : K mX12_fits X E 0 [(0, .ref a0), (1, .int x1), (2, .int x2)] [] S 0 0 (sp_X12_fits fu E S a0 x1 x2) t) h
  unfold sp_X12_fits
  refine K_iload_n dX12_fits_0 rfl rfl ?_
  refine K_iload_n dX12_fits_1 rfl rfl ?_
  refine K_icmp_eq (tgt := 41) dX12_fits_2 (by decide) (fun c9 => ?_) (fun c9 => ?_)
  · refine K_iconst (v := 1) dX12_fits_41 (by decide) ?_
    refine K_goto (tgt := 46) dX12_fits_42 (by decide) ?_
    exact K_zret dX12_fits_46 hQ rfl rfl (Nat.le_of_ble_eq_true rfl) (Nat.le_of_ble_eq_true rfl)
  · refine K_iload_n dX12_fits_5 rfl rfl ?_
    refine K_bipush (v := (-2)) dX12_fits_6 (by decide) ?_
    refine K_icmp_eq (tgt := 41) dX12_fits_8 (by decide) (fun c8 => ?_) (fun c8 => ?_)
    · refine K_iconst (v := 1) dX12_fits_41 (by decide) ?_
      refine K_goto (tgt := 46) dX12_fits_42 (by decide) ?_
      exact K_zret dX12_fits_46 hQ rfl rfl (Nat.le_of_ble_eq_true rfl) (Nat.le_of_ble_eq_true rfl)
    · refine K_aload_n dX12_fits_11 rfl rfl ?_
      refine K_iload_n dX12_fits_12 rfl rfl ?_
      refine K_bind (fun u1 hu1 => ?_)
      refine K_callVI (As := [.int x1]) (k_X12_isReference fu hE ha0 hu1) dX12_fits_13 v_X12_103 ha0 rfl rfl rfl rfl (Nat.le_of_ble_eq_true rfl) ⟨Nat.le_of_ble_eq_true rfl, Nat.le_of_ble_eq_true rfl, Nat.le_of_ble_eq_true rfl, Nat.le_of_ble_eq_true rfl⟩ ?_
      refine K_if_eq (tgt := 45) dX12_fits_16 (by decide) (fun c7 => ?_) (fun c7 => ?_)
      · refine K_iconst (v := 0) dX12_fits_45 (by decide) ?_
        exact K_zret dX12_fits_46 hQ rfl rfl (Nat.le_of_ble_eq_true rfl) (Nat.le_of_ble_eq_true rfl)
      · refine K_aload_n dX12_fits_19 rfl rfl ?_
        refine K_iload_n dX12_fits_20 rfl rfl ?_
        refine K_bind (fun u2 hu2 => ?_)
        refine K_callVI (As := [.int x2]) (k_X12_isReferenceType fu hE ha0 hu2) dX12_fits_21 v_X12_100 ha0 rfl rfl rfl rfl (Nat.le_of_ble_eq_true rfl) ⟨Nat.le_of_ble_eq_true rfl, Nat.le_of_ble_eq_true rfl, Nat.le_of_ble_eq_true rfl, Nat.le_of_ble_eq_true rfl⟩ ?_
        refine K_if_eq (tgt := 45) dX12_fits_24 (by decide) (fun c6 => ?_) (fun c6 => ?_)
        · refine K_iconst (v := 0) dX12_fits_45 (by decide) ?_
          exact K_zret dX12_fits_46 hQ rfl rfl (Nat.le_of_ble_eq_true rfl) (Nat.le_of_ble_eq_true rfl)
        · refine K_iload_n dX12_fits_27 rfl rfl ?_
          refine K_iconst (v := (-1)) dX12_fits_28 (by decide) ?_
          refine K_icmp_eq (tgt := 41) dX12_fits_29 (by decide) (fun c5 => ?_) (fun c5 => ?_)
          · refine K_iconst (v := 1) dX12_fits_41 (by decide) ?_
            refine K_goto (tgt := 46) dX12_fits_42 (by decide) ?_
            exact K_zret dX12_fits_46 hQ rfl rfl (Nat.le_of_ble_eq_true rfl) (Nat.le_of_ble_eq_true rfl)
          · refine K_aload_n dX12_fits_32 rfl rfl ?_
            refine K_iload_n dX12_fits_33 rfl rfl ?_
            refine K_iload_n dX12_fits_34 rfl rfl ?_
            refine K_bind (fun u3 hu3 => ?_)
            refine K_callVI (As := [.int x1, .int x2]) (k_X12_areAssignable fu hE ha0 hu3) dX12_fits_35 v_X12_116 ha0 rfl rfl rfl rfl (Nat.le_of_ble_eq_true rfl) ⟨Nat.le_of_ble_eq_true rfl, Nat.le_of_ble_eq_true rfl, Nat.le_of_ble_eq_true rfl, Nat.le_of_ble_eq_true rfl⟩ ?_
            refine K_if_eq (tgt := 45) dX12_fits_38 (by decide) (fun c4 => ?_) (fun c4 => ?_)
            · refine K_iconst (v := 0) dX12_fits_45 (by decide) ?_
              exact K_zret dX12_fits_46 hQ rfl rfl (Nat.le_of_ble_eq_true rfl) (Nat.le_of_ble_eq_true rfl)
            · refine K_iconst (v := 1) dX12_fits_41 (by decide) ?_
              refine K_goto (tgt := 46) dX12_fits_42 (by decide) ?_
              exact K_zret dX12_fits_46 hQ rfl rfl (Nat.le_of_ble_eq_true rfl) (Nat.le_of_ble_eq_true rfl)
def sp_X12_meet (fu : Nat) (E : Ev) (S : St) (a0 : Nat) (x1 : Int32) (x2 : Int32) : Option (Int32 × St) :=
  if x1 = x2 then (
    some (x1, S)
  ) else (
    (sp_X12_isReference fu E S a0 x1).bind fun u1 =>
    if u1.1 = 0 then (
      some ((-2), u1.2)
    ) else (
      (sp_X12_isReference fu E u1.2 a0 x2).bind fun u2 =>
      if u2.1 = 0 then (
        some ((-2), u2.2)
      ) else (
        if x1 = (-1) then (
          some (x2, u2.2)
        ) else (
          if x2 = (-1) then (
            some (x1, u2.2)
          ) else (
            (sp_X12_joined fu E u2.2 a0 x1 x2).bind fun u3 =>
            some (u3.1, u3.2)
          )
        )
      )
    )
  )
set_option maxRecDepth 100000 in
theorem k_X12_meet {l : Launch} (fu : Nat) {E : Ev} (hE : WE E) {a0 : Nat} (ha0 : E.1 a0 = some (0, 10, 0)) {x1 : Int32} {x2 : Int32} {S : St} {t : (Int32 × St)} (h : sp_X12_meet fu E S a0 x1 x2 = some t) : Cn l mX12_meet [.ref a0, .int x1, .int x2] (hp E S) (PoI E t) := by
  refine Cn.of (by decide) rfl (Nat.le_of_ble_eq_true rfl) (fun X _ _ hQ => ?_)
  refine (?_ : K mX12_meet X E 0 [(0, .ref a0), (1, .int x1), (2, .int x2)] [] S 0 0 (sp_X12_meet fu E S a0 x1 x2) t) h
  unfold sp_X12_meet
  refine K_iload_n dX12_meet_0 rfl rfl ?_
  refine K_iload_n dX12_meet_1 rfl rfl ?_
  refine K_icmp_ne (tgt := 7) dX12_meet_2 (by decide) (fun c8 => ?_) (fun c8 => ?_)
  · refine K_aload_n dX12_meet_7 rfl rfl ?_
    refine K_iload_n dX12_meet_8 rfl rfl ?_
    refine K_bind (fun u1 hu1 => ?_)
    refine K_callVI (As := [.int x1]) (k_X12_isReference fu hE ha0 hu1) dX12_meet_9 v_X12_103 ha0 rfl rfl rfl rfl (Nat.le_of_ble_eq_true rfl) ⟨Nat.le_of_ble_eq_true rfl, Nat.le_of_ble_eq_true rfl, Nat.le_of_ble_eq_true rfl, Nat.le_of_ble_eq_true rfl⟩ ?_
    refine K_if_eq (tgt := 23) dX12_meet_12 (by decide) (fun c7 => ?_) (fun c7 => ?_)
    · refine K_bipush (v := (-2)) dX12_meet_23 (by decide) ?_
      exact K_iret dX12_meet_25 hQ rfl (Nat.le_of_ble_eq_true rfl) (Nat.le_of_ble_eq_true rfl)
    · refine K_aload_n dX12_meet_15 rfl rfl ?_
      refine K_iload_n dX12_meet_16 rfl rfl ?_
      refine K_bind (fun u2 hu2 => ?_)
      refine K_callVI (As := [.int x2]) (k_X12_isReference fu hE ha0 hu2) dX12_meet_17 v_X12_103 ha0 rfl rfl rfl rfl (Nat.le_of_ble_eq_true rfl) ⟨Nat.le_of_ble_eq_true rfl, Nat.le_of_ble_eq_true rfl, Nat.le_of_ble_eq_true rfl, Nat.le_of_ble_eq_true rfl⟩ ?_
      refine K_if_ne (tgt := 26) dX12_meet_20 (by decide) (fun c6 => ?_) (fun c6 => ?_)
      · refine K_iload_n dX12_meet_26 rfl rfl ?_
        refine K_iconst (v := (-1)) dX12_meet_27 (by decide) ?_
        refine K_icmp_ne (tgt := 35) dX12_meet_28 (by decide) (fun c5 => ?_) (fun c5 => ?_)
        · refine K_iload_n dX12_meet_35 rfl rfl ?_
          refine K_iconst (v := (-1)) dX12_meet_36 (by decide) ?_
          refine K_icmp_ne (tgt := 44) dX12_meet_37 (by decide) (fun c4 => ?_) (fun c4 => ?_)
          · refine K_aload_n dX12_meet_44 rfl rfl ?_
            refine K_iload_n dX12_meet_45 rfl rfl ?_
            refine K_iload_n dX12_meet_46 rfl rfl ?_
            refine K_bind (fun u3 hu3 => ?_)
            refine K_callVI (As := [.int x1, .int x2]) (k_X12_joined fu hE ha0 hu3) dX12_meet_47 v_X12_119 ha0 rfl rfl rfl rfl (Nat.le_of_ble_eq_true rfl) ⟨Nat.le_of_ble_eq_true rfl, Nat.le_of_ble_eq_true rfl, Nat.le_of_ble_eq_true rfl, Nat.le_of_ble_eq_true rfl⟩ ?_
            exact K_iret dX12_meet_50 hQ rfl (Nat.le_of_ble_eq_true rfl) (Nat.le_of_ble_eq_true rfl)
          · refine K_iload_n dX12_meet_40 rfl rfl ?_
            refine K_goto (tgt := 50) dX12_meet_41 (by decide) ?_
            exact K_iret dX12_meet_50 hQ rfl (Nat.le_of_ble_eq_true rfl) (Nat.le_of_ble_eq_true rfl)
        · refine K_iload_n dX12_meet_31 rfl rfl ?_
          refine K_goto (tgt := 50) dX12_meet_32 (by decide) ?_
          exact K_iret dX12_meet_50 hQ rfl (Nat.le_of_ble_eq_true rfl) (Nat.le_of_ble_eq_true rfl)
      · refine K_bipush (v := (-2)) dX12_meet_23 (by decide) ?_
        exact K_iret dX12_meet_25 hQ rfl (Nat.le_of_ble_eq_true rfl) (Nat.le_of_ble_eq_true rfl)
  · refine K_iload_n dX12_meet_5 rfl rfl ?_
    exact K_iret dX12_meet_6 hQ rfl (Nat.le_of_ble_eq_true rfl) (Nat.le_of_ble_eq_true rfl)
def jb_X12_isAssignable_21 (fu : Nat) (E : Ev) (a0 : Nat) (S : St) : Option (Int32 × St) :=
  (sp_X12_no fu E S a0 1).bind fun u3 =>
  if u3.1 ≤ 0 then (
    some (0, u3.2)
  ) else (
    some (1, u3.2)
  )
set_option maxRecDepth 100000 in
theorem kj_X12_isAssignable_21 {X : Cx} {E : Ev} {t : (Int32 × St)} {a0 : Nat} (hQ : EndR mX12_isAssignable X (PoI E t)) (hE : WE E) (fu : Nat) (ha0 : E.1 a0 = some (0, 10, 0)) (S : St) : K mX12_isAssignable X E 21 [(0, .ref a0)] [] S 0 0 (jb_X12_isAssignable_21 fu E a0 S) t := by
  unfold jb_X12_isAssignable_21
  refine K_aload_n dX12_isAssignable_21 rfl rfl ?_
  refine K_iconst (v := 1) dX12_isAssignable_22 (by decide) ?_
  refine K_bind (fun u3 hu3 => ?_)
  refine K_callVI (As := [.int 1]) (k_X12_no fu hE ha0 hu3) dX12_isAssignable_23 v_X12_126 ha0 rfl rfl rfl rfl (Nat.le_of_ble_eq_true rfl) ⟨Nat.le_of_ble_eq_true rfl, Nat.le_of_ble_eq_true rfl, Nat.le_of_ble_eq_true rfl, Nat.le_of_ble_eq_true rfl⟩ ?_
  refine K_if_le (tgt := 33) dX12_isAssignable_26 (by decide) (fun c4 => ?_) (fun c4 => ?_)
  · refine K_iconst (v := 0) dX12_isAssignable_33 (by decide) ?_
    exact K_zret dX12_isAssignable_34 hQ rfl rfl (Nat.le_of_ble_eq_true rfl) (Nat.le_of_ble_eq_true rfl)
  · refine K_iconst (v := 1) dX12_isAssignable_29 (by decide) ?_
    refine K_goto (tgt := 34) dX12_isAssignable_30 (by decide) ?_
    exact K_zret dX12_isAssignable_34 hQ rfl rfl (Nat.le_of_ble_eq_true rfl) (Nat.le_of_ble_eq_true rfl)
def sp_X12_isAssignable (fu : Nat) (E : Ev) (S : St) (a0 : Nat) (x1 : Int32) (x2 : Int32) : Option (Int32 × St) :=
  bnd (sF S a0 0 0) fun S1 =>
  (sp_X12_isSlotValue fu E S1 a0 x1).bind fun u2 =>
  if u2.1 = 0 then (
    jb_X12_isAssignable_21 fu E a0 u2.2
  ) else (
    (sp_X12_isSlotValue fu E u2.2 a0 x2).bind fun u5 =>
    if u5.1 = 0 then (
      jb_X12_isAssignable_21 fu E a0 u5.2
    ) else (
      (sp_X12_fits fu E u5.2 a0 x1 x2).bind fun u6 =>
      if isB u6.1 = true then some (u6.1, u6.2) else none
    )
  )
set_option maxRecDepth 100000 in
theorem k_X12_isAssignable {l : Launch} (fu : Nat) {E : Ev} (hE : WE E) {a0 : Nat} (ha0 : E.1 a0 = some (0, 10, 0)) {x1 : Int32} {x2 : Int32} {S : St} {t : (Int32 × St)} (h : sp_X12_isAssignable fu E S a0 x1 x2 = some t) : Cn l mX12_isAssignable [.ref a0, .int x1, .int x2] (hp E S) (PoI E t) := by
  refine Cn.of (by decide) rfl (Nat.le_of_ble_eq_true rfl) (fun X _ _ hQ => ?_)
  refine (?_ : K mX12_isAssignable X E 0 [(0, .ref a0), (1, .int x1), (2, .int x2)] [] S 0 0 (sp_X12_isAssignable fu E S a0 x1 x2) t) h
  unfold sp_X12_isAssignable
  refine K_aload_n dX12_isAssignable_0 rfl rfl ?_
  refine K_iconst (v := 0) dX12_isAssignable_1 (by decide) ?_
  refine K_putI dX12_isAssignable_2 p_X12_90_10 ha0 rfl ?_
  refine K_nmS (fun S1 => ?_)
  refine K_aload_n dX12_isAssignable_5 rfl rfl ?_
  refine K_iload_n dX12_isAssignable_6 rfl rfl ?_
  refine K_bind (fun u2 hu2 => ?_)
  refine K_callVI (As := [.int x1]) (k_X12_isSlotValue fu hE ha0 hu2) dX12_isAssignable_7 v_X12_123 ha0 rfl rfl rfl rfl (Nat.le_of_ble_eq_true rfl) ⟨Nat.le_of_ble_eq_true rfl, Nat.le_of_ble_eq_true rfl, Nat.le_of_ble_eq_true rfl, Nat.le_of_ble_eq_true rfl⟩ ?_
  refine K_if_eq (tgt := 21) dX12_isAssignable_10 (by decide) (fun c9 => ?_) (fun c9 => ?_)
  · refine K.keep [0] ?_
    exact kj_X12_isAssignable_21 hQ hE fu ha0 u2.2
  · refine K_aload_n dX12_isAssignable_13 rfl rfl ?_
    refine K_iload_n dX12_isAssignable_14 rfl rfl ?_
    refine K_bind (fun u5 hu5 => ?_)
    refine K_callVI (As := [.int x2]) (k_X12_isSlotValue fu hE ha0 hu5) dX12_isAssignable_15 v_X12_123 ha0 rfl rfl rfl rfl (Nat.le_of_ble_eq_true rfl) ⟨Nat.le_of_ble_eq_true rfl, Nat.le_of_ble_eq_true rfl, Nat.le_of_ble_eq_true rfl, Nat.le_of_ble_eq_true rfl⟩ ?_
    refine K_if_ne (tgt := 35) dX12_isAssignable_18 (by decide) (fun c8 => ?_) (fun c8 => ?_)
    · refine K_aload_n dX12_isAssignable_35 rfl rfl ?_
      refine K_iload_n dX12_isAssignable_36 rfl rfl ?_
      refine K_iload_n dX12_isAssignable_37 rfl rfl ?_
      refine K_bind (fun u6 hu6 => ?_)
      refine K_callVI (As := [.int x1, .int x2]) (k_X12_fits fu hE ha0 hu6) dX12_isAssignable_38 v_X12_130 ha0 rfl rfl rfl rfl (Nat.le_of_ble_eq_true rfl) ⟨Nat.le_of_ble_eq_true rfl, Nat.le_of_ble_eq_true rfl, Nat.le_of_ble_eq_true rfl, Nat.le_of_ble_eq_true rfl⟩ ?_
      refine K_chk (fun h7 => ?_)
      exact K_zret dX12_isAssignable_41 hQ rfl h7 (Nat.le_of_ble_eq_true rfl) (Nat.le_of_ble_eq_true rfl)
    · refine K.keep [0] ?_
      exact kj_X12_isAssignable_21 hQ hE fu ha0 u5.2
def sp_X12_join (fu : Nat) (E : Ev) (S : St) (a0 : Nat) (x1 : Int32) (x2 : Int32) : Option (Int32 × St) :=
  bnd (sF S a0 0 0) fun S1 =>
  (sp_X12_isSlotValue fu E S1 a0 x1).bind fun u2 =>
  if u2.1 = 0 then (
    (sp_X12_no fu E u2.2 a0 1).bind fun u3 =>
    some (u3.1, u3.2)
  ) else (
    (sp_X12_isSlotValue fu E u2.2 a0 x2).bind fun u4 =>
    if u4.1 = 0 then (
      (sp_X12_no fu E u4.2 a0 1).bind fun u5 =>
      some (u5.1, u5.2)
    ) else (
      (sp_X12_meet fu E u4.2 a0 x1 x2).bind fun u6 =>
      some (u6.1, u6.2)
    )
  )
set_option maxRecDepth 100000 in
theorem k_X12_join {l : Launch} (fu : Nat) {E : Ev} (hE : WE E) {a0 : Nat} (ha0 : E.1 a0 = some (0, 10, 0)) {x1 : Int32} {x2 : Int32} {S : St} {t : (Int32 × St)} (h : sp_X12_join fu E S a0 x1 x2 = some t) : Cn l mX12_join [.ref a0, .int x1, .int x2] (hp E S) (PoI E t) := by
  refine Cn.of (by decide) rfl (Nat.le_of_ble_eq_true rfl) (fun X _ _ hQ => ?_)
  refine (?_ : K mX12_join X E 0 [(0, .ref a0), (1, .int x1), (2, .int x2)] [] S 0 0 (sp_X12_join fu E S a0 x1 x2) t) h
  unfold sp_X12_join
  refine K_aload_n dX12_join_0 rfl rfl ?_
  refine K_iconst (v := 0) dX12_join_1 (by decide) ?_
  refine K_putI dX12_join_2 p_X12_90_10 ha0 rfl ?_
  refine K_nmS (fun S1 => ?_)
  refine K_aload_n dX12_join_5 rfl rfl ?_
  refine K_iload_n dX12_join_6 rfl rfl ?_
  refine K_bind (fun u2 hu2 => ?_)
  refine K_callVI (As := [.int x1]) (k_X12_isSlotValue fu hE ha0 hu2) dX12_join_7 v_X12_123 ha0 rfl rfl rfl rfl (Nat.le_of_ble_eq_true rfl) ⟨Nat.le_of_ble_eq_true rfl, Nat.le_of_ble_eq_true rfl, Nat.le_of_ble_eq_true rfl, Nat.le_of_ble_eq_true rfl⟩ ?_
  refine K_if_eq (tgt := 30) dX12_join_10 (by decide) (fun c8 => ?_) (fun c8 => ?_)
  · refine K_aload_n dX12_join_30 rfl rfl ?_
    refine K_iconst (v := 1) dX12_join_31 (by decide) ?_
    refine K_bind (fun u3 hu3 => ?_)
    refine K_callVI (As := [.int 1]) (k_X12_no fu hE ha0 hu3) dX12_join_32 v_X12_126 ha0 rfl rfl rfl rfl (Nat.le_of_ble_eq_true rfl) ⟨Nat.le_of_ble_eq_true rfl, Nat.le_of_ble_eq_true rfl, Nat.le_of_ble_eq_true rfl, Nat.le_of_ble_eq_true rfl⟩ ?_
    exact K_iret dX12_join_35 hQ rfl (Nat.le_of_ble_eq_true rfl) (Nat.le_of_ble_eq_true rfl)
  · refine K_aload_n dX12_join_13 rfl rfl ?_
    refine K_iload_n dX12_join_14 rfl rfl ?_
    refine K_bind (fun u4 hu4 => ?_)
    refine K_callVI (As := [.int x2]) (k_X12_isSlotValue fu hE ha0 hu4) dX12_join_15 v_X12_123 ha0 rfl rfl rfl rfl (Nat.le_of_ble_eq_true rfl) ⟨Nat.le_of_ble_eq_true rfl, Nat.le_of_ble_eq_true rfl, Nat.le_of_ble_eq_true rfl, Nat.le_of_ble_eq_true rfl⟩ ?_
    refine K_if_eq (tgt := 30) dX12_join_18 (by decide) (fun c7 => ?_) (fun c7 => ?_)
    · refine K_aload_n dX12_join_30 rfl rfl ?_
      refine K_iconst (v := 1) dX12_join_31 (by decide) ?_
      refine K_bind (fun u5 hu5 => ?_)
      refine K_callVI (As := [.int 1]) (k_X12_no fu hE ha0 hu5) dX12_join_32 v_X12_126 ha0 rfl rfl rfl rfl (Nat.le_of_ble_eq_true rfl) ⟨Nat.le_of_ble_eq_true rfl, Nat.le_of_ble_eq_true rfl, Nat.le_of_ble_eq_true rfl, Nat.le_of_ble_eq_true rfl⟩ ?_
      exact K_iret dX12_join_35 hQ rfl (Nat.le_of_ble_eq_true rfl) (Nat.le_of_ble_eq_true rfl)
    · refine K_aload_n dX12_join_21 rfl rfl ?_
      refine K_iload_n dX12_join_22 rfl rfl ?_
      refine K_iload_n dX12_join_23 rfl rfl ?_
      refine K_bind (fun u6 hu6 => ?_)
      refine K_callVI (As := [.int x1, .int x2]) (k_X12_meet fu hE ha0 hu6) dX12_join_24 v_X12_133 ha0 rfl rfl rfl rfl (Nat.le_of_ble_eq_true rfl) ⟨Nat.le_of_ble_eq_true rfl, Nat.le_of_ble_eq_true rfl, Nat.le_of_ble_eq_true rfl, Nat.le_of_ble_eq_true rfl⟩ ?_
      refine K_goto (tgt := 35) dX12_join_27 (by decide) ?_
      exact K_iret dX12_join_35 hQ rfl (Nat.le_of_ble_eq_true rfl) (Nat.le_of_ble_eq_true rfl)
def sp_X12_wide (fu : Nat) (E : Ev) (S : St) (x0 : Int32) : Option (Int32 × St) :=
  if x0 = 8 then (
    some (2, S)
  ) else (
    some (1, S)
  )
set_option maxRecDepth 100000 in
theorem k_X12_wide {l : Launch} (fu : Nat) {E : Ev} (hE : WE E) {x0 : Int32} {S : St} {t : (Int32 × St)} (h : sp_X12_wide fu E S x0 = some t) : Cn l mX12_wide [.int x0] (hp E S) (PoI E t) := by
  refine Cn.of (by decide) rfl (Nat.le_of_ble_eq_true rfl) (fun X _ _ hQ => ?_)
  refine (?_ : K mX12_wide X E 0 [(0, .int x0)] [] S 0 0 (sp_X12_wide fu E S x0) t) h
  unfold sp_X12_wide
  refine K_iload_n dX12_wide_0 rfl rfl ?_
  refine K_bipush (v := 8) dX12_wide_1 (by decide) ?_
  refine K_icmp_ne (tgt := 10) dX12_wide_3 (by decide) (fun c1 => ?_) (fun c1 => ?_)
  · refine K_iconst (v := 1) dX12_wide_10 (by decide) ?_
    exact K_iret dX12_wide_11 hQ rfl (Nat.le_of_ble_eq_true rfl) (Nat.le_of_ble_eq_true rfl)
  · refine K_iconst (v := 2) dX12_wide_6 (by decide) ?_
    refine K_goto (tgt := 11) dX12_wide_7 (by decide) ?_
    exact K_iret dX12_wide_11 hQ rfl (Nat.le_of_ble_eq_true rfl) (Nat.le_of_ble_eq_true rfl)
def jb_X12_declareClass_28 (fu : Nat) (E : Ev) (a0 : Nat) (x1 : Int32) (x2 : Int32) (S : St) : Option (Int32 × St) :=
  if (S.1 a0 1) = 20 then (
    (sp_X12_no fu E S a0 2).bind fun u12 =>
    some (u12.1, u12.2)
  ) else (
    if inb (S.1 a0 1) 20 = true then (
      bnd (sG S (E.2 a0 2) ((S.1 a0 1).toNatClampNeg) x1) fun S6 =>
      if inb (S6.1 a0 1) 20 = true then (
      if isB x2 = true then (
        bnd (sG S6 (E.2 a0 3) ((S6.1 a0 1).toNatClampNeg) x2) fun S10 =>
        bnd (sF S10 a0 1 ((S10.1 a0 1) + 1)) fun S11 =>
        some ((S11.1 a0 1) - 1, S11)
      ) else none
      ) else none
    ) else none
  )
set_option maxRecDepth 100000 in
theorem kj_X12_declareClass_28 {X : Cx} {E : Ev} {t : (Int32 × St)} {a0 : Nat} (hQ : EndR mX12_declareClass X (PoI E t)) (hE : WE E) (fu : Nat) (ha0 : E.1 a0 = some (0, 10, 0)) (x1 : Int32) (x2 : Int32) (S : St) : K mX12_declareClass X E 28 [(0, .ref a0), (1, .int x1), (2, .int x2)] [] S 0 0 (jb_X12_declareClass_28 fu E a0 x1 x2 S) t := by
  unfold jb_X12_declareClass_28
  refine K_aload_n dX12_declareClass_28 rfl rfl ?_
  refine K_getI dX12_declareClass_29 f_X12_9_10 ha0 rfl ?_
  refine K_bipush (v := 20) dX12_declareClass_32 (by decide) ?_
  refine K_icmp_ne (tgt := 43) dX12_declareClass_34 (by decide) (fun c13 => ?_) (fun c13 => ?_)
  · refine K_aload_n dX12_declareClass_43 rfl rfl ?_
    refine K_getC hE dX12_declareClass_44 f_X12_13_10 ha0 rfl rfl (fun h4 => ?_)
    refine K_aload_n dX12_declareClass_47 rfl rfl ?_
    refine K_getI dX12_declareClass_48 f_X12_9_10 ha0 rfl ?_
    refine K_iload_n dX12_declareClass_51 rfl rfl ?_
    refine K_chk (fun h5 => ?_)
    refine K_iast dX12_declareClass_52 h4 h5 ?_
    refine K_nmS (fun S6 => ?_)
    refine K_aload_n dX12_declareClass_53 rfl rfl ?_
    refine K_getC hE dX12_declareClass_54 f_X12_17_10 ha0 rfl rfl (fun h7 => ?_)
    refine K_aload_n dX12_declareClass_57 rfl rfl ?_
    refine K_getI dX12_declareClass_58 f_X12_9_10 ha0 rfl ?_
    refine K_iload_n dX12_declareClass_61 rfl rfl ?_
    refine K_chk (fun h8 => ?_)
    refine K_chk (fun h9 => ?_)
    refine K_zast dX12_declareClass_62 h7 h8 h9 ?_
    refine K_nmS (fun S10 => ?_)
    refine K_aload_n dX12_declareClass_63 rfl rfl ?_
    refine K_dup dX12_declareClass_64 rfl ?_
    refine K_getI dX12_declareClass_65 f_X12_9_10 ha0 rfl ?_
    refine K_iconst (v := 1) dX12_declareClass_68 (by decide) ?_
    refine K_iadd dX12_declareClass_69 ?_
    refine K_putI dX12_declareClass_70 p_X12_9_10 ha0 rfl ?_
    refine K_nmS (fun S11 => ?_)
    refine K_aload_n dX12_declareClass_73 rfl rfl ?_
    refine K_getI dX12_declareClass_74 f_X12_9_10 ha0 rfl ?_
    refine K_iconst (v := 1) dX12_declareClass_77 (by decide) ?_
    refine K_isub dX12_declareClass_78 ?_
    exact K_iret dX12_declareClass_79 hQ rfl (Nat.le_of_ble_eq_true rfl) (Nat.le_of_ble_eq_true rfl)
  · refine K_aload_n dX12_declareClass_37 rfl rfl ?_
    refine K_iconst (v := 2) dX12_declareClass_38 (by decide) ?_
    refine K_bind (fun u12 hu12 => ?_)
    refine K_callVI (As := [.int 2]) (k_X12_no fu hE ha0 hu12) dX12_declareClass_39 v_X12_126 ha0 rfl rfl rfl rfl (Nat.le_of_ble_eq_true rfl) ⟨Nat.le_of_ble_eq_true rfl, Nat.le_of_ble_eq_true rfl, Nat.le_of_ble_eq_true rfl, Nat.le_of_ble_eq_true rfl⟩ ?_
    exact K_iret dX12_declareClass_42 hQ rfl (Nat.le_of_ble_eq_true rfl) (Nat.le_of_ble_eq_true rfl)
def sp_X12_declareClass (fu : Nat) (E : Ev) (S : St) (a0 : Nat) (x1 : Int32) (x2 : Int32) : Option (Int32 × St) :=
  bnd (sF S a0 0 0) fun S1 =>
  (sp_X12_isClass fu E S1 a0 x1).bind fun u2 =>
  if u2.1 = 0 then (
    (sp_X12_no fu E u2.2 a0 1).bind fun u3 =>
    some (u3.1, u3.2)
  ) else (
    if x2 = 0 then (
      jb_X12_declareClass_28 fu E a0 x1 x2 u2.2
    ) else (
      if x1 = 2 then (
        jb_X12_declareClass_28 fu E a0 x1 x2 u2.2
      ) else (
        (sp_X12_no fu E u2.2 a0 1).bind fun u14 =>
        some (u14.1, u14.2)
      )
    )
  )
set_option maxRecDepth 100000 in
theorem k_X12_declareClass {l : Launch} (fu : Nat) {E : Ev} (hE : WE E) {a0 : Nat} (ha0 : E.1 a0 = some (0, 10, 0)) {x1 : Int32} {x2 : Int32} {S : St} {t : (Int32 × St)} (h : sp_X12_declareClass fu E S a0 x1 x2 = some t) : Cn l mX12_declareClass [.ref a0, .int x1, .int x2] (hp E S) (PoI E t) := by
  refine Cn.of (by decide) rfl (Nat.le_of_ble_eq_true rfl) (fun X _ _ hQ => ?_)
  refine (?_ : K mX12_declareClass X E 0 [(0, .ref a0), (1, .int x1), (2, .int x2)] [] S 0 0 (sp_X12_declareClass fu E S a0 x1 x2) t) h
  unfold sp_X12_declareClass
  refine K_aload_n dX12_declareClass_0 rfl rfl ?_
  refine K_iconst (v := 0) dX12_declareClass_1 (by decide) ?_
  refine K_putI dX12_declareClass_2 p_X12_90_10 ha0 rfl ?_
  refine K_nmS (fun S1 => ?_)
  refine K_aload_n dX12_declareClass_5 rfl rfl ?_
  refine K_iload_n dX12_declareClass_6 rfl rfl ?_
  refine K_bind (fun u2 hu2 => ?_)
  refine K_callVI (As := [.int x1]) (k_X12_isClass fu hE ha0 hu2) dX12_declareClass_7 v_X12_109 ha0 rfl rfl rfl rfl (Nat.le_of_ble_eq_true rfl) ⟨Nat.le_of_ble_eq_true rfl, Nat.le_of_ble_eq_true rfl, Nat.le_of_ble_eq_true rfl, Nat.le_of_ble_eq_true rfl⟩ ?_
  refine K_if_eq (tgt := 22) dX12_declareClass_10 (by decide) (fun c17 => ?_) (fun c17 => ?_)
  · refine K_aload_n dX12_declareClass_22 rfl rfl ?_
    refine K_iconst (v := 1) dX12_declareClass_23 (by decide) ?_
    refine K_bind (fun u3 hu3 => ?_)
    refine K_callVI (As := [.int 1]) (k_X12_no fu hE ha0 hu3) dX12_declareClass_24 v_X12_126 ha0 rfl rfl rfl rfl (Nat.le_of_ble_eq_true rfl) ⟨Nat.le_of_ble_eq_true rfl, Nat.le_of_ble_eq_true rfl, Nat.le_of_ble_eq_true rfl, Nat.le_of_ble_eq_true rfl⟩ ?_
    exact K_iret dX12_declareClass_27 hQ rfl (Nat.le_of_ble_eq_true rfl) (Nat.le_of_ble_eq_true rfl)
  · refine K_iload_n dX12_declareClass_13 rfl rfl ?_
    refine K_if_eq (tgt := 28) dX12_declareClass_14 (by decide) (fun c16 => ?_) (fun c16 => ?_)
    · refine K.keep [0, 1, 2] ?_
      exact kj_X12_declareClass_28 hQ hE fu ha0 x1 x2 u2.2
    · refine K_iload_n dX12_declareClass_17 rfl rfl ?_
      refine K_iconst (v := 2) dX12_declareClass_18 (by decide) ?_
      refine K_icmp_eq (tgt := 28) dX12_declareClass_19 (by decide) (fun c15 => ?_) (fun c15 => ?_)
      · refine K.keep [0, 1, 2] ?_
        exact kj_X12_declareClass_28 hQ hE fu ha0 x1 x2 u2.2
      · refine K_aload_n dX12_declareClass_22 rfl rfl ?_
        refine K_iconst (v := 1) dX12_declareClass_23 (by decide) ?_
        refine K_bind (fun u14 hu14 => ?_)
        refine K_callVI (As := [.int 1]) (k_X12_no fu hE ha0 hu14) dX12_declareClass_24 v_X12_126 ha0 rfl rfl rfl rfl (Nat.le_of_ble_eq_true rfl) ⟨Nat.le_of_ble_eq_true rfl, Nat.le_of_ble_eq_true rfl, Nat.le_of_ble_eq_true rfl, Nat.le_of_ble_eq_true rfl⟩ ?_
        exact K_iret dX12_declareClass_27 hQ rfl (Nat.le_of_ble_eq_true rfl) (Nat.le_of_ble_eq_true rfl)
def sp_X12_declareField (fu : Nat) (E : Ev) (S : St) (a0 : Nat) (x1 : Int32) (x2 : Int32) : Option (Int32 × St) :=
  bnd (sF S a0 0 0) fun S1 =>
  (sp_X12_isClass fu E S1 a0 x1).bind fun u2 =>
  if u2.1 = 0 then (
    (sp_X12_no fu E u2.2 a0 1).bind fun u3 =>
    some (u3.1, u3.2)
  ) else (
    (sp_X12_isType fu E u2.2 a0 x2).bind fun u4 =>
    if u4.1 = 0 then (
      (sp_X12_no fu E u4.2 a0 1).bind fun u14 =>
      some (u14.1, u14.2)
    ) else (
      if (u4.2.1 a0 4) = 30 then (
        (sp_X12_no fu E u4.2 a0 2).bind fun u12 =>
        some (u12.1, u12.2)
      ) else (
        if inb (u4.2.1 a0 4) 30 = true then (
          bnd (sG u4.2 (E.2 a0 5) ((u4.2.1 a0 4).toNatClampNeg) x1) fun S7 =>
          if inb (S7.1 a0 4) 30 = true then (
            bnd (sG S7 (E.2 a0 6) ((S7.1 a0 4).toNatClampNeg) x2) fun S10 =>
            bnd (sF S10 a0 4 ((S10.1 a0 4) + 1)) fun S11 =>
            some ((S11.1 a0 4) - 1, S11)
          ) else none
        ) else none
      )
    )
  )
set_option maxRecDepth 100000 in
theorem k_X12_declareField {l : Launch} (fu : Nat) {E : Ev} (hE : WE E) {a0 : Nat} (ha0 : E.1 a0 = some (0, 10, 0)) {x1 : Int32} {x2 : Int32} {S : St} {t : (Int32 × St)} (h : sp_X12_declareField fu E S a0 x1 x2 = some t) : Cn l mX12_declareField [.ref a0, .int x1, .int x2] (hp E S) (PoI E t) := by
  refine Cn.of (by decide) rfl (Nat.le_of_ble_eq_true rfl) (fun X _ _ hQ => ?_)
  refine (?_ : K mX12_declareField X E 0 [(0, .ref a0), (1, .int x1), (2, .int x2)] [] S 0 0 (sp_X12_declareField fu E S a0 x1 x2) t) h
  unfold sp_X12_declareField
  refine K_aload_n dX12_declareField_0 rfl rfl ?_
  refine K_iconst (v := 0) dX12_declareField_1 (by decide) ?_
  refine K_putI dX12_declareField_2 p_X12_90_10 ha0 rfl ?_
  refine K_nmS (fun S1 => ?_)
  refine K_aload_n dX12_declareField_5 rfl rfl ?_
  refine K_iload_n dX12_declareField_6 rfl rfl ?_
  refine K_bind (fun u2 hu2 => ?_)
  refine K_callVI (As := [.int x1]) (k_X12_isClass fu hE ha0 hu2) dX12_declareField_7 v_X12_109 ha0 rfl rfl rfl rfl (Nat.le_of_ble_eq_true rfl) ⟨Nat.le_of_ble_eq_true rfl, Nat.le_of_ble_eq_true rfl, Nat.le_of_ble_eq_true rfl, Nat.le_of_ble_eq_true rfl⟩ ?_
  refine K_if_eq (tgt := 21) dX12_declareField_10 (by decide) (fun c16 => ?_) (fun c16 => ?_)
  · refine K_aload_n dX12_declareField_21 rfl rfl ?_
    refine K_iconst (v := 1) dX12_declareField_22 (by decide) ?_
    refine K_bind (fun u3 hu3 => ?_)
    refine K_callVI (As := [.int 1]) (k_X12_no fu hE ha0 hu3) dX12_declareField_23 v_X12_126 ha0 rfl rfl rfl rfl (Nat.le_of_ble_eq_true rfl) ⟨Nat.le_of_ble_eq_true rfl, Nat.le_of_ble_eq_true rfl, Nat.le_of_ble_eq_true rfl, Nat.le_of_ble_eq_true rfl⟩ ?_
    exact K_iret dX12_declareField_26 hQ rfl (Nat.le_of_ble_eq_true rfl) (Nat.le_of_ble_eq_true rfl)
  · refine K_aload_n dX12_declareField_13 rfl rfl ?_
    refine K_iload_n dX12_declareField_14 rfl rfl ?_
    refine K_bind (fun u4 hu4 => ?_)
    refine K_callVI (As := [.int x2]) (k_X12_isType fu hE ha0 hu4) dX12_declareField_15 v_X12_93 ha0 rfl rfl rfl rfl (Nat.le_of_ble_eq_true rfl) ⟨Nat.le_of_ble_eq_true rfl, Nat.le_of_ble_eq_true rfl, Nat.le_of_ble_eq_true rfl, Nat.le_of_ble_eq_true rfl⟩ ?_
    refine K_if_ne (tgt := 27) dX12_declareField_18 (by decide) (fun c15 => ?_) (fun c15 => ?_)
    · refine K_aload_n dX12_declareField_27 rfl rfl ?_
      refine K_getI dX12_declareField_28 f_X12_136_10 ha0 rfl ?_
      refine K_bipush (v := 30) dX12_declareField_31 (by decide) ?_
      refine K_icmp_ne (tgt := 42) dX12_declareField_33 (by decide) (fun c13 => ?_) (fun c13 => ?_)
      · refine K_aload_n dX12_declareField_42 rfl rfl ?_
        refine K_getC hE dX12_declareField_43 f_X12_21_10 ha0 rfl rfl (fun h5 => ?_)
        refine K_aload_n dX12_declareField_46 rfl rfl ?_
        refine K_getI dX12_declareField_47 f_X12_136_10 ha0 rfl ?_
        refine K_iload_n dX12_declareField_50 rfl rfl ?_
        refine K_chk (fun h6 => ?_)
        refine K_iast dX12_declareField_51 h5 h6 ?_
        refine K_nmS (fun S7 => ?_)
        refine K_aload_n dX12_declareField_52 rfl rfl ?_
        refine K_getC hE dX12_declareField_53 f_X12_24_10 ha0 rfl rfl (fun h8 => ?_)
        refine K_aload_n dX12_declareField_56 rfl rfl ?_
        refine K_getI dX12_declareField_57 f_X12_136_10 ha0 rfl ?_
        refine K_iload_n dX12_declareField_60 rfl rfl ?_
        refine K_chk (fun h9 => ?_)
        refine K_iast dX12_declareField_61 h8 h9 ?_
        refine K_nmS (fun S10 => ?_)
        refine K_aload_n dX12_declareField_62 rfl rfl ?_
        refine K_dup dX12_declareField_63 rfl ?_
        refine K_getI dX12_declareField_64 f_X12_136_10 ha0 rfl ?_
        refine K_iconst (v := 1) dX12_declareField_67 (by decide) ?_
        refine K_iadd dX12_declareField_68 ?_
        refine K_putI dX12_declareField_69 p_X12_136_10 ha0 rfl ?_
        refine K_nmS (fun S11 => ?_)
        refine K_aload_n dX12_declareField_72 rfl rfl ?_
        refine K_getI dX12_declareField_73 f_X12_136_10 ha0 rfl ?_
        refine K_iconst (v := 1) dX12_declareField_76 (by decide) ?_
        refine K_isub dX12_declareField_77 ?_
        exact K_iret dX12_declareField_78 hQ rfl (Nat.le_of_ble_eq_true rfl) (Nat.le_of_ble_eq_true rfl)
      · refine K_aload_n dX12_declareField_36 rfl rfl ?_
        refine K_iconst (v := 2) dX12_declareField_37 (by decide) ?_
        refine K_bind (fun u12 hu12 => ?_)
        refine K_callVI (As := [.int 2]) (k_X12_no fu hE ha0 hu12) dX12_declareField_38 v_X12_126 ha0 rfl rfl rfl rfl (Nat.le_of_ble_eq_true rfl) ⟨Nat.le_of_ble_eq_true rfl, Nat.le_of_ble_eq_true rfl, Nat.le_of_ble_eq_true rfl, Nat.le_of_ble_eq_true rfl⟩ ?_
        exact K_iret dX12_declareField_41 hQ rfl (Nat.le_of_ble_eq_true rfl) (Nat.le_of_ble_eq_true rfl)
    · refine K_aload_n dX12_declareField_21 rfl rfl ?_
      refine K_iconst (v := 1) dX12_declareField_22 (by decide) ?_
      refine K_bind (fun u14 hu14 => ?_)
      refine K_callVI (As := [.int 1]) (k_X12_no fu hE ha0 hu14) dX12_declareField_23 v_X12_126 ha0 rfl rfl rfl rfl (Nat.le_of_ble_eq_true rfl) ⟨Nat.le_of_ble_eq_true rfl, Nat.le_of_ble_eq_true rfl, Nat.le_of_ble_eq_true rfl, Nat.le_of_ble_eq_true rfl⟩ ?_
      exact K_iret dX12_declareField_26 hQ rfl (Nat.le_of_ble_eq_true rfl) (Nat.le_of_ble_eq_true rfl)
def bd_X12_pendingSlots_4 (fu : Nat) (E : Ev) (a0 : Nat) (rc4 : Int32 → Int32 → St → Option (Int32 × St)) (x1 : Int32) (x2 : Int32) (S : St) : Option (Int32 × St) :=
  if (S.1 a0 13) ≤ x2 then (
    some (x1, S)
  ) else (
    if inb x2 6 = true then
      (
      (sp_X12_wide fu E S (S.2.1 (E.2 a0 14) x2.toNatClampNeg)).bind fun u3 =>
      bnd (x1 + u3.1) fun v4 =>
      rc4 v4 (x2 + 1) u3.2
      )
    else none
  )
def lp_X12_pendingSlots_4 (fu : Nat) (E : Ev) (a0 : Nat) : Nat → Int32 → Int32 → St → Option (Int32 × St)
  | 0, _, _, _ => none
  | f + 1, x1, x2, S => bd_X12_pendingSlots_4 fu E a0 (lp_X12_pendingSlots_4 fu E a0 f) x1 x2 S
set_option maxRecDepth 100000 in
theorem kl_X12_pendingSlots_4 {X : Cx} {E : Ev} {t : (Int32 × St)} {a0 : Nat} (hQ : EndR mX12_pendingSlots X (PoI E t)) (hE : WE E) (fu : Nat) (ha0 : E.1 a0 = some (0, 10, 0)) : ∀ (f : Nat) (x1 : Int32) (x2 : Int32) (S : St), K mX12_pendingSlots X E 4 [(0, .ref a0), (1, .int x1), (2, .int x2)] [] S 0 0 (lp_X12_pendingSlots_4 fu E a0 f x1 x2 S) t := by
  intro f
  induction f with
  | zero => intro x1 x2 S; exact K_none
  | succ f hrc4 =>
    intro x1 x2 S
    show K _ _ _ _ _ _ _ _ _ (bd_X12_pendingSlots_4 fu E a0 (lp_X12_pendingSlots_4 fu E a0 f) x1 x2 S) t
    unfold bd_X12_pendingSlots_4
    refine K_iload_n dX12_pendingSlots_4 rfl rfl ?_
    refine K_aload_n dX12_pendingSlots_5 rfl rfl ?_
    refine K_getI dX12_pendingSlots_6 f_X12_139_10 ha0 rfl ?_
    refine K_icmp_ge (tgt := 30) dX12_pendingSlots_9 (by decide) (fun c5 => ?_) (fun c5 => ?_)
    · refine K_iload_n dX12_pendingSlots_30 rfl rfl ?_
      exact K_iret dX12_pendingSlots_31 hQ rfl (Nat.le_of_ble_eq_true rfl) (Nat.le_of_ble_eq_true rfl)
    · refine K_iload_n dX12_pendingSlots_12 rfl rfl ?_
      refine K_aload_n dX12_pendingSlots_13 rfl rfl ?_
      refine K_getC hE dX12_pendingSlots_14 f_X12_42_10 ha0 rfl rfl (fun h1 => ?_)
      refine K_iload_n dX12_pendingSlots_17 rfl rfl ?_
      refine K_chk (fun h2 => ?_)
      refine K_iald dX12_pendingSlots_18 h1 h2 ?_
      refine K_bind (fun u3 hu3 => ?_)
      refine K_callSI (As := [.int (S.2.1 (E.2 a0 14) x2.toNatClampNeg)]) (k_X12_wide fu hE hu3) dX12_pendingSlots_19 s_X12_142 rfl rfl (Nat.le_of_ble_eq_true rfl) ⟨Nat.le_of_ble_eq_true rfl, Nat.le_of_ble_eq_true rfl, Nat.le_of_ble_eq_true rfl, Nat.le_of_ble_eq_true rfl⟩ ?_
      refine K_iadd dX12_pendingSlots_22 ?_
      refine K_nmI (fun v4 => ?_)
      refine K_istore_n (ls' := [(0, _), (1, _), (2, _)]) dX12_pendingSlots_23 rfl (by decide) rfl ?_
      refine K_iinc (v := (x2 + 1)) (ls' := [(0, _), (1, _), (2, _)]) dX12_pendingSlots_24 rfl rfl (by decide) rfl ?_
      refine K_goto (tgt := 4) dX12_pendingSlots_27 (by decide) ?_
      refine K.keep [0, 1, 2] ?_
      exact hrc4 v4 (x2 + 1) u3.2
def sp_X12_pendingSlots (fu : Nat) (E : Ev) (S : St) (a0 : Nat) : Option (Int32 × St) :=
  lp_X12_pendingSlots_4 fu E a0 fu 0 0 S
set_option maxRecDepth 100000 in
theorem k_X12_pendingSlots {l : Launch} (fu : Nat) {E : Ev} (hE : WE E) {a0 : Nat} (ha0 : E.1 a0 = some (0, 10, 0)) {S : St} {t : (Int32 × St)} (h : sp_X12_pendingSlots fu E S a0 = some t) : Cn l mX12_pendingSlots [.ref a0] (hp E S) (PoI E t) := by
  refine Cn.of (by decide) rfl (Nat.le_of_ble_eq_true rfl) (fun X _ _ hQ => ?_)
  refine (?_ : K mX12_pendingSlots X E 0 [(0, .ref a0)] [] S 0 0 (sp_X12_pendingSlots fu E S a0) t) h
  unfold sp_X12_pendingSlots
  refine K_iconst (v := 0) dX12_pendingSlots_0 (by decide) ?_
  refine K_istore_n (ls' := [(0, _), (1, _)]) dX12_pendingSlots_1 rfl (by decide) rfl ?_
  refine K_iconst (v := 0) dX12_pendingSlots_2 (by decide) ?_
  refine K_istore_n (ls' := [(0, _), (1, _), (2, _)]) dX12_pendingSlots_3 rfl (by decide) rfl ?_
  refine K.keep [0, 1, 2] ?_
  exact kl_X12_pendingSlots_4 hQ hE fu ha0 fu 0 0 S
def sp_X12_parameter (fu : Nat) (E : Ev) (S : St) (a0 : Nat) (x1 : Int32) : Option (Int32 × St) :=
  bnd (sF S a0 0 0) fun S1 =>
  (sp_X12_isType fu E S1 a0 x1).bind fun u2 =>
  if u2.1 = 0 then (
    (sp_X12_no fu E u2.2 a0 1).bind fun u12 =>
    some (u12.1, u12.2)
  ) else (
    (sp_X12_pendingSlots fu E u2.2 a0).bind fun u3 =>
    (sp_X12_wide fu E u3.2 x1).bind fun u4 =>
    if (u3.1 + u4.1) ≤ 6 then (
      if inb (u4.2.1 a0 13) 6 = true then (
        bnd (sG u4.2 (E.2 a0 14) ((u4.2.1 a0 13).toNatClampNeg) x1) fun S7 =>
        bnd (sF S7 a0 13 ((S7.1 a0 13) + 1)) fun S8 =>
        (sp_X12_pendingSlots fu E S8 a0).bind fun u9 =>
        some (u9.1, u9.2)
      ) else none
    ) else (
      (sp_X12_no fu E u4.2 a0 2).bind fun u10 =>
      some (u10.1, u10.2)
    )
  )
set_option maxRecDepth 100000 in
theorem k_X12_parameter {l : Launch} (fu : Nat) {E : Ev} (hE : WE E) {a0 : Nat} (ha0 : E.1 a0 = some (0, 10, 0)) {x1 : Int32} {S : St} {t : (Int32 × St)} (h : sp_X12_parameter fu E S a0 x1 = some t) : Cn l mX12_parameter [.ref a0, .int x1] (hp E S) (PoI E t) := by
  refine Cn.of (by decide) rfl (Nat.le_of_ble_eq_true rfl) (fun X _ _ hQ => ?_)
  refine (?_ : K mX12_parameter X E 0 [(0, .ref a0), (1, .int x1)] [] S 0 0 (sp_X12_parameter fu E S a0 x1) t) h
  unfold sp_X12_parameter
  refine K_aload_n dX12_parameter_0 rfl rfl ?_
  refine K_iconst (v := 0) dX12_parameter_1 (by decide) ?_
  refine K_putI dX12_parameter_2 p_X12_90_10 ha0 rfl ?_
  refine K_nmS (fun S1 => ?_)
  refine K_aload_n dX12_parameter_5 rfl rfl ?_
  refine K_iload_n dX12_parameter_6 rfl rfl ?_
  refine K_bind (fun u2 hu2 => ?_)
  refine K_callVI (As := [.int x1]) (k_X12_isType fu hE ha0 hu2) dX12_parameter_7 v_X12_93 ha0 rfl rfl rfl rfl (Nat.le_of_ble_eq_true rfl) ⟨Nat.le_of_ble_eq_true rfl, Nat.le_of_ble_eq_true rfl, Nat.le_of_ble_eq_true rfl, Nat.le_of_ble_eq_true rfl⟩ ?_
  refine K_if_ne (tgt := 19) dX12_parameter_10 (by decide) (fun c13 => ?_) (fun c13 => ?_)
  · refine K_aload_n dX12_parameter_19 rfl rfl ?_
    refine K_bind (fun u3 hu3 => ?_)
    refine K_callVI (As := []) (k_X12_pendingSlots fu hE ha0 hu3) dX12_parameter_20 v_X12_145 ha0 rfl rfl rfl rfl (Nat.le_of_ble_eq_true rfl) ⟨Nat.le_of_ble_eq_true rfl, Nat.le_of_ble_eq_true rfl, Nat.le_of_ble_eq_true rfl, Nat.le_of_ble_eq_true rfl⟩ ?_
    refine K_iload_n dX12_parameter_23 rfl rfl ?_
    refine K_bind (fun u4 hu4 => ?_)
    refine K_callSI (As := [.int x1]) (k_X12_wide fu hE hu4) dX12_parameter_24 s_X12_142 rfl rfl (Nat.le_of_ble_eq_true rfl) ⟨Nat.le_of_ble_eq_true rfl, Nat.le_of_ble_eq_true rfl, Nat.le_of_ble_eq_true rfl, Nat.le_of_ble_eq_true rfl⟩ ?_
    refine K_iadd dX12_parameter_27 ?_
    refine K_bipush (v := 6) dX12_parameter_28 (by decide) ?_
    refine K_icmp_le (tgt := 39) dX12_parameter_30 (by decide) (fun c11 => ?_) (fun c11 => ?_)
    · refine K_aload_n dX12_parameter_39 rfl rfl ?_
      refine K_getC hE dX12_parameter_40 f_X12_42_10 ha0 rfl rfl (fun h5 => ?_)
      refine K_aload_n dX12_parameter_43 rfl rfl ?_
      refine K_getI dX12_parameter_44 f_X12_139_10 ha0 rfl ?_
      refine K_iload_n dX12_parameter_47 rfl rfl ?_
      refine K_chk (fun h6 => ?_)
      refine K_iast dX12_parameter_48 h5 h6 ?_
      refine K_nmS (fun S7 => ?_)
      refine K_aload_n dX12_parameter_49 rfl rfl ?_
      refine K_dup dX12_parameter_50 rfl ?_
      refine K_getI dX12_parameter_51 f_X12_139_10 ha0 rfl ?_
      refine K_iconst (v := 1) dX12_parameter_54 (by decide) ?_
      refine K_iadd dX12_parameter_55 ?_
      refine K_putI dX12_parameter_56 p_X12_139_10 ha0 rfl ?_
      refine K_nmS (fun S8 => ?_)
      refine K_aload_n dX12_parameter_59 rfl rfl ?_
      refine K_bind (fun u9 hu9 => ?_)
      refine K_callVI (As := []) (k_X12_pendingSlots fu hE ha0 hu9) dX12_parameter_60 v_X12_145 ha0 rfl rfl rfl rfl (Nat.le_of_ble_eq_true rfl) ⟨Nat.le_of_ble_eq_true rfl, Nat.le_of_ble_eq_true rfl, Nat.le_of_ble_eq_true rfl, Nat.le_of_ble_eq_true rfl⟩ ?_
      exact K_iret dX12_parameter_63 hQ rfl (Nat.le_of_ble_eq_true rfl) (Nat.le_of_ble_eq_true rfl)
    · refine K_aload_n dX12_parameter_33 rfl rfl ?_
      refine K_iconst (v := 2) dX12_parameter_34 (by decide) ?_
      refine K_bind (fun u10 hu10 => ?_)
      refine K_callVI (As := [.int 2]) (k_X12_no fu hE ha0 hu10) dX12_parameter_35 v_X12_126 ha0 rfl rfl rfl rfl (Nat.le_of_ble_eq_true rfl) ⟨Nat.le_of_ble_eq_true rfl, Nat.le_of_ble_eq_true rfl, Nat.le_of_ble_eq_true rfl, Nat.le_of_ble_eq_true rfl⟩ ?_
      exact K_iret dX12_parameter_38 hQ rfl (Nat.le_of_ble_eq_true rfl) (Nat.le_of_ble_eq_true rfl)
  · refine K_aload_n dX12_parameter_13 rfl rfl ?_
    refine K_iconst (v := 1) dX12_parameter_14 (by decide) ?_
    refine K_bind (fun u12 hu12 => ?_)
    refine K_callVI (As := [.int 1]) (k_X12_no fu hE ha0 hu12) dX12_parameter_15 v_X12_126 ha0 rfl rfl rfl rfl (Nat.le_of_ble_eq_true rfl) ⟨Nat.le_of_ble_eq_true rfl, Nat.le_of_ble_eq_true rfl, Nat.le_of_ble_eq_true rfl, Nat.le_of_ble_eq_true rfl⟩ ?_
    exact K_iret dX12_parameter_18 hQ rfl (Nat.le_of_ble_eq_true rfl) (Nat.le_of_ble_eq_true rfl)
