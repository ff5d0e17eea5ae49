def jb_X11_isMethodAllowed_39 (fu : Nat) (E : Ev) (a0 : Nat) (x2 : Int32) (x3 : Int32) (S : St) : Option (Int32 × St) :=
  if x2 = 2 then (
    if x3 = (-1) then (
      some (1, S)
    ) else (
      some (0, S)
    )
  ) else (
    if x3 = (-1) then (
      some (1, S)
    ) else (
      (sp_X10_isType fu E S (E.2 a0 0) x3).bind fun u4 =>
      if u4.1 = 0 then (
        some (0, u4.2)
      ) else (
        some (1, u4.2)
      )
    )
  )
set_option maxRecDepth 100000 in
theorem kj_X11_isMethodAllowed_39 {X : Cx} {E : Ev} {t : (Int32 × St)} {a0 : Nat} (hQ : EndR mX11_isMethodAllowed X (PoI E t)) (hE : WE E) (fu : Nat) (ha0 : E.1 a0 = some (0, 9, 0)) (x2 : Int32) (x3 : Int32) (S : St) : K mX11_isMethodAllowed X E 39 [(0, .ref a0), (2, .int x2), (3, .int x3)] [] S 0 0 (jb_X11_isMethodAllowed_39 fu E a0 x2 x3 S) t := by
  unfold jb_X11_isMethodAllowed_39
  refine K_iload_n dX11_isMethodAllowed_39 rfl rfl ?_
  refine K_iconst (v := 2) dX11_isMethodAllowed_40 (by decide) ?_
  refine K_icmp_ne (tgt := 55) dX11_isMethodAllowed_41 (by decide) (fun c8 => ?_) (fun c8 => ?_)
  · refine K_iload_n dX11_isMethodAllowed_55 rfl rfl ?_
    refine K_iconst (v := (-1)) dX11_isMethodAllowed_56 (by decide) ?_
    refine K_icmp_eq (tgt := 71) dX11_isMethodAllowed_57 (by decide) (fun c6 => ?_) (fun c6 => ?_)
    · refine K_iconst (v := 1) dX11_isMethodAllowed_71 (by decide) ?_
      refine K_goto (tgt := 76) dX11_isMethodAllowed_72 (by decide) ?_
      exact K_zret dX11_isMethodAllowed_76 hQ rfl rfl (Nat.le_of_ble_eq_true rfl) (Nat.le_of_ble_eq_true rfl)
    · refine K_aload_n dX11_isMethodAllowed_60 rfl rfl ?_
      refine K_getC hE dX11_isMethodAllowed_61 f_X11_10_9 ha0 rfl rfl (fun h3 => ?_)
      refine K_iload_n dX11_isMethodAllowed_64 rfl rfl ?_
      refine K_bind (fun u4 hu4 => ?_)
      refine K_callVI (As := [.int x3]) (k_X10_isType fu hE h3 hu4) dX11_isMethodAllowed_65 v_X11_99 h3 rfl rfl rfl rfl (Nat.le_of_ble_eq_true rfl) ⟨Nat.le_of_ble_eq_true rfl, Nat.le_of_ble_eq_true rfl, Nat.le_of_ble_eq_true rfl, Nat.le_of_ble_eq_true rfl⟩ ?_
      refine K_if_eq (tgt := 75) dX11_isMethodAllowed_68 (by decide) (fun c5 => ?_) (fun c5 => ?_)
      · refine K_iconst (v := 0) dX11_isMethodAllowed_75 (by decide) ?_
        exact K_zret dX11_isMethodAllowed_76 hQ rfl rfl (Nat.le_of_ble_eq_true rfl) (Nat.le_of_ble_eq_true rfl)
      · refine K_iconst (v := 1) dX11_isMethodAllowed_71 (by decide) ?_
        refine K_goto (tgt := 76) dX11_isMethodAllowed_72 (by decide) ?_
        exact K_zret dX11_isMethodAllowed_76 hQ rfl rfl (Nat.le_of_ble_eq_true rfl) (Nat.le_of_ble_eq_true rfl)
  · refine K_iload_n dX11_isMethodAllowed_44 rfl rfl ?_
    refine K_iconst (v := (-1)) dX11_isMethodAllowed_45 (by decide) ?_
    refine K_icmp_ne (tgt := 53) dX11_isMethodAllowed_46 (by decide) (fun c7 => ?_) (fun c7 => ?_)
    · refine K_iconst (v := 0) dX11_isMethodAllowed_53 (by decide) ?_
      exact K_zret dX11_isMethodAllowed_54 hQ rfl rfl (Nat.le_of_ble_eq_true rfl) (Nat.le_of_ble_eq_true rfl)
    · refine K_iconst (v := 1) dX11_isMethodAllowed_49 (by decide) ?_
      refine K_goto (tgt := 54) dX11_isMethodAllowed_50 (by decide) ?_
      exact K_zret dX11_isMethodAllowed_54 hQ rfl rfl (Nat.le_of_ble_eq_true rfl) (Nat.le_of_ble_eq_true rfl)
def sp_X11_isMethodAllowed (fu : Nat) (E : Ev) (S : St) (a0 : Nat) (x1 : Int32) (x2 : Int32) (x3 : Int32) : Option (Int32 × St) :=
  if x2 < 0 then (
    some (0, S)
  ) else (
    if x2 ≤ 2 then (
      (sp_X10_isClass fu E S (E.2 a0 0) x1).bind fun u2 =>
      if u2.1 = 0 then (
        if x2 = 0 then (
          (sp_X10_isInterface fu E u2.2 (E.2 a0 0) x1).bind fun u10 =>
          if u10.1 = 0 then (
            some (0, u10.2)
          ) else (
            jb_X11_isMethodAllowed_39 fu E a0 x2 x3 u10.2
          )
        ) else (
          some (0, u2.2)
        )
      ) else (
        jb_X11_isMethodAllowed_39 fu E a0 x2 x3 u2.2
      )
    ) else (
      some (0, S)
    )
  )
set_option maxRecDepth 100000 in
theorem k_X11_isMethodAllowed {l : Launch} (fu : Nat) {E : Ev} (hE : WE E) {a0 : Nat} (ha0 : E.1 a0 = some (0, 9, 0)) {x1 : Int32} {x2 : Int32} {x3 : Int32} {S : St} {t : (Int32 × St)} (h : sp_X11_isMethodAllowed fu E S a0 x1 x2 x3 = some t) : Cn l mX11_isMethodAllowed [.ref a0, .int x1, .int x2, .int x3] (hp E S) (PoI E t) := by
  refine Cn.of (by decide) rfl (Nat.le_of_ble_eq_true rfl) (fun X _ _ hQ => ?_)
  refine (?_ : K mX11_isMethodAllowed X E 0 [(0, .ref a0), (1, .int x1), (2, .int x2), (3, .int x3)] [] S 0 0 (sp_X11_isMethodAllowed fu E S a0 x1 x2 x3) t) h
  unfold sp_X11_isMethodAllowed
  refine K_iload_n dX11_isMethodAllowed_0 rfl rfl ?_
  refine K_if_lt (tgt := 9) dX11_isMethodAllowed_1 (by decide) (fun c15 => ?_) (fun c15 => ?_)
  · refine K_iconst (v := 0) dX11_isMethodAllowed_9 (by decide) ?_
    exact K_zret dX11_isMethodAllowed_10 hQ rfl rfl (Nat.le_of_ble_eq_true rfl) (Nat.le_of_ble_eq_true rfl)
  · refine K_iload_n dX11_isMethodAllowed_4 rfl rfl ?_
    refine K_iconst (v := 2) dX11_isMethodAllowed_5 (by decide) ?_
    refine K_icmp_le (tgt := 11) dX11_isMethodAllowed_6 (by decide) (fun c14 => ?_) (fun c14 => ?_)
    · refine K_aload_n dX11_isMethodAllowed_11 rfl rfl ?_
      refine K_getC hE dX11_isMethodAllowed_12 f_X11_10_9 ha0 rfl rfl (fun h1 => ?_)
      refine K_iload_n dX11_isMethodAllowed_15 rfl rfl ?_
      refine K_bind (fun u2 hu2 => ?_)
      refine K_callVI (As := [.int x1]) (k_X10_isClass fu hE h1 hu2) dX11_isMethodAllowed_16 v_X11_76 h1 rfl rfl rfl rfl (Nat.le_of_ble_eq_true rfl) ⟨Nat.le_of_ble_eq_true rfl, Nat.le_of_ble_eq_true rfl, Nat.le_of_ble_eq_true rfl, Nat.le_of_ble_eq_true rfl⟩ ?_
      refine K_if_ne (tgt := 39) dX11_isMethodAllowed_19 (by decide) (fun c13 => ?_) (fun c13 => ?_)
      · refine K.keep [0, 2, 3] ?_
        exact kj_X11_isMethodAllowed_39 hQ hE fu ha0 x2 x3 u2.2
      · refine K_iload_n dX11_isMethodAllowed_22 rfl rfl ?_
        refine K_if_ne (tgt := 37) dX11_isMethodAllowed_23 (by decide) (fun c12 => ?_) (fun c12 => ?_)
        · refine K_iconst (v := 0) dX11_isMethodAllowed_37 (by decide) ?_
          exact K_zret dX11_isMethodAllowed_38 hQ rfl rfl (Nat.le_of_ble_eq_true rfl) (Nat.le_of_ble_eq_true rfl)
        · refine K_aload_n dX11_isMethodAllowed_26 rfl rfl ?_
          refine K_getC hE dX11_isMethodAllowed_27 f_X11_10_9 ha0 rfl rfl (fun h9 => ?_)
          refine K_iload_n dX11_isMethodAllowed_30 rfl rfl ?_
          refine K_bind (fun u10 hu10 => ?_)
          refine K_callVI (As := [.int x1]) (k_X10_isInterface fu hE h9 hu10) dX11_isMethodAllowed_31 v_X11_145 h9 rfl rfl rfl rfl (Nat.le_of_ble_eq_true rfl) ⟨Nat.le_of_ble_eq_true rfl, Nat.le_of_ble_eq_true rfl, Nat.le_of_ble_eq_true rfl, Nat.le_of_ble_eq_true rfl⟩ ?_
          refine K_if_ne (tgt := 39) dX11_isMethodAllowed_34 (by decide) (fun c11 => ?_) (fun c11 => ?_)
          · refine K.keep [0, 2, 3] ?_
            exact kj_X11_isMethodAllowed_39 hQ hE fu ha0 x2 x3 u10.2
          · refine K_iconst (v := 0) dX11_isMethodAllowed_37 (by decide) ?_
            exact K_zret dX11_isMethodAllowed_38 hQ rfl rfl (Nat.le_of_ble_eq_true rfl) (Nat.le_of_ble_eq_true rfl)
    · refine K_iconst (v := 0) dX11_isMethodAllowed_9 (by decide) ?_
      exact K_zret dX11_isMethodAllowed_10 hQ rfl rfl (Nat.le_of_ble_eq_true rfl) (Nat.le_of_ble_eq_true rfl)
def sp_X11_declareMethod (fu : Nat) (E : Ev) (S : St) (a0 : Nat) (x1 : Int32) (x2 : Int32) (x3 : Int32) : Option ((String ⊕ Int32) × St) :=
  (sp_X11_isMethodAllowed fu E S a0 x1 x2 x3).bind fun u1 =>
  if u1.1 = 0 then (
    (sp_X8_dropParameters fu E u1.2 (E.2 a0 1)).bind fun u9 =>
    some (.inl "java/lang/IllegalArgumentException", u9)
  ) else (
    if (u1.2.1 (E.2 a0 1) 9) < 30 then (
      (sp_X8_addMethod fu E u1.2 (E.2 a0 1) x1 x2 x3).bind fun u4 =>
      some ((.inr u4.1), u4.2)
    ) else (
      (sp_X8_dropParameters fu E u1.2 (E.2 a0 1)).bind fun u6 =>
      some (.inl "java/lang/IllegalStateException", u6)
    )
  )
set_option maxRecDepth 100000 in
theorem k_X11_declareMethod {l : Launch} (fu : Nat) {E : Ev} (hE : WE E) {a0 : Nat} (ha0 : E.1 a0 = some (0, 9, 0)) {x1 : Int32} {x2 : Int32} {x3 : Int32} {S : St} {t : ((String ⊕ Int32) × St)} (h : sp_X11_declareMethod fu E S a0 x1 x2 x3 = some t) : Ct l mX11_declareMethod [.ref a0, .int x1, .int x2, .int x3] (hp E S) (PoXI E t) (PxX E t) := by
  refine Ct.of (by decide) rfl (Nat.le_of_ble_eq_true rfl) (fun X _ _ hQ => ?_)
  refine (?_ : K mX11_declareMethod X E 0 [(0, .ref a0), (1, .int x1), (2, .int x2), (3, .int x3)] [] S 0 0 (sp_X11_declareMethod fu E S a0 x1 x2 x3) t) h
  unfold sp_X11_declareMethod
  refine K_aload_n dX11_declareMethod_0 rfl rfl ?_
  refine K_iload_n dX11_declareMethod_1 rfl rfl ?_
  refine K_iload_n dX11_declareMethod_2 rfl rfl ?_
  refine K_iload_n dX11_declareMethod_3 rfl rfl ?_
  refine K_bind (fun u1 hu1 => ?_)
  refine K_callVI (As := [.int x1, .int x2, .int x3]) (k_X11_isMethodAllowed fu hE ha0 hu1) dX11_declareMethod_4 v_X11_127 ha0 rfl rfl rfl rfl (Nat.le_of_ble_eq_true rfl) ⟨Nat.le_of_ble_eq_true rfl, Nat.le_of_ble_eq_true rfl, Nat.le_of_ble_eq_true rfl, Nat.le_of_ble_eq_true rfl⟩ ?_
  refine K_if_ne (tgt := 27) dX11_declareMethod_7 (by decide) (fun c10 => ?_) (fun c10 => ?_)
  · refine K_aload_n dX11_declareMethod_27 rfl rfl ?_
    refine K_getC hE dX11_declareMethod_28 f_X11_19_9 ha0 rfl rfl (fun h2 => ?_)
    refine K_getI dX11_declareMethod_31 f_X11_136_7 h2 rfl ?_
    refine K_bipush (v := 30) dX11_declareMethod_34 (by decide) ?_
    refine K_icmp_lt (tgt := 56) dX11_declareMethod_36 (by decide) (fun c7 => ?_) (fun c7 => ?_)
    · refine K_aload_n dX11_declareMethod_56 rfl rfl ?_
      refine K_getC hE dX11_declareMethod_57 f_X11_19_9 ha0 rfl rfl (fun h3 => ?_)
      refine K_iload_n dX11_declareMethod_60 rfl rfl ?_
      refine K_iload_n dX11_declareMethod_61 rfl rfl ?_
      refine K_iload_n dX11_declareMethod_62 rfl rfl ?_
      refine K_bind (fun u4 hu4 => ?_)
      refine K_callVI (As := [.int x1, .int x2, .int x3]) (k_X8_addMethod fu hE h3 hu4) dX11_declareMethod_63 v_X11_141 h3 rfl rfl rfl rfl (Nat.le_of_ble_eq_true rfl) ⟨Nat.le_of_ble_eq_true rfl, Nat.le_of_ble_eq_true rfl, Nat.le_of_ble_eq_true rfl, Nat.le_of_ble_eq_true rfl⟩ ?_
      exact K_xiret dX11_declareMethod_66 hQ rfl (Nat.le_of_ble_eq_true rfl) (Nat.le_of_ble_eq_true rfl)
    · refine K_aload_n dX11_declareMethod_39 rfl rfl ?_
      refine K_getC hE dX11_declareMethod_40 f_X11_19_9 ha0 rfl rfl (fun h5 => ?_)
      refine K_bind (fun u6 hu6 => ?_)
      refine K_callVV (As := []) (k_X8_dropParameters fu hE h5 hu6) dX11_declareMethod_43 v_X11_131 h5 rfl rfl rfl rfl (Nat.le_of_ble_eq_true rfl) ⟨Nat.le_of_ble_eq_true rfl, Nat.le_of_ble_eq_true rfl, Nat.le_of_ble_eq_true rfl, Nat.le_of_ble_eq_true rfl⟩ ?_
      exact K_throw t_X11_90_139 hQ rfl dX11_declareMethod_46 dX11_declareMethod_49 dX11_declareMethod_50 dX11_declareMethod_52 dX11_declareMethod_55 (Nat.le_of_ble_eq_true rfl) (Nat.le_of_ble_eq_true rfl) (Nat.le_of_ble_eq_true rfl) (Nat.le_of_ble_eq_true rfl)
  · refine K_aload_n dX11_declareMethod_10 rfl rfl ?_
    refine K_getC hE dX11_declareMethod_11 f_X11_19_9 ha0 rfl rfl (fun h8 => ?_)
    refine K_bind (fun u9 hu9 => ?_)
    refine K_callVV (As := []) (k_X8_dropParameters fu hE h8 hu9) dX11_declareMethod_14 v_X11_131 h8 rfl rfl rfl rfl (Nat.le_of_ble_eq_true rfl) ⟨Nat.le_of_ble_eq_true rfl, Nat.le_of_ble_eq_true rfl, Nat.le_of_ble_eq_true rfl, Nat.le_of_ble_eq_true rfl⟩ ?_
    exact K_throw t_X11_80_134 hQ rfl dX11_declareMethod_17 dX11_declareMethod_20 dX11_declareMethod_21 dX11_declareMethod_23 dX11_declareMethod_26 (Nat.le_of_ble_eq_true rfl) (Nat.le_of_ble_eq_true rfl) (Nat.le_of_ble_eq_true rfl) (Nat.le_of_ble_eq_true rfl)
def sp_X11_begin (fu : Nat) (E : Ev) (S : St) (a0 : Nat) (x1 : Int32) (x2 : Int32) (x3 : Int32) : Option ((String ⊕ Int32) × St) :=
  (sp_X8_isMethod fu E S (E.2 a0 1) x1).bind fun u2 =>
  if u2.1 = 0 then (
    some (.inl "java/lang/IndexOutOfBoundsException", u2.2)
  ) else (
    if x2 < 0 then (
      some (.inl "java/lang/IllegalArgumentException", u2.2)
    ) else (
      if 12 < x2 then (
        some (.inl "java/lang/IllegalArgumentException", u2.2)
      ) else (
        if x3 < 0 then (
          some (.inl "java/lang/IllegalArgumentException", u2.2)
        ) else (
          if 12 < x3 then (
            some (.inl "java/lang/IllegalArgumentException", u2.2)
          ) else (
            if inb x1 30 = true then
              (
              (sp_X10_isInterface fu E u2.2 (E.2 a0 0) (u2.2.2.1 (E.2 (E.2 a0 1) 3) x1.toNatClampNeg)).bind fun u7 =>
              if u7.1 = 0 then (
                (sp_X1_start fu E u7.2 (E.2 a0 2) x1 x2 x3).bind fun u9 =>
                (sp_X4_clear fu E u9 (E.2 a0 5)).bind fun u11 =>
                (sp_X4_clear fu E u11 (E.2 a0 6)).bind fun u13 =>
                (sp_X8_slotsNeeded fu E u13 (E.2 a0 1) x1).bind fun u15 =>
                some ((.inr u15.1), u15.2)
              ) else (
                some (.inl "java/lang/IllegalArgumentException", u7.2)
              )
              )
            else none
          )
        )
      )
    )
  )
set_option maxRecDepth 100000 in
theorem k_X11_begin {l : Launch} (fu : Nat) {E : Ev} (hE : WE E) {a0 : Nat} (ha0 : E.1 a0 = some (0, 9, 0)) {x1 : Int32} {x2 : Int32} {x3 : Int32} {S : St} {t : ((String ⊕ Int32) × St)} (h : sp_X11_begin fu E S a0 x1 x2 x3 = some t) : Ct l mX11_begin [.ref a0, .int x1, .int x2, .int x3] (hp E S) (PoXI E t) (PxX E t) := by
  refine Ct.of (by decide) rfl (Nat.le_of_ble_eq_true rfl) (fun X _ _ hQ => ?_)
  refine (?_ : K mX11_begin X E 0 [(0, .ref a0), (1, .int x1), (2, .int x2), (3, .int x3)] [] S 0 0 (sp_X11_begin fu E S a0 x1 x2 x3) t) h
  unfold sp_X11_begin
  refine K_aload_n dX11_begin_0 rfl rfl ?_
  refine K_getC hE dX11_begin_1 f_X11_19_9 ha0 rfl rfl (fun h1 => ?_)
  refine K_iload_n dX11_begin_4 rfl rfl ?_
  refine K_bind (fun u2 hu2 => ?_)
  refine K_callVI (As := [.int x1]) (k_X8_isMethod fu hE h1 hu2) dX11_begin_5 v_X11_164 h1 rfl rfl rfl rfl (Nat.le_of_ble_eq_true rfl) ⟨Nat.le_of_ble_eq_true rfl, Nat.le_of_ble_eq_true rfl, Nat.le_of_ble_eq_true rfl, Nat.le_of_ble_eq_true rfl⟩ ?_
  refine K_if_ne (tgt := 21) dX11_begin_8 (by decide) (fun c21 => ?_) (fun c21 => ?_)
  · refine K_iload_n dX11_begin_21 rfl rfl ?_
    refine K_if_lt (tgt := 60) dX11_begin_22 (by decide) (fun c20 => ?_) (fun c20 => ?_)
    · exact K_throw t_X11_80_176 hQ rfl dX11_begin_60 dX11_begin_63 dX11_begin_64 dX11_begin_66 dX11_begin_69 (Nat.le_of_ble_eq_true rfl) (Nat.le_of_ble_eq_true rfl) (Nat.le_of_ble_eq_true rfl) (Nat.le_of_ble_eq_true rfl)
    · refine K_iload_n dX11_begin_25 rfl rfl ?_
      refine K_bipush (v := 12) dX11_begin_26 (by decide) ?_
      refine K_icmp_gt (tgt := 60) dX11_begin_28 (by decide) (fun c19 => ?_) (fun c19 => ?_)
      · exact K_throw t_X11_80_176 hQ rfl dX11_begin_60 dX11_begin_63 dX11_begin_64 dX11_begin_66 dX11_begin_69 (Nat.le_of_ble_eq_true rfl) (Nat.le_of_ble_eq_true rfl) (Nat.le_of_ble_eq_true rfl) (Nat.le_of_ble_eq_true rfl)
      · refine K_iload_n dX11_begin_31 rfl rfl ?_
        refine K_if_lt (tgt := 60) dX11_begin_32 (by decide) (fun c18 => ?_) (fun c18 => ?_)
        · exact K_throw t_X11_80_176 hQ rfl dX11_begin_60 dX11_begin_63 dX11_begin_64 dX11_begin_66 dX11_begin_69 (Nat.le_of_ble_eq_true rfl) (Nat.le_of_ble_eq_true rfl) (Nat.le_of_ble_eq_true rfl) (Nat.le_of_ble_eq_true rfl)
        · refine K_iload_n dX11_begin_35 rfl rfl ?_
          refine K_bipush (v := 12) dX11_begin_36 (by decide) ?_
          refine K_icmp_gt (tgt := 60) dX11_begin_38 (by decide) (fun c17 => ?_) (fun c17 => ?_)
          · exact K_throw t_X11_80_176 hQ rfl dX11_begin_60 dX11_begin_63 dX11_begin_64 dX11_begin_66 dX11_begin_69 (Nat.le_of_ble_eq_true rfl) (Nat.le_of_ble_eq_true rfl) (Nat.le_of_ble_eq_true rfl) (Nat.le_of_ble_eq_true rfl)
          · refine K_aload_n dX11_begin_41 rfl rfl ?_
            refine K_getC hE dX11_begin_42 f_X11_10_9 ha0 rfl rfl (fun h3 => ?_)
            refine K_aload_n dX11_begin_45 rfl rfl ?_
            refine K_getC hE dX11_begin_46 f_X11_19_9 ha0 rfl rfl (fun h4 => ?_)
            refine K_getC hE dX11_begin_49 f_X11_172_7 h4 rfl rfl (fun h5 => ?_)
            refine K_iload_n dX11_begin_52 rfl rfl ?_
            refine K_chk (fun h6 => ?_)
            refine K_iald dX11_begin_53 h5 h6 ?_
            refine K_bind (fun u7 hu7 => ?_)
            refine K_callVI (As := [.int (u2.2.2.1 (E.2 (E.2 a0 1) 3) x1.toNatClampNeg)]) (k_X10_isInterface fu hE h3 hu7) dX11_begin_54 v_X11_145 h3 rfl rfl rfl rfl (Nat.le_of_ble_eq_true rfl) ⟨Nat.le_of_ble_eq_true rfl, Nat.le_of_ble_eq_true rfl, Nat.le_of_ble_eq_true rfl, Nat.le_of_ble_eq_true rfl⟩ ?_
            refine K_if_eq (tgt := 70) dX11_begin_57 (by decide) (fun c16 => ?_) (fun c16 => ?_)
            · refine K_aload_n dX11_begin_70 rfl rfl ?_
              refine K_getC hE dX11_begin_71 f_X11_26_9 ha0 rfl rfl (fun h8 => ?_)
              refine K_iload_n dX11_begin_74 rfl rfl ?_
              refine K_iload_n dX11_begin_75 rfl rfl ?_
              refine K_iload_n dX11_begin_76 rfl rfl ?_
              refine K_bind (fun u9 hu9 => ?_)
              refine K_callVV (As := [.int x1, .int x2, .int x3]) (k_X1_start fu hE h8 hu9) dX11_begin_77 v_X11_178 h8 rfl rfl rfl rfl (Nat.le_of_ble_eq_true rfl) ⟨Nat.le_of_ble_eq_true rfl, Nat.le_of_ble_eq_true rfl, Nat.le_of_ble_eq_true rfl, Nat.le_of_ble_eq_true rfl⟩ ?_
              refine K_aload_n dX11_begin_80 rfl rfl ?_
              refine K_getC hE dX11_begin_81 f_X11_47_9 ha0 rfl rfl (fun h10 => ?_)
              refine K_bind (fun u11 hu11 => ?_)
              refine K_callVV (As := []) (k_X4_clear fu hE h10 hu11) dX11_begin_84 v_X11_182 h10 rfl rfl rfl rfl (Nat.le_of_ble_eq_true rfl) ⟨Nat.le_of_ble_eq_true rfl, Nat.le_of_ble_eq_true rfl, Nat.le_of_ble_eq_true rfl, Nat.le_of_ble_eq_true rfl⟩ ?_
              refine K_aload_n dX11_begin_87 rfl rfl ?_
              refine K_getC hE dX11_begin_88 f_X11_51_9 ha0 rfl rfl (fun h12 => ?_)
              refine K_bind (fun u13 hu13 => ?_)
              refine K_callVV (As := []) (k_X4_clear fu hE h12 hu13) dX11_begin_91 v_X11_182 h12 rfl rfl rfl rfl (Nat.le_of_ble_eq_true rfl) ⟨Nat.le_of_ble_eq_true rfl, Nat.le_of_ble_eq_true rfl, Nat.le_of_ble_eq_true rfl, Nat.le_of_ble_eq_true rfl⟩ ?_
              refine K_aload_n dX11_begin_94 rfl rfl ?_
              refine K_getC hE dX11_begin_95 f_X11_19_9 ha0 rfl rfl (fun h14 => ?_)
              refine K_iload_n dX11_begin_98 rfl rfl ?_
              refine K_bind (fun u15 hu15 => ?_)
              refine K_callVI (As := [.int x1]) (k_X8_slotsNeeded fu hE h14 hu15) dX11_begin_99 v_X11_183 h14 rfl rfl rfl rfl (Nat.le_of_ble_eq_true rfl) ⟨Nat.le_of_ble_eq_true rfl, Nat.le_of_ble_eq_true rfl, Nat.le_of_ble_eq_true rfl, Nat.le_of_ble_eq_true rfl⟩ ?_
              exact K_xiret dX11_begin_102 hQ rfl (Nat.le_of_ble_eq_true rfl) (Nat.le_of_ble_eq_true rfl)
            · exact K_throw t_X11_80_176 hQ rfl dX11_begin_60 dX11_begin_63 dX11_begin_64 dX11_begin_66 dX11_begin_69 (Nat.le_of_ble_eq_true rfl) (Nat.le_of_ble_eq_true rfl) (Nat.le_of_ble_eq_true rfl) (Nat.le_of_ble_eq_true rfl)
  · exact K_throw t_X11_167_169 hQ rfl dX11_begin_11 dX11_begin_14 dX11_begin_15 dX11_begin_17 dX11_begin_20 (Nat.le_of_ble_eq_true rfl) (Nat.le_of_ble_eq_true rfl) (Nat.le_of_ble_eq_true rfl) (Nat.le_of_ble_eq_true rfl)
def sp_X11_emit (fu : Nat) (E : Ev) (S : St) (a0 : Nat) (x1 : Int32) (x2 : Int32) : Option ((String ⊕ Int32) × St) :=
  if x1 < 0 then (
    some (.inl "java/lang/IllegalArgumentException", S)
  ) else (
    if x1 ≤ 45 then (
      if (S.1 (E.2 a0 2) 0) = 0 then (
        some (.inl "java/lang/IllegalStateException", S)
      ) else (
        if (S.1 (E.2 a0 2) 6) < 100 then (
          (sp_X4_clear fu E S (E.2 a0 5)).bind fun u4 =>
          (sp_X1_addInstruction fu E u4 (E.2 a0 2) x1 x2).bind fun u6 =>
          some ((.inr u6.1), u6.2)
        ) else (
          some (.inl "java/lang/IllegalStateException", S)
        )
      )
    ) else (
      some (.inl "java/lang/IllegalArgumentException", S)
    )
  )
set_option maxRecDepth 100000 in
theorem k_X11_emit {l : Launch} (fu : Nat) {E : Ev} (hE : WE E) {a0 : Nat} (ha0 : E.1 a0 = some (0, 9, 0)) {x1 : Int32} {x2 : Int32} {S : St} {t : ((String ⊕ Int32) × St)} (h : sp_X11_emit fu E S a0 x1 x2 = some t) : Ct l mX11_emit [.ref a0, .int x1, .int x2] (hp E S) (PoXI E t) (PxX E t) := by
  refine Ct.of (by decide) rfl (Nat.le_of_ble_eq_true rfl) (fun X _ _ hQ => ?_)
  refine (?_ : K mX11_emit X E 0 [(0, .ref a0), (1, .int x1), (2, .int x2)] [] S 0 0 (sp_X11_emit fu E S a0 x1 x2) t) h
  unfold sp_X11_emit
  refine K_iload_n dX11_emit_0 rfl rfl ?_
  refine K_if_lt (tgt := 10) dX11_emit_1 (by decide) (fun c10 => ?_) (fun c10 => ?_)
  · exact K_throw t_X11_80_188 hQ rfl dX11_emit_10 dX11_emit_13 dX11_emit_14 dX11_emit_16 dX11_emit_19 (Nat.le_of_ble_eq_true rfl) (Nat.le_of_ble_eq_true rfl) (Nat.le_of_ble_eq_true rfl) (Nat.le_of_ble_eq_true rfl)
  · refine K_iload_n dX11_emit_4 rfl rfl ?_
    refine K_bipush (v := 45) dX11_emit_5 (by decide) ?_
    refine K_icmp_le (tgt := 20) dX11_emit_7 (by decide) (fun c9 => ?_) (fun c9 => ?_)
    · refine K_aload_n dX11_emit_20 rfl rfl ?_
      refine K_getC hE dX11_emit_21 f_X11_26_9 ha0 rfl rfl (fun h1 => ?_)
      refine K_getI dX11_emit_24 f_X11_190_0 h1 rfl ?_
      refine K_if_eq (tgt := 42) dX11_emit_27 (by decide) (fun c8 => ?_) (fun c8 => ?_)
      · exact K_throw t_X11_90_195 hQ rfl dX11_emit_42 dX11_emit_45 dX11_emit_46 dX11_emit_48 dX11_emit_51 (Nat.le_of_ble_eq_true rfl) (Nat.le_of_ble_eq_true rfl) (Nat.le_of_ble_eq_true rfl) (Nat.le_of_ble_eq_true rfl)
      · refine K_aload_n dX11_emit_30 rfl rfl ?_
        refine K_getC hE dX11_emit_31 f_X11_26_9 ha0 rfl rfl (fun h2 => ?_)
        refine K_getI dX11_emit_34 f_X11_194_0 h2 rfl ?_
        refine K_bipush (v := 100) dX11_emit_37 (by decide) ?_
        refine K_icmp_lt (tgt := 52) dX11_emit_39 (by decide) (fun c7 => ?_) (fun c7 => ?_)
        · refine K_aload_n dX11_emit_52 rfl rfl ?_
          refine K_getC hE dX11_emit_53 f_X11_47_9 ha0 rfl rfl (fun h3 => ?_)
          refine K_bind (fun u4 hu4 => ?_)
          refine K_callVV (As := []) (k_X4_clear fu hE h3 hu4) dX11_emit_56 v_X11_182 h3 rfl rfl rfl rfl (Nat.le_of_ble_eq_true rfl) ⟨Nat.le_of_ble_eq_true rfl, Nat.le_of_ble_eq_true rfl, Nat.le_of_ble_eq_true rfl, Nat.le_of_ble_eq_true rfl⟩ ?_
          refine K_aload_n dX11_emit_59 rfl rfl ?_
          refine K_getC hE dX11_emit_60 f_X11_26_9 ha0 rfl rfl (fun h5 => ?_)
          refine K_iload_n dX11_emit_63 rfl rfl ?_
          refine K_iload_n dX11_emit_64 rfl rfl ?_
          refine K_bind (fun u6 hu6 => ?_)
          refine K_callVI (As := [.int x1, .int x2]) (k_X1_addInstruction fu hE h5 hu6) dX11_emit_65 v_X11_197 h5 rfl rfl rfl rfl (Nat.le_of_ble_eq_true rfl) ⟨Nat.le_of_ble_eq_true rfl, Nat.le_of_ble_eq_true rfl, Nat.le_of_ble_eq_true rfl, Nat.le_of_ble_eq_true rfl⟩ ?_
          exact K_xiret dX11_emit_68 hQ rfl (Nat.le_of_ble_eq_true rfl) (Nat.le_of_ble_eq_true rfl)
        · exact K_throw t_X11_90_195 hQ rfl dX11_emit_42 dX11_emit_45 dX11_emit_46 dX11_emit_48 dX11_emit_51 (Nat.le_of_ble_eq_true rfl) (Nat.le_of_ble_eq_true rfl) (Nat.le_of_ble_eq_true rfl) (Nat.le_of_ble_eq_true rfl)
    · exact K_throw t_X11_80_188 hQ rfl dX11_emit_10 dX11_emit_13 dX11_emit_14 dX11_emit_16 dX11_emit_19 (Nat.le_of_ble_eq_true rfl) (Nat.le_of_ble_eq_true rfl) (Nat.le_of_ble_eq_true rfl) (Nat.le_of_ble_eq_true rfl)
def sp_X11_addHandler (fu : Nat) (E : Ev) (S : St) (a0 : Nat) (x1 : Int32) (x2 : Int32) (x3 : Int32) (x4 : Int32) : Option ((String ⊕ Int32) × St) :=
  (sp_X10_isClass fu E S (E.2 a0 0) x4).bind fun u2 =>
  if u2.1 = 0 then (
    some (.inl "java/lang/IllegalArgumentException", u2.2)
  ) else (
    if (u2.2.1 (E.2 a0 2) 0) = 0 then (
      some (.inl "java/lang/IllegalStateException", u2.2)
    ) else (
      if (u2.2.1 (E.2 a0 2) 11) < 10 then (
        (sp_X4_clear fu E u2.2 (E.2 a0 5)).bind fun u6 =>
        (sp_X1_addProtection fu E u6 (E.2 a0 2) x1 x2 x3 x4).bind fun u8 =>
        some ((.inr u8.1), u8.2)
      ) else (
        some (.inl "java/lang/IllegalStateException", u2.2)
      )
    )
  )
set_option maxRecDepth 100000 in
theorem k_X11_addHandler {l : Launch} (fu : Nat) {E : Ev} (hE : WE E) {a0 : Nat} (ha0 : E.1 a0 = some (0, 9, 0)) {x1 : Int32} {x2 : Int32} {x3 : Int32} {x4 : Int32} {S : St} {t : ((String ⊕ Int32) × St)} (h : sp_X11_addHandler fu E S a0 x1 x2 x3 x4 = some t) : Ct l mX11_addHandler [.ref a0, .int x1, .int x2, .int x3, .int x4] (hp E S) (PoXI E t) (PxX E t) := by
  refine Ct.of (by decide) rfl (Nat.le_of_ble_eq_true rfl) (fun X _ _ hQ => ?_)
  refine (?_ : K mX11_addHandler X E 0 [(0, .ref a0), (1, .int x1), (2, .int x2), (3, .int x3), (4, .int x4)] [] S 0 0 (sp_X11_addHandler fu E S a0 x1 x2 x3 x4) t) h
  unfold sp_X11_addHandler
  refine K_aload_n dX11_addHandler_0 rfl rfl ?_
  refine K_getC hE dX11_addHandler_1 f_X11_10_9 ha0 rfl rfl (fun h1 => ?_)
  refine K_iload dX11_addHandler_4 rfl ?_
  refine K_bind (fun u2 hu2 => ?_)
  refine K_callVI (As := [.int x4]) (k_X10_isClass fu hE h1 hu2) dX11_addHandler_6 v_X11_76 h1 rfl rfl rfl rfl (Nat.le_of_ble_eq_true rfl) ⟨Nat.le_of_ble_eq_true rfl, Nat.le_of_ble_eq_true rfl, Nat.le_of_ble_eq_true rfl, Nat.le_of_ble_eq_true rfl⟩ ?_
  refine K_if_ne (tgt := 22) dX11_addHandler_9 (by decide) (fun c11 => ?_) (fun c11 => ?_)
  · refine K_aload_n dX11_addHandler_22 rfl rfl ?_
    refine K_getC hE dX11_addHandler_23 f_X11_26_9 ha0 rfl rfl (fun h3 => ?_)
    refine K_getI dX11_addHandler_26 f_X11_190_0 h3 rfl ?_
    refine K_if_eq (tgt := 44) dX11_addHandler_29 (by decide) (fun c10 => ?_) (fun c10 => ?_)
    · exact K_throw t_X11_90_205 hQ rfl dX11_addHandler_44 dX11_addHandler_47 dX11_addHandler_48 dX11_addHandler_50 dX11_addHandler_53 (Nat.le_of_ble_eq_true rfl) (Nat.le_of_ble_eq_true rfl) (Nat.le_of_ble_eq_true rfl) (Nat.le_of_ble_eq_true rfl)
    · refine K_aload_n dX11_addHandler_32 rfl rfl ?_
      refine K_getC hE dX11_addHandler_33 f_X11_26_9 ha0 rfl rfl (fun h4 => ?_)
      refine K_getI dX11_addHandler_36 f_X11_202_0 h4 rfl ?_
      refine K_bipush (v := 10) dX11_addHandler_39 (by decide) ?_
      refine K_icmp_lt (tgt := 54) dX11_addHandler_41 (by decide) (fun c9 => ?_) (fun c9 => ?_)
      · refine K_aload_n dX11_addHandler_54 rfl rfl ?_
        refine K_getC hE dX11_addHandler_55 f_X11_47_9 ha0 rfl rfl (fun h5 => ?_)
        refine K_bind (fun u6 hu6 => ?_)
        refine K_callVV (As := []) (k_X4_clear fu hE h5 hu6) dX11_addHandler_58 v_X11_182 h5 rfl rfl rfl rfl (Nat.le_of_ble_eq_true rfl) ⟨Nat.le_of_ble_eq_true rfl, Nat.le_of_ble_eq_true rfl, Nat.le_of_ble_eq_true rfl, Nat.le_of_ble_eq_true rfl⟩ ?_
        refine K_aload_n dX11_addHandler_61 rfl rfl ?_
        refine K_getC hE dX11_addHandler_62 f_X11_26_9 ha0 rfl rfl (fun h7 => ?_)
        refine K_iload_n dX11_addHandler_65 rfl rfl ?_
        refine K_iload_n dX11_addHandler_66 rfl rfl ?_
        refine K_iload_n dX11_addHandler_67 rfl rfl ?_
        refine K_iload dX11_addHandler_68 rfl ?_
        refine K_bind (fun u8 hu8 => ?_)
        refine K_callVI (As := [.int x1, .int x2, .int x3, .int x4]) (k_X1_addProtection fu hE h7 hu8) dX11_addHandler_70 v_X11_207 h7 rfl rfl rfl rfl (Nat.le_of_ble_eq_true rfl) ⟨Nat.le_of_ble_eq_true rfl, Nat.le_of_ble_eq_true rfl, Nat.le_of_ble_eq_true rfl, Nat.le_of_ble_eq_true rfl⟩ ?_
        exact K_xiret dX11_addHandler_73 hQ rfl (Nat.le_of_ble_eq_true rfl) (Nat.le_of_ble_eq_true rfl)
      · exact K_throw t_X11_90_205 hQ rfl dX11_addHandler_44 dX11_addHandler_47 dX11_addHandler_48 dX11_addHandler_50 dX11_addHandler_53 (Nat.le_of_ble_eq_true rfl) (Nat.le_of_ble_eq_true rfl) (Nat.le_of_ble_eq_true rfl) (Nat.le_of_ble_eq_true rfl)
  · exact K_throw t_X11_80_200 hQ rfl dX11_addHandler_12 dX11_addHandler_15 dX11_addHandler_16 dX11_addHandler_18 dX11_addHandler_21 (Nat.le_of_ble_eq_true rfl) (Nat.le_of_ble_eq_true rfl) (Nat.le_of_ble_eq_true rfl) (Nat.le_of_ble_eq_true rfl)
def sp_X11_adoptAt (fu : Nat) (E : Ev) (S : St) (a0 : Nat) (x1 : Int32) : Option St :=
  (sp_X4_contains fu E S (E.2 a0 5) x1).bind fun u2 =>
  if u2.1 = 0 then (
    some u2.2
  ) else (
    if inb x1 100 = true then
      (
      (sp_X4_put fu E u2.2 (E.2 a0 6) x1 (E.2 (E.2 (E.2 a0 5) 0) x1.toNatClampNeg)).bind fun u8 =>
      some u8
      )
    else none
  )
set_option maxRecDepth 100000 in
theorem k_X11_adoptAt {l : Launch} (fu : Nat) {E : Ev} (hE : WE E) {a0 : Nat} (ha0 : E.1 a0 = some (0, 9, 0)) {x1 : Int32} {S : St} {t : St} (h : sp_X11_adoptAt fu E S a0 x1 = some t) : Cn l mX11_adoptAt [.ref a0, .int x1] (hp E S) (PoV E t) := by
  refine Cn.of (by decide) rfl (Nat.le_of_ble_eq_true rfl) (fun X _ _ hQ => ?_)
  refine (?_ : K mX11_adoptAt X E 0 [(0, .ref a0), (1, .int x1)] [] S 0 0 (sp_X11_adoptAt fu E S a0 x1) t) h
  unfold sp_X11_adoptAt
  refine K_aload_n dX11_adoptAt_0 rfl rfl ?_
  refine K_getC hE dX11_adoptAt_1 f_X11_47_9 ha0 rfl rfl (fun h1 => ?_)
  refine K_iload_n dX11_adoptAt_4 rfl rfl ?_
  refine K_bind (fun u2 hu2 => ?_)
  refine K_callVI (As := [.int x1]) (k_X4_contains fu hE h1 hu2) dX11_adoptAt_5 v_X11_260 h1 rfl rfl rfl rfl (Nat.le_of_ble_eq_true rfl) ⟨Nat.le_of_ble_eq_true rfl, Nat.le_of_ble_eq_true rfl, Nat.le_of_ble_eq_true rfl, Nat.le_of_ble_eq_true rfl⟩ ?_
  refine K_if_eq (tgt := 28) dX11_adoptAt_8 (by decide) (fun c9 => ?_) (fun c9 => ?_)
  · exact K_vret dX11_adoptAt_28 hQ rfl (Nat.le_of_ble_eq_true rfl) (Nat.le_of_ble_eq_true rfl)
  · refine K_aload_n dX11_adoptAt_11 rfl rfl ?_
    refine K_getC hE dX11_adoptAt_12 f_X11_51_9 ha0 rfl rfl (fun h3 => ?_)
    refine K_iload_n dX11_adoptAt_15 rfl rfl ?_
    refine K_aload_n dX11_adoptAt_16 rfl rfl ?_
    refine K_getC hE dX11_adoptAt_17 f_X11_47_9 ha0 rfl rfl (fun h4 => ?_)
    refine K_getC hE dX11_adoptAt_20 f_X11_285_3 h4 rfl rfl (fun h5 => ?_)
    refine K_iload_n dX11_adoptAt_23 rfl rfl ?_
    refine K_chk (fun h6 => ?_)
    refine K_qald hE dX11_adoptAt_24 h5 h6 (fun h7 => ?_)
    refine K_bind (fun u8 hu8 => ?_)
    refine K_callVV (As := [.int x1, .ref (E.2 (E.2 (E.2 a0 5) 0) x1.toNatClampNeg)]) (k_X4_put fu hE h3 h7 hu8) dX11_adoptAt_25 v_X11_244 h3 rfl rfl rfl rfl (Nat.le_of_ble_eq_true rfl) ⟨Nat.le_of_ble_eq_true rfl, Nat.le_of_ble_eq_true rfl, Nat.le_of_ble_eq_true rfl, Nat.le_of_ble_eq_true rfl⟩ ?_
    exact K_vret dX11_adoptAt_28 hQ rfl (Nat.le_of_ble_eq_true rfl) (Nat.le_of_ble_eq_true rfl)
def bd_X11_adoptAtHandlers_15 (fu : Nat) (E : Ev) (a0 : Nat) (rc2 : Int32 → St → Option St) (rc15 : Int32 → Int32 → St → Option St) (x1 : Int32) (x2 : Int32) (S : St) : Option St :=
  if (S.1 (E.2 a0 2) 6) ≤ x2 then (
    rc2 (x1 + 1) S
  ) else (
    (sp_X1_protects fu E S (E.2 a0 2) x1 x2).bind fun u4 =>
    if u4.1 = 0 then (
      rc15 x1 (x2 + 1) u4.2
    ) else (
      (sp_X4_contains fu E u4.2 (E.2 a0 5) x2).bind fun u6 =>
      if u6.1 = 0 then (
        rc15 x1 (x2 + 1) u6.2
      ) else (
        if inb x1 10 = true then
          (
          (sp_X11_adoptAt fu E u6.2 a0 (u6.2.2.1 (E.2 (E.2 a0 2) 9) x1.toNatClampNeg)).bind fun u10 =>
          rc15 x1 (x2 + 1) u10
          )
        else none
      )
    )
  )
def lp_X11_adoptAtHandlers_15 (fu : Nat) (E : Ev) (a0 : Nat) (rc2 : Int32 → St → Option St) : Nat → Int32 → Int32 → St → Option St
  | 0, _, _, _ => none
  | f + 1, x1, x2, S => bd_X11_adoptAtHandlers_15 fu E a0 rc2 (lp_X11_adoptAtHandlers_15 fu E a0 rc2 f) x1 x2 S
set_option maxRecDepth 100000 in
theorem kl_X11_adoptAtHandlers_15 {X : Cx} {E : Ev} {t : St} {a0 : Nat} {rc2 : Int32 → St → Option St} (hQ : EndR mX11_adoptAtHandlers X (PoV E t)) (hE : WE E) (fu : Nat) (ha0 : E.1 a0 = some (0, 9, 0)) (hrc2 : ∀ (x1 : Int32) (S : St), K mX11_adoptAtHandlers X E 2 [(0, .ref a0), (1, .int x1)] [] S 0 0 (rc2 x1 S) t) : ∀ (f : Nat) (x1 : Int32) (x2 : Int32) (S : St), K mX11_adoptAtHandlers X E 15 [(0, .ref a0), (1, .int x1), (2, .int x2)] [] S 0 0 (lp_X11_adoptAtHandlers_15 fu E a0 rc2 f x1 x2 S) t := by
  intro f
  induction f with
  | zero => intro x1 x2 S; exact K_none
  | succ f hrc15 =>
    intro x1 x2 S
    show K _ _ _ _ _ _ _ _ _ (bd_X11_adoptAtHandlers_15 fu E a0 rc2 (lp_X11_adoptAtHandlers_15 fu E a0 rc2 f) x1 x2 S) t
    unfold bd_X11_adoptAtHandlers_15
    refine K_iload_n dX11_adoptAtHandlers_15 rfl rfl ?_
    refine K_aload_n dX11_adoptAtHandlers_16 rfl rfl ?_
    refine K_getC hE dX11_adoptAtHandlers_17 f_X11_26_9 ha0 rfl rfl (fun h2 => ?_)
    refine K_getI dX11_adoptAtHandlers_20 f_X11_194_0 h2 rfl ?_
    refine K_icmp_ge (tgt := 68) dX11_adoptAtHandlers_23 (by decide) (fun c13 => ?_) (fun c13 => ?_)
    · refine K_iinc (v := (x1 + 1)) (ls' := [(0, _), (1, _), (2, _)]) dX11_adoptAtHandlers_68 rfl rfl (by decide) rfl ?_
      refine K_goto (tgt := 2) dX11_adoptAtHandlers_71 (by decide) ?_
      refine K.keep [0, 1] ?_
      exact hrc2 (x1 + 1) S
    · refine K_aload_n dX11_adoptAtHandlers_26 rfl rfl ?_
      refine K_getC hE dX11_adoptAtHandlers_27 f_X11_26_9 ha0 rfl rfl (fun h3 => ?_)
      refine K_iload_n dX11_adoptAtHandlers_30 rfl rfl ?_
      refine K_iload_n dX11_adoptAtHandlers_31 rfl rfl ?_
      refine K_bind (fun u4 hu4 => ?_)
      refine K_callVI (As := [.int x1, .int x2]) (k_X1_protects fu hE h3 hu4) dX11_adoptAtHandlers_32 v_X11_276 h3 rfl rfl rfl rfl (Nat.le_of_ble_eq_true rfl) ⟨Nat.le_of_ble_eq_true rfl, Nat.le_of_ble_eq_true rfl, Nat.le_of_ble_eq_true rfl, Nat.le_of_ble_eq_true rfl⟩ ?_
      refine K_if_eq (tgt := 62) dX11_adoptAtHandlers_35 (by decide) (fun c12 => ?_) (fun c12 => ?_)
      · refine K_iinc (v := (x2 + 1)) (ls' := [(0, _), (1, _), (2, _)]) dX11_adoptAtHandlers_62 rfl rfl (by decide) rfl ?_
        refine K_goto (tgt := 15) dX11_adoptAtHandlers_65 (by decide) ?_
        refine K.keep [0, 1, 2] ?_
        exact hrc15 x1 (x2 + 1) u4.2
      · refine K_aload_n dX11_adoptAtHandlers_38 rfl rfl ?_
        refine K_getC hE dX11_adoptAtHandlers_39 f_X11_47_9 ha0 rfl rfl (fun h5 => ?_)
        refine K_iload_n dX11_adoptAtHandlers_42 rfl rfl ?_
        refine K_bind (fun u6 hu6 => ?_)
        refine K_callVI (As := [.int x2]) (k_X4_contains fu hE h5 hu6) dX11_adoptAtHandlers_43 v_X11_260 h5 rfl rfl rfl rfl (Nat.le_of_ble_eq_true rfl) ⟨Nat.le_of_ble_eq_true rfl, Nat.le_of_ble_eq_true rfl, Nat.le_of_ble_eq_true rfl, Nat.le_of_ble_eq_true rfl⟩ ?_
        refine K_if_eq (tgt := 62) dX11_adoptAtHandlers_46 (by decide) (fun c11 => ?_) (fun c11 => ?_)
        · refine K_iinc (v := (x2 + 1)) (ls' := [(0, _), (1, _), (2, _)]) dX11_adoptAtHandlers_62 rfl rfl (by decide) rfl ?_
          refine K_goto (tgt := 15) dX11_adoptAtHandlers_65 (by decide) ?_
          refine K.keep [0, 1, 2] ?_
          exact hrc15 x1 (x2 + 1) u6.2
        · refine K_aload_n dX11_adoptAtHandlers_49 rfl rfl ?_
          refine K_aload_n dX11_adoptAtHandlers_50 rfl rfl ?_
          refine K_getC hE dX11_adoptAtHandlers_51 f_X11_26_9 ha0 rfl rfl (fun h7 => ?_)
          refine K_getC hE dX11_adoptAtHandlers_54 f_X11_279_0 h7 rfl rfl (fun h8 => ?_)
          refine K_iload_n dX11_adoptAtHandlers_57 rfl rfl ?_
          refine K_chk (fun h9 => ?_)
          refine K_iald dX11_adoptAtHandlers_58 h8 h9 ?_
          refine K_bind (fun u10 hu10 => ?_)
          refine K_callVV (As := [.int (u6.2.2.1 (E.2 (E.2 a0 2) 9) x1.toNatClampNeg)]) (k_X11_adoptAt fu hE ha0 hu10) dX11_adoptAtHandlers_59 v_X11_272 ha0 rfl rfl rfl rfl (Nat.le_of_ble_eq_true rfl) ⟨Nat.le_of_ble_eq_true rfl, Nat.le_of_ble_eq_true rfl, Nat.le_of_ble_eq_true rfl, Nat.le_of_ble_eq_true rfl⟩ ?_
          refine K_iinc (v := (x2 + 1)) (ls' := [(0, _), (1, _), (2, _)]) dX11_adoptAtHandlers_62 rfl rfl (by decide) rfl ?_
          refine K_goto (tgt := 15) dX11_adoptAtHandlers_65 (by decide) ?_
          refine K.keep [0, 1, 2] ?_
          exact hrc15 x1 (x2 + 1) u10
def bd_X11_adoptAtHandlers_2 (fu : Nat) (E : Ev) (a0 : Nat) (rc2 : Int32 → St → Option St) (x1 : Int32) (S : St) : Option St :=
  if (S.1 (E.2 a0 2) 11) ≤ x1 then (
    some S
  ) else (
    lp_X11_adoptAtHandlers_15 fu E a0 rc2 fu x1 0 S
  )
def lp_X11_adoptAtHandlers_2 (fu : Nat) (E : Ev) (a0 : Nat) : Nat → Int32 → St → Option St
  | 0, _, _ => none
  | f + 1, x1, S => bd_X11_adoptAtHandlers_2 fu E a0 (lp_X11_adoptAtHandlers_2 fu E a0 f) x1 S
set_option maxRecDepth 100000 in
theorem kl_X11_adoptAtHandlers_2 {X : Cx} {E : Ev} {t : St} {a0 : Nat} (hQ : EndR mX11_adoptAtHandlers X (PoV E t)) (hE : WE E) (fu : Nat) (ha0 : E.1 a0 = some (0, 9, 0)) : ∀ (f : Nat) (x1 : Int32) (S : St), K mX11_adoptAtHandlers X E 2 [(0, .ref a0), (1, .int x1)] [] S 0 0 (lp_X11_adoptAtHandlers_2 fu E a0 f x1 S) t := by
  intro f
  induction f with
  | zero => intro x1 S; exact K_none
  | succ f hrc2 =>
    intro x1 S
    show K _ _ _ _ _ _ _ _ _ (bd_X11_adoptAtHandlers_2 fu E a0 (lp_X11_adoptAtHandlers_2 fu E a0 f) x1 S) t
    unfold bd_X11_adoptAtHandlers_2
    refine K_iload_n dX11_adoptAtHandlers_2 rfl rfl ?_
    refine K_aload_n dX11_adoptAtHandlers_3 rfl rfl ?_
    refine K_getC hE dX11_adoptAtHandlers_4 f_X11_26_9 ha0 rfl rfl (fun h1 => ?_)
    refine K_getI dX11_adoptAtHandlers_7 f_X11_202_0 h1 rfl ?_
    refine K_icmp_ge (tgt := 74) dX11_adoptAtHandlers_10 (by decide) (fun c14 => ?_) (fun c14 => ?_)
    · exact K_vret dX11_adoptAtHandlers_74 hQ rfl (Nat.le_of_ble_eq_true rfl) (Nat.le_of_ble_eq_true rfl)
    · refine K_iconst (v := 0) dX11_adoptAtHandlers_13 (by decide) ?_
      refine K_istore_n (ls' := [(0, _), (1, _), (2, _)]) dX11_adoptAtHandlers_14 rfl (by decide) rfl ?_
      refine K.keep [0, 1, 2] ?_
      exact kl_X11_adoptAtHandlers_15 hQ hE fu ha0 hrc2 fu x1 0 S
def sp_X11_adoptAtHandlers (fu : Nat) (E : Ev) (S : St) (a0 : Nat) : Option St :=
  lp_X11_adoptAtHandlers_2 fu E a0 fu 0 S
set_option maxRecDepth 100000 in
theorem k_X11_adoptAtHandlers {l : Launch} (fu : Nat) {E : Ev} (hE : WE E) {a0 : Nat} (ha0 : E.1 a0 = some (0, 9, 0)) {S : St} {t : St} (h : sp_X11_adoptAtHandlers fu E S a0 = some t) : Cn l mX11_adoptAtHandlers [.ref a0] (hp E S) (PoV E t) := by
  refine Cn.of (by decide) rfl (Nat.le_of_ble_eq_true rfl) (fun X _ _ hQ => ?_)
  refine (?_ : K mX11_adoptAtHandlers X E 0 [(0, .ref a0)] [] S 0 0 (sp_X11_adoptAtHandlers fu E S a0) t) h
  unfold sp_X11_adoptAtHandlers
  refine K_iconst (v := 0) dX11_adoptAtHandlers_0 (by decide) ?_
  refine K_istore_n (ls' := [(0, _), (1, _)]) dX11_adoptAtHandlers_1 rfl (by decide) rfl ?_
  refine K.keep [0, 1] ?_
  exact kl_X11_adoptAtHandlers_2 hQ hE fu ha0 fu 0 S
def bd_X11_adoptAtJumps_2 (fu : Nat) (E : Ev) (a0 : Nat) (rc2 : Int32 → St → Option St) (x1 : Int32) (S : St) : Option St :=
  if (S.1 (E.2 a0 2) 6) ≤ x1 then (
    some S
  ) else (
    (sp_X4_contains fu E S (E.2 a0 5) x1).bind fun u3 =>
    if u3.1 = 0 then (
      rc2 (x1 + 1) u3.2
    ) else (
      if inb x1 100 = true then
        (
        (sp_X9_jumps fu E u3.2 (u3.2.2.1 (E.2 (E.2 a0 2) 4) x1.toNatClampNeg)).bind fun u7 =>
        if u7.1 = 0 then (
          rc2 (x1 + 1) u7.2
        ) else (
          if inb x1 100 = true then
            (
            (sp_X11_adoptAt fu E u7.2 a0 (u7.2.2.1 (E.2 (E.2 a0 2) 5) x1.toNatClampNeg)).bind fun u11 =>
            rc2 (x1 + 1) u11
            )
          else none
        )
        )
      else none
    )
  )
def lp_X11_adoptAtJumps_2 (fu : Nat) (E : Ev) (a0 : Nat) : Nat → Int32 → St → Option St
  | 0, _, _ => none
  | f + 1, x1, S => bd_X11_adoptAtJumps_2 fu E a0 (lp_X11_adoptAtJumps_2 fu E a0 f) x1 S
set_option maxRecDepth 100000 in
theorem kl_X11_adoptAtJumps_2 {X : Cx} {E : Ev} {t : St} {a0 : Nat} (hQ : EndR mX11_adoptAtJumps X (PoV E t)) (hE : WE E) (fu : Nat) (ha0 : E.1 a0 = some (0, 9, 0)) : ∀ (f : Nat) (x1 : Int32) (S : St), K mX11_adoptAtJumps X E 2 [(0, .ref a0), (1, .int x1)] [] S 0 0 (lp_X11_adoptAtJumps_2 fu E a0 f x1 S) t := by
  intro f
  induction f with
  | zero => intro x1 S; exact K_none
  | succ f hrc2 =>
    intro x1 S
    show K _ _ _ _ _ _ _ _ _ (bd_X11_adoptAtJumps_2 fu E a0 (lp_X11_adoptAtJumps_2 fu E a0 f) x1 S) t
    unfold bd_X11_adoptAtJumps_2
    refine K_iload_n dX11_adoptAtJumps_2 rfl rfl ?_
    refine K_aload_n dX11_adoptAtJumps_3 rfl rfl ?_
    refine K_getC hE dX11_adoptAtJumps_4 f_X11_26_9 ha0 rfl rfl (fun h1 => ?_)
    refine K_getI dX11_adoptAtJumps_7 f_X11_194_0 h1 rfl ?_
    refine K_icmp_ge (tgt := 58) dX11_adoptAtJumps_10 (by decide) (fun c14 => ?_) (fun c14 => ?_)
    · exact K_vret dX11_adoptAtJumps_58 hQ rfl (Nat.le_of_ble_eq_true rfl) (Nat.le_of_ble_eq_true rfl)
    · refine K_aload_n dX11_adoptAtJumps_13 rfl rfl ?_
      refine K_getC hE dX11_adoptAtJumps_14 f_X11_47_9 ha0 rfl rfl (fun h2 => ?_)
      refine K_iload_n dX11_adoptAtJumps_17 rfl rfl ?_
      refine K_bind (fun u3 hu3 => ?_)
      refine K_callVI (As := [.int x1]) (k_X4_contains fu hE h2 hu3) dX11_adoptAtJumps_18 v_X11_260 h2 rfl rfl rfl rfl (Nat.le_of_ble_eq_true rfl) ⟨Nat.le_of_ble_eq_true rfl, Nat.le_of_ble_eq_true rfl, Nat.le_of_ble_eq_true rfl, Nat.le_of_ble_eq_true rfl⟩ ?_
      refine K_if_eq (tgt := 52) dX11_adoptAtJumps_21 (by decide) (fun c13 => ?_) (fun c13 => ?_)
      · refine K_iinc (v := (x1 + 1)) (ls' := [(0, _), (1, _)]) dX11_adoptAtJumps_52 rfl rfl (by decide) rfl ?_
        refine K_goto (tgt := 2) dX11_adoptAtJumps_55 (by decide) ?_
        refine K.keep [0, 1] ?_
        exact hrc2 (x1 + 1) u3.2
      · refine K_aload_n dX11_adoptAtJumps_24 rfl rfl ?_
        refine K_getC hE dX11_adoptAtJumps_25 f_X11_26_9 ha0 rfl rfl (fun h4 => ?_)
        refine K_getC hE dX11_adoptAtJumps_28 f_X11_263_0 h4 rfl rfl (fun h5 => ?_)
        refine K_iload_n dX11_adoptAtJumps_31 rfl rfl ?_
        refine K_chk (fun h6 => ?_)
        refine K_iald dX11_adoptAtJumps_32 h5 h6 ?_
        refine K_bind (fun u7 hu7 => ?_)
        refine K_callSI (As := [.int (u3.2.2.1 (E.2 (E.2 a0 2) 4) x1.toNatClampNeg)]) (k_X9_jumps fu hE hu7) dX11_adoptAtJumps_33 s_X11_266 rfl rfl (Nat.le_of_ble_eq_true rfl) ⟨Nat.le_of_ble_eq_true rfl, Nat.le_of_ble_eq_true rfl, Nat.le_of_ble_eq_true rfl, Nat.le_of_ble_eq_true rfl⟩ ?_
        refine K_if_eq (tgt := 52) dX11_adoptAtJumps_36 (by decide) (fun c12 => ?_) (fun c12 => ?_)
        · refine K_iinc (v := (x1 + 1)) (ls' := [(0, _), (1, _)]) dX11_adoptAtJumps_52 rfl rfl (by decide) rfl ?_
          refine K_goto (tgt := 2) dX11_adoptAtJumps_55 (by decide) ?_
          refine K.keep [0, 1] ?_
          exact hrc2 (x1 + 1) u7.2
        · refine K_aload_n dX11_adoptAtJumps_39 rfl rfl ?_
          refine K_aload_n dX11_adoptAtJumps_40 rfl rfl ?_
          refine K_getC hE dX11_adoptAtJumps_41 f_X11_26_9 ha0 rfl rfl (fun h8 => ?_)
          refine K_getC hE dX11_adoptAtJumps_44 f_X11_269_0 h8 rfl rfl (fun h9 => ?_)
          refine K_iload_n dX11_adoptAtJumps_47 rfl rfl ?_
          refine K_chk (fun h10 => ?_)
          refine K_iald dX11_adoptAtJumps_48 h9 h10 ?_
          refine K_bind (fun u11 hu11 => ?_)
          refine K_callVV (As := [.int (u7.2.2.1 (E.2 (E.2 a0 2) 5) x1.toNatClampNeg)]) (k_X11_adoptAt fu hE ha0 hu11) dX11_adoptAtJumps_49 v_X11_272 ha0 rfl rfl rfl rfl (Nat.le_of_ble_eq_true rfl) ⟨Nat.le_of_ble_eq_true rfl, Nat.le_of_ble_eq_true rfl, Nat.le_of_ble_eq_true rfl, Nat.le_of_ble_eq_true rfl⟩ ?_
          refine K_iinc (v := (x1 + 1)) (ls' := [(0, _), (1, _)]) dX11_adoptAtJumps_52 rfl rfl (by decide) rfl ?_
          refine K_goto (tgt := 2) dX11_adoptAtJumps_55 (by decide) ?_
          refine K.keep [0, 1] ?_
          exact hrc2 (x1 + 1) u11
def sp_X11_adoptAtJumps (fu : Nat) (E : Ev) (S : St) (a0 : Nat) : Option St :=
  lp_X11_adoptAtJumps_2 fu E a0 fu 0 S
set_option maxRecDepth 100000 in
theorem k_X11_adoptAtJumps {l : Launch} (fu : Nat) {E : Ev} (hE : WE E) {a0 : Nat} (ha0 : E.1 a0 = some (0, 9, 0)) {S : St} {t : St} (h : sp_X11_adoptAtJumps fu E S a0 = some t) : Cn l mX11_adoptAtJumps [.ref a0] (hp E S) (PoV E t) := by
  refine Cn.of (by decide) rfl (Nat.le_of_ble_eq_true rfl) (fun X _ _ hQ => ?_)
  refine (?_ : K mX11_adoptAtJumps X E 0 [(0, .ref a0)] [] S 0 0 (sp_X11_adoptAtJumps fu E S a0) t) h
  unfold sp_X11_adoptAtJumps
  refine K_iconst (v := 0) dX11_adoptAtJumps_0 (by decide) ?_
  refine K_istore_n (ls' := [(0, _), (1, _)]) dX11_adoptAtJumps_1 rfl (by decide) rfl ?_
  refine K.keep [0, 1] ?_
  exact kl_X11_adoptAtJumps_2 hQ hE fu ha0 fu 0 S
def bd_X11_adoptBehindEnds_2 (fu : Nat) (E : Ev) (a0 : Nat) (rc2 : Int32 → St → Option St) (x1 : Int32) (S : St) : Option St :=
  if (S.1 (E.2 a0 2) 6) ≤ x1 then (
    some S
  ) else (
    if inb (x1 - 1) 100 = true then
      (
      (sp_X9_fallsThrough fu E S (S.2.1 (E.2 (E.2 a0 2) 4) (x1 - 1).toNatClampNeg)).bind fun u5 =>
      if u5.1 = 0 then (
        (sp_X11_adoptAt fu E u5.2 a0 x1).bind fun u6 =>
        rc2 (x1 + 1) u6
      ) else (
        rc2 (x1 + 1) u5.2
      )
      )
    else none
  )
def lp_X11_adoptBehindEnds_2 (fu : Nat) (E : Ev) (a0 : Nat) : Nat → Int32 → St → Option St
  | 0, _, _ => none
  | f + 1, x1, S => bd_X11_adoptBehindEnds_2 fu E a0 (lp_X11_adoptBehindEnds_2 fu E a0 f) x1 S
set_option maxRecDepth 100000 in
theorem kl_X11_adoptBehindEnds_2 {X : Cx} {E : Ev} {t : St} {a0 : Nat} (hQ : EndR mX11_adoptBehindEnds X (PoV E t)) (hE : WE E) (fu : Nat) (ha0 : E.1 a0 = some (0, 9, 0)) : ∀ (f : Nat) (x1 : Int32) (S : St), K mX11_adoptBehindEnds X E 2 [(0, .ref a0), (1, .int x1)] [] S 0 0 (lp_X11_adoptBehindEnds_2 fu E a0 f x1 S) t := by
  intro f
  induction f with
  | zero => intro x1 S; exact K_none
  | succ f hrc2 =>
    intro x1 S
    show K _ _ _ _ _ _ _ _ _ (bd_X11_adoptBehindEnds_2 fu E a0 (lp_X11_adoptBehindEnds_2 fu E a0 f) x1 S) t
    unfold bd_X11_adoptBehindEnds_2
    refine K_iload_n dX11_adoptBehindEnds_2 rfl rfl ?_
    refine K_aload_n dX11_adoptBehindEnds_3 rfl rfl ?_
    refine K_getC hE dX11_adoptBehindEnds_4 f_X11_26_9 ha0 rfl rfl (fun h1 => ?_)
    refine K_getI dX11_adoptBehindEnds_7 f_X11_194_0 h1 rfl ?_
    refine K_icmp_ge (tgt := 41) dX11_adoptBehindEnds_10 (by decide) (fun c8 => ?_) (fun c8 => ?_)
    · exact K_vret dX11_adoptBehindEnds_41 hQ rfl (Nat.le_of_ble_eq_true rfl) (Nat.le_of_ble_eq_true rfl)
    · refine K_aload_n dX11_adoptBehindEnds_13 rfl rfl ?_
      refine K_getC hE dX11_adoptBehindEnds_14 f_X11_26_9 ha0 rfl rfl (fun h2 => ?_)
      refine K_getC hE dX11_adoptBehindEnds_17 f_X11_263_0 h2 rfl rfl (fun h3 => ?_)
      refine K_iload_n dX11_adoptBehindEnds_20 rfl rfl ?_
      refine K_iconst (v := 1) dX11_adoptBehindEnds_21 (by decide) ?_
      refine K_isub dX11_adoptBehindEnds_22 ?_
      refine K_chk (fun h4 => ?_)
      refine K_iald dX11_adoptBehindEnds_23 h3 h4 ?_
      refine K_bind (fun u5 hu5 => ?_)
      refine K_callSI (As := [.int (S.2.1 (E.2 (E.2 a0 2) 4) (x1 - 1).toNatClampNeg)]) (k_X9_fallsThrough fu hE hu5) dX11_adoptBehindEnds_24 s_X11_282 rfl rfl (Nat.le_of_ble_eq_true rfl) ⟨Nat.le_of_ble_eq_true rfl, Nat.le_of_ble_eq_true rfl, Nat.le_of_ble_eq_true rfl, Nat.le_of_ble_eq_true rfl⟩ ?_
      refine K_if_ne (tgt := 35) dX11_adoptBehindEnds_27 (by decide) (fun c7 => ?_) (fun c7 => ?_)
      · refine K_iinc (v := (x1 + 1)) (ls' := [(0, _), (1, _)]) dX11_adoptBehindEnds_35 rfl rfl (by decide) rfl ?_
        refine K_goto (tgt := 2) dX11_adoptBehindEnds_38 (by decide) ?_
        refine K.keep [0, 1] ?_
        exact hrc2 (x1 + 1) u5.2
      · refine K_aload_n dX11_adoptBehindEnds_30 rfl rfl ?_
        refine K_iload_n dX11_adoptBehindEnds_31 rfl rfl ?_
        refine K_bind (fun u6 hu6 => ?_)
        refine K_callVV (As := [.int x1]) (k_X11_adoptAt fu hE ha0 hu6) dX11_adoptBehindEnds_32 v_X11_272 ha0 rfl rfl rfl rfl (Nat.le_of_ble_eq_true rfl) ⟨Nat.le_of_ble_eq_true rfl, Nat.le_of_ble_eq_true rfl, Nat.le_of_ble_eq_true rfl, Nat.le_of_ble_eq_true rfl⟩ ?_
        refine K_iinc (v := (x1 + 1)) (ls' := [(0, _), (1, _)]) dX11_adoptBehindEnds_35 rfl rfl (by decide) rfl ?_
        refine K_goto (tgt := 2) dX11_adoptBehindEnds_38 (by decide) ?_
        refine K.keep [0, 1] ?_
        exact hrc2 (x1 + 1) u6
def sp_X11_adoptBehindEnds (fu : Nat) (E : Ev) (S : St) (a0 : Nat) : Option St :=
  lp_X11_adoptBehindEnds_2 fu E a0 fu 1 S
set_option maxRecDepth 100000 in
theorem k_X11_adoptBehindEnds {l : Launch} (fu : Nat) {E : Ev} (hE : WE E) {a0 : Nat} (ha0 : E.1 a0 = some (0, 9, 0)) {S : St} {t : St} (h : sp_X11_adoptBehindEnds fu E S a0 = some t) : Cn l mX11_adoptBehindEnds [.ref a0] (hp E S) (PoV E t) := by
  refine Cn.of (by decide) rfl (Nat.le_of_ble_eq_true rfl) (fun X _ _ hQ => ?_)
  refine (?_ : K mX11_adoptBehindEnds X E 0 [(0, .ref a0)] [] S 0 0 (sp_X11_adoptBehindEnds fu E S a0) t) h
  unfold sp_X11_adoptBehindEnds
  refine K_iconst (v := 1) dX11_adoptBehindEnds_0 (by decide) ?_
  refine K_istore_n (ls' := [(0, _), (1, _)]) dX11_adoptBehindEnds_1 rfl (by decide) rfl ?_
  refine K.keep [0, 1] ?_
  exact kl_X11_adoptBehindEnds_2 hQ hE fu ha0 fu 1 S
def sp_X11_adoptFrames (fu : Nat) (E : Ev) (S : St) (a0 : Nat) : Option ((String ⊕ Int32) × St) :=
  if (S.1 (E.2 a0 5) 2) = 0 then (
    some (.inl "java/lang/IllegalStateException", S)
  ) else (
    (sp_X4_clear fu E S (E.2 a0 6)).bind fun u3 =>
    (sp_X11_adoptAtJumps fu E u3 a0).bind fun u4 =>
    (sp_X11_adoptAtHandlers fu E u4 a0).bind fun u5 =>
    (sp_X11_adoptBehindEnds fu E u5 a0).bind fun u6 =>
    some ((.inr (u6.1 (E.2 a0 6) 2)), u6)
  )
set_option maxRecDepth 100000 in
theorem k_X11_adoptFrames {l : Launch} (fu : Nat) {E : Ev} (hE : WE E) {a0 : Nat} (ha0 : E.1 a0 = some (0, 9, 0)) {S : St} {t : ((String ⊕ Int32) × St)} (h : sp_X11_adoptFrames fu E S a0 = some t) : Ct l mX11_adoptFrames [.ref a0] (hp E S) (PoXI E t) (PxX E t) := by
  refine Ct.of (by decide) rfl (Nat.le_of_ble_eq_true rfl) (fun X _ _ hQ => ?_)
  refine (?_ : K mX11_adoptFrames X E 0 [(0, .ref a0)] [] S 0 0 (sp_X11_adoptFrames fu E S a0) t) h
  unfold sp_X11_adoptFrames
  refine K_aload_n dX11_adoptFrames_0 rfl rfl ?_
  refine K_getC hE dX11_adoptFrames_1 f_X11_47_9 ha0 rfl rfl (fun h1 => ?_)
  refine K_getI dX11_adoptFrames_4 f_X11_248_3 h1 rfl ?_
  refine K_if_ne (tgt := 20) dX11_adoptFrames_7 (by decide) (fun c8 => ?_) (fun c8 => ?_)
  · refine K_aload_n dX11_adoptFrames_20 rfl rfl ?_
    refine K_getC hE dX11_adoptFrames_21 f_X11_51_9 ha0 rfl rfl (fun h2 => ?_)
    refine K_bind (fun u3 hu3 => ?_)
    refine K_callVV (As := []) (k_X4_clear fu hE h2 hu3) dX11_adoptFrames_24 v_X11_182 h2 rfl rfl rfl rfl (Nat.le_of_ble_eq_true rfl) ⟨Nat.le_of_ble_eq_true rfl, Nat.le_of_ble_eq_true rfl, Nat.le_of_ble_eq_true rfl, Nat.le_of_ble_eq_true rfl⟩ ?_
    refine K_aload_n dX11_adoptFrames_27 rfl rfl ?_
    refine K_bind (fun u4 hu4 => ?_)
    refine K_callVV (As := []) (k_X11_adoptAtJumps fu hE ha0 hu4) dX11_adoptFrames_28 v_X11_251 ha0 rfl rfl rfl rfl (Nat.le_of_ble_eq_true rfl) ⟨Nat.le_of_ble_eq_true rfl, Nat.le_of_ble_eq_true rfl, Nat.le_of_ble_eq_true rfl, Nat.le_of_ble_eq_true rfl⟩ ?_
    refine K_aload_n dX11_adoptFrames_31 rfl rfl ?_
    refine K_bind (fun u5 hu5 => ?_)
    refine K_callVV (As := []) (k_X11_adoptAtHandlers fu hE ha0 hu5) dX11_adoptFrames_32 v_X11_254 ha0 rfl rfl rfl rfl (Nat.le_of_ble_eq_true rfl) ⟨Nat.le_of_ble_eq_true rfl, Nat.le_of_ble_eq_true rfl, Nat.le_of_ble_eq_true rfl, Nat.le_of_ble_eq_true rfl⟩ ?_
    refine K_aload_n dX11_adoptFrames_35 rfl rfl ?_
    refine K_bind (fun u6 hu6 => ?_)
    refine K_callVV (As := []) (k_X11_adoptBehindEnds fu hE ha0 hu6) dX11_adoptFrames_36 v_X11_257 ha0 rfl rfl rfl rfl (Nat.le_of_ble_eq_true rfl) ⟨Nat.le_of_ble_eq_true rfl, Nat.le_of_ble_eq_true rfl, Nat.le_of_ble_eq_true rfl, Nat.le_of_ble_eq_true rfl⟩ ?_
    refine K_aload_n dX11_adoptFrames_39 rfl rfl ?_
    refine K_getC hE dX11_adoptFrames_40 f_X11_51_9 ha0 rfl rfl (fun h7 => ?_)
    refine K_getI dX11_adoptFrames_43 f_X11_248_3 h7 rfl ?_
    exact K_xiret dX11_adoptFrames_46 hQ rfl (Nat.le_of_ble_eq_true rfl) (Nat.le_of_ble_eq_true rfl)
  · exact K_throw t_X11_90_249 hQ rfl dX11_adoptFrames_10 dX11_adoptFrames_13 dX11_adoptFrames_14 dX11_adoptFrames_16 dX11_adoptFrames_19 (Nat.le_of_ble_eq_true rfl) (Nat.le_of_ble_eq_true rfl) (Nat.le_of_ble_eq_true rfl) (Nat.le_of_ble_eq_true rfl)
def sp_X11_requireCode (fu : Nat) (E : Ev) (S : St) (a0 : Nat) : Option ((String ⊕ Unit) × St) :=
  if (S.1 (E.2 a0 2) 0) = 0 then (
    some (.inl "java/lang/IllegalStateException", S)
  ) else (
    some (.inr (), S)
  )
set_option maxRecDepth 100000 in
theorem k_X11_requireCode {l : Launch} (fu : Nat) {E : Ev} (hE : WE E) {a0 : Nat} (ha0 : E.1 a0 = some (0, 9, 0)) {S : St} {t : ((String ⊕ Unit) × St)} (h : sp_X11_requireCode fu E S a0 = some t) : Ct l mX11_requireCode [.ref a0] (hp E S) (PoXV E t) (PxX E t) := by
  refine Ct.of (by decide) rfl (Nat.le_of_ble_eq_true rfl) (fun X _ _ hQ => ?_)
  refine (?_ : K mX11_requireCode X E 0 [(0, .ref a0)] [] S 0 0 (sp_X11_requireCode fu E S a0) t) h
  unfold sp_X11_requireCode
  refine K_aload_n dX11_requireCode_0 rfl rfl ?_
  refine K_getC hE dX11_requireCode_1 f_X11_26_9 ha0 rfl rfl (fun h1 => ?_)
  refine K_getI dX11_requireCode_4 f_X11_190_0 h1 rfl ?_
  refine K_if_ne (tgt := 21) dX11_requireCode_7 (by decide) (fun c2 => ?_) (fun c2 => ?_)
  · exact K_xvret dX11_requireCode_21 hQ rfl (Nat.le_of_ble_eq_true rfl) (Nat.le_of_ble_eq_true rfl)
  · exact K_throwW t_X11_90_305 hQ rfl dX11_requireCode_10 dX11_requireCode_13 dX11_requireCode_14 dX11_requireCode_17 dX11_requireCode_20 (Nat.le_of_ble_eq_true rfl) (Nat.le_of_ble_eq_true rfl) (Nat.le_of_ble_eq_true rfl) (Nat.le_of_ble_eq_true rfl)
def sp_X11_infer (fu : Nat) (E : Ev) (S : St) (a0 : Nat) : Option ((String ⊕ Int32) × St) :=
  (sp_X11_requireCode fu E S a0).bind fun u1 => xb u1 fun q2 S3 =>
  (sp_X5_run fu E S3 (E.2 a0 7)).bind fun u5 =>
  bnd (sF u5.2 a0 9 (u5.2.1 (E.2 a0 7) 3)) fun S7 =>
  bnd (sF S7 a0 10 (S7.1 (E.2 a0 7) 4)) fun S9 =>
  some ((.inr u5.1), S9)
set_option maxRecDepth 100000 in
theorem k_X11_infer {l : Launch} (fu : Nat) {E : Ev} (hE : WE E) {a0 : Nat} (ha0 : E.1 a0 = some (0, 9, 0)) {S : St} {t : ((String ⊕ Int32) × St)} (h : sp_X11_infer fu E S a0 = some t) : Ct l mX11_infer [.ref a0] (hp E S) (PoXI E t) (PxX E t) := by
  refine Ct.of (by decide) rfl (Nat.le_of_ble_eq_true rfl) (fun X _ _ hQ => ?_)
  refine (?_ : K mX11_infer X E 0 [(0, .ref a0)] [] S 0 0 (sp_X11_infer fu E S a0) t) h
  unfold sp_X11_infer
  refine K_aload_n dX11_infer_0 rfl rfl ?_
  refine K_bind (fun u1 hu1 => ?_)
  refine K_callXV (As := []) (k_X11_requireCode fu hE ha0 hu1) hQ rfl dX11_infer_1 v_X11_289 ha0 rfl rfl rfl rfl (Nat.le_of_ble_eq_true rfl) ⟨Nat.le_of_ble_eq_true rfl, Nat.le_of_ble_eq_true rfl, Nat.le_of_ble_eq_true rfl, Nat.le_of_ble_eq_true rfl⟩ (fun q2 S3 => ?_)
  refine K_aload_n dX11_infer_4 rfl rfl ?_
  refine K_getC hE dX11_infer_5 f_X11_59_9 ha0 rfl rfl (fun h4 => ?_)
  refine K_bind (fun u5 hu5 => ?_)
  refine K_callVI (As := []) (k_X5_run fu hE h4 hu5) dX11_infer_8 v_X11_292 h4 rfl rfl rfl rfl (Nat.le_of_ble_eq_true rfl) ⟨Nat.le_of_ble_eq_true rfl, Nat.le_of_ble_eq_true rfl, Nat.le_of_ble_eq_true rfl, Nat.le_of_ble_eq_true rfl⟩ ?_
  refine K_istore_n (ls' := [(0, _), (1, _)]) dX11_infer_11 rfl (by decide) rfl ?_
  refine K_aload_n dX11_infer_12 rfl rfl ?_
  refine K_aload_n dX11_infer_13 rfl rfl ?_
  refine K_getC hE dX11_infer_14 f_X11_59_9 ha0 rfl rfl (fun h6 => ?_)
  refine K_getI dX11_infer_17 f_X11_296_4 h6 rfl ?_
  refine K_putI dX11_infer_20 p_X11_70_9 ha0 rfl ?_
  refine K_nmS (fun S7 => ?_)
  refine K_aload_n dX11_infer_23 rfl rfl ?_
  refine K_aload_n dX11_infer_24 rfl rfl ?_
  refine K_getC hE dX11_infer_25 f_X11_59_9 ha0 rfl rfl (fun h8 => ?_)
  refine K_getI dX11_infer_28 f_X11_299_4 h8 rfl ?_
  refine K_putI dX11_infer_31 p_X11_73_9 ha0 rfl ?_
  refine K_nmS (fun S9 => ?_)
  refine K_iload_n dX11_infer_34 rfl rfl ?_
  exact K_xiret dX11_infer_35 hQ rfl (Nat.le_of_ble_eq_true rfl) (Nat.le_of_ble_eq_true rfl)
def sp_X11_check (fu : Nat) (E : Ev) (S : St) (a0 : Nat) : Option ((String ⊕ Int32) × St) :=
  (sp_X11_requireCode fu E S a0).bind fun u1 => xb u1 fun q2 S3 =>
  (sp_X6_run fu E S3 (E.2 a0 8)).bind fun u5 =>
  bnd (sF u5.2 a0 9 (u5.2.1 (E.2 a0 8) 3)) fun S7 =>
  bnd (sF S7 a0 10 (S7.1 (E.2 a0 8) 4)) fun S9 =>
  some ((.inr u5.1), S9)
set_option maxRecDepth 100000 in
theorem k_X11_check {l : Launch} (fu : Nat) {E : Ev} (hE : WE E) {a0 : Nat} (ha0 : E.1 a0 = some (0, 9, 0)) {S : St} {t : ((String ⊕ Int32) × St)} (h : sp_X11_check fu E S a0 = some t) : Ct l mX11_check [.ref a0] (hp E S) (PoXI E t) (PxX E t) := by
  refine Ct.of (by decide) rfl (Nat.le_of_ble_eq_true rfl) (fun X _ _ hQ => ?_)
  refine (?_ : K mX11_check X E 0 [(0, .ref a0)] [] S 0 0 (sp_X11_check fu E S a0) t) h
  unfold sp_X11_check
  refine K_aload_n dX11_check_0 rfl rfl ?_
  refine K_bind (fun u1 hu1 => ?_)
  refine K_callXV (As := []) (k_X11_requireCode fu hE ha0 hu1) hQ rfl dX11_check_1 v_X11_289 ha0 rfl rfl rfl rfl (Nat.le_of_ble_eq_true rfl) ⟨Nat.le_of_ble_eq_true rfl, Nat.le_of_ble_eq_true rfl, Nat.le_of_ble_eq_true rfl, Nat.le_of_ble_eq_true rfl⟩ (fun q2 S3 => ?_)
  refine K_aload_n dX11_check_4 rfl rfl ?_
  refine K_getC hE dX11_check_5 f_X11_66_9 ha0 rfl rfl (fun h4 => ?_)
  refine K_bind (fun u5 hu5 => ?_)
  refine K_callVI (As := []) (k_X6_run fu hE h4 hu5) dX11_check_8 v_X11_302 h4 rfl rfl rfl rfl (Nat.le_of_ble_eq_true rfl) ⟨Nat.le_of_ble_eq_true rfl, Nat.le_of_ble_eq_true rfl, Nat.le_of_ble_eq_true rfl, Nat.le_of_ble_eq_true rfl⟩ ?_
  refine K_istore_n (ls' := [(0, _), (1, _)]) dX11_check_11 rfl (by decide) rfl ?_
  refine K_aload_n dX11_check_12 rfl rfl ?_
  refine K_aload_n dX11_check_13 rfl rfl ?_
  refine K_getC hE dX11_check_14 f_X11_66_9 ha0 rfl rfl (fun h6 => ?_)
  refine K_getI dX11_check_17 f_X11_303_5 h6 rfl ?_
  refine K_putI dX11_check_20 p_X11_70_9 ha0 rfl ?_
  refine K_nmS (fun S7 => ?_)
  refine K_aload_n dX11_check_23 rfl rfl ?_
  refine K_aload_n dX11_check_24 rfl rfl ?_
  refine K_getC hE dX11_check_25 f_X11_66_9 ha0 rfl rfl (fun h8 => ?_)
  refine K_getI dX11_check_28 f_X11_304_5 h8 rfl ?_
  refine K_putI dX11_check_31 p_X11_73_9 ha0 rfl ?_
  refine K_nmS (fun S9 => ?_)
  refine K_iload_n dX11_check_34 rfl rfl ?_
  exact K_xiret dX11_check_35 hQ rfl (Nat.le_of_ble_eq_true rfl) (Nat.le_of_ble_eq_true rfl)
def sp_X11_errorPosition (fu : Nat) (E : Ev) (S : St) (a0 : Nat) : Option (Int32 × St) :=
  some (S.1 a0 9, S)
set_option maxRecDepth 100000 in
theorem k_X11_errorPosition {l : Launch} (fu : Nat) {E : Ev} (hE : WE E) {a0 : Nat} (ha0 : E.1 a0 = some (0, 9, 0)) {S : St} {t : (Int32 × St)} (h : sp_X11_errorPosition fu E S a0 = some t) : Cn l mX11_errorPosition [.ref a0] (hp E S) (PoI E t) := by
  refine Cn.of (by decide) rfl (Nat.le_of_ble_eq_true rfl) (fun X _ _ hQ => ?_)
  refine (?_ : K mX11_errorPosition X E 0 [(0, .ref a0)] [] S 0 0 (sp_X11_errorPosition fu E S a0) t) h
  unfold sp_X11_errorPosition
  refine K_aload_n dX11_errorPosition_0 rfl rfl ?_
  refine K_getI dX11_errorPosition_1 f_X11_70_9 ha0 rfl ?_
  exact K_iret dX11_errorPosition_4 hQ rfl (Nat.le_of_ble_eq_true rfl) (Nat.le_of_ble_eq_true rfl)
def sp_X11_visits (fu : Nat) (E : Ev) (S : St) (a0 : Nat) : Option (Int32 × St) :=
  some (S.1 a0 10, S)
set_option maxRecDepth 100000 in
theorem k_X11_visits {l : Launch} (fu : Nat) {E : Ev} (hE : WE E) {a0 : Nat} (ha0 : E.1 a0 = some (0, 9, 0)) {S : St} {t : (Int32 × St)} (h : sp_X11_visits fu E S a0 = some t) : Cn l mX11_visits [.ref a0] (hp E S) (PoI E t) := by
  refine Cn.of (by decide) rfl (Nat.le_of_ble_eq_true rfl) (fun X _ _ hQ => ?_)
  refine (?_ : K mX11_visits X E 0 [(0, .ref a0)] [] S 0 0 (sp_X11_visits fu E S a0) t) h
  unfold sp_X11_visits
  refine K_aload_n dX11_visits_0 rfl rfl ?_
  refine K_getI dX11_visits_1 f_X11_73_9 ha0 rfl ?_
  exact K_iret dX11_visits_4 hQ rfl (Nat.le_of_ble_eq_true rfl) (Nat.le_of_ble_eq_true rfl)
def sp_X11_requireIndex (fu : Nat) (E : Ev) (S : St) (a0 : Nat) (x1 : Int32) : Option ((String ⊕ Unit) × St) :=
  (sp_X1_isIndex fu E S (E.2 a0 2) x1).bind fun u2 =>
  if u2.1 = 0 then (
    some (.inl "java/lang/IndexOutOfBoundsException", u2.2)
  ) else (
    some (.inr (), u2.2)
  )
set_option maxRecDepth 100000 in
theorem k_X11_requireIndex {l : Launch} (fu : Nat) {E : Ev} (hE : WE E) {a0 : Nat} (ha0 : E.1 a0 = some (0, 9, 0)) {x1 : Int32} {S : St} {t : ((String ⊕ Unit) × St)} (h : sp_X11_requireIndex fu E S a0 x1 = some t) : Ct l mX11_requireIndex [.ref a0, .int x1] (hp E S) (PoXV E t) (PxX E t) := by
  refine Ct.of (by decide) rfl (Nat.le_of_ble_eq_true rfl) (fun X _ _ hQ => ?_)
  refine (?_ : K mX11_requireIndex X E 0 [(0, .ref a0), (1, .int x1)] [] S 0 0 (sp_X11_requireIndex fu E S a0 x1) t) h
  unfold sp_X11_requireIndex
  refine K_aload_n dX11_requireIndex_0 rfl rfl ?_
  refine K_getC hE dX11_requireIndex_1 f_X11_26_9 ha0 rfl rfl (fun h1 => ?_)
  refine K_iload_n dX11_requireIndex_4 rfl rfl ?_
  refine K_bind (fun u2 hu2 => ?_)
  refine K_callVI (As := [.int x1]) (k_X1_isIndex fu hE h1 hu2) dX11_requireIndex_5 v_X11_224 h1 rfl rfl rfl rfl (Nat.le_of_ble_eq_true rfl) ⟨Nat.le_of_ble_eq_true rfl, Nat.le_of_ble_eq_true rfl, Nat.le_of_ble_eq_true rfl, Nat.le_of_ble_eq_true rfl⟩ ?_
  refine K_if_ne (tgt := 21) dX11_requireIndex_8 (by decide) (fun c3 => ?_) (fun c3 => ?_)
  · exact K_xvret dX11_requireIndex_21 hQ rfl (Nat.le_of_ble_eq_true rfl) (Nat.le_of_ble_eq_true rfl)
  · exact K_throw t_X11_167_188 hQ rfl dX11_requireIndex_11 dX11_requireIndex_14 dX11_requireIndex_15 dX11_requireIndex_17 dX11_requireIndex_20 (Nat.le_of_ble_eq_true rfl) (Nat.le_of_ble_eq_true rfl) (Nat.le_of_ble_eq_true rfl) (Nat.le_of_ble_eq_true rfl)
def sp_X11_hasFrame (fu : Nat) (E : Ev) (S : St) (a0 : Nat) (x1 : Int32) : Option ((String ⊕ Int32) × St) :=
  (sp_X11_requireIndex fu E S a0 x1).bind fun u1 => xb u1 fun q2 S3 =>
  (sp_X4_contains fu E S3 (E.2 a0 5) x1).bind fun u5 =>
  if isB u5.1 = true then some ((.inr u5.1), u5.2) else none
set_option maxRecDepth 100000 in
theorem k_X11_hasFrame {l : Launch} (fu : Nat) {E : Ev} (hE : WE E) {a0 : Nat} (ha0 : E.1 a0 = some (0, 9, 0)) {x1 : Int32} {S : St} {t : ((String ⊕ Int32) × St)} (h : sp_X11_hasFrame fu E S a0 x1 = some t) : Ct l mX11_hasFrame [.ref a0, .int x1] (hp E S) (PoXI E t) (PxX E t) := by
  refine Ct.of (by decide) rfl (Nat.le_of_ble_eq_true rfl) (fun X _ _ hQ => ?_)
  refine (?_ : K mX11_hasFrame X E 0 [(0, .ref a0), (1, .int x1)] [] S 0 0 (sp_X11_hasFrame fu E S a0 x1) t) h
  unfold sp_X11_hasFrame
  refine K_aload_n dX11_hasFrame_0 rfl rfl ?_
  refine K_iload_n dX11_hasFrame_1 rfl rfl ?_
  refine K_bind (fun u1 hu1 => ?_)
  refine K_callXV (As := [.int x1]) (k_X11_requireIndex fu hE ha0 hu1) hQ rfl dX11_hasFrame_2 v_X11_307 ha0 rfl rfl rfl rfl (Nat.le_of_ble_eq_true rfl) ⟨Nat.le_of_ble_eq_true rfl, Nat.le_of_ble_eq_true rfl, Nat.le_of_ble_eq_true rfl, Nat.le_of_ble_eq_true rfl⟩ (fun q2 S3 => ?_)
  refine K_aload_n dX11_hasFrame_5 rfl rfl ?_
  refine K_getC hE dX11_hasFrame_6 f_X11_47_9 ha0 rfl rfl (fun h4 => ?_)
  refine K_iload_n dX11_hasFrame_9 rfl rfl ?_
  refine K_bind (fun u5 hu5 => ?_)
  refine K_callVI (As := [.int x1]) (k_X4_contains fu hE h4 hu5) dX11_hasFrame_10 v_X11_260 h4 rfl rfl rfl rfl (Nat.le_of_ble_eq_true rfl) ⟨Nat.le_of_ble_eq_true rfl, Nat.le_of_ble_eq_true rfl, Nat.le_of_ble_eq_true rfl, Nat.le_of_ble_eq_true rfl⟩ ?_
  refine K_chk (fun h6 => ?_)
  exact K_xzret dX11_hasFrame_13 hQ rfl h6 (Nat.le_of_ble_eq_true rfl) (Nat.le_of_ble_eq_true rfl)
def sp_X11_requireFrame (fu : Nat) (E : Ev) (S : St) (a0 : Nat) (x1 : Int32) : Option ((String ⊕ Unit) × St) :=
  (sp_X11_requireIndex fu E S a0 x1).bind fun u1 => xb u1 fun q2 S3 =>
  (sp_X4_contains fu E S3 (E.2 a0 5) x1).bind fun u5 =>
  if u5.1 = 0 then (
    some (.inl "java/lang/IllegalStateException", u5.2)
  ) else (
    some (.inr (), u5.2)
  )
set_option maxRecDepth 100000 in
theorem k_X11_requireFrame {l : Launch} (fu : Nat) {E : Ev} (hE : WE E) {a0 : Nat} (ha0 : E.1 a0 = some (0, 9, 0)) {x1 : Int32} {S : St} {t : ((String ⊕ Unit) × St)} (h : sp_X11_requireFrame fu E S a0 x1 = some t) : Ct l mX11_requireFrame [.ref a0, .int x1] (hp E S) (PoXV E t) (PxX E t) := by
  refine Ct.of (by decide) rfl (Nat.le_of_ble_eq_true rfl) (fun X _ _ hQ => ?_)
  refine (?_ : K mX11_requireFrame X E 0 [(0, .ref a0), (1, .int x1)] [] S 0 0 (sp_X11_requireFrame fu E S a0 x1) t) h
  unfold sp_X11_requireFrame
  refine K_aload_n dX11_requireFrame_0 rfl rfl ?_
  refine K_iload_n dX11_requireFrame_1 rfl rfl ?_
  refine K_bind (fun u1 hu1 => ?_)
  refine K_callXV (As := [.int x1]) (k_X11_requireIndex fu hE ha0 hu1) hQ rfl dX11_requireFrame_2 v_X11_307 ha0 rfl rfl rfl rfl (Nat.le_of_ble_eq_true rfl) ⟨Nat.le_of_ble_eq_true rfl, Nat.le_of_ble_eq_true rfl, Nat.le_of_ble_eq_true rfl, Nat.le_of_ble_eq_true rfl⟩ (fun q2 S3 => ?_)
  refine K_aload_n dX11_requireFrame_5 rfl rfl ?_
  refine K_getC hE dX11_requireFrame_6 f_X11_47_9 ha0 rfl rfl (fun h4 => ?_)
  refine K_iload_n dX11_requireFrame_9 rfl rfl ?_
  refine K_bind (fun u5 hu5 => ?_)
  refine K_callVI (As := [.int x1]) (k_X4_contains fu hE h4 hu5) dX11_requireFrame_10 v_X11_260 h4 rfl rfl rfl rfl (Nat.le_of_ble_eq_true rfl) ⟨Nat.le_of_ble_eq_true rfl, Nat.le_of_ble_eq_true rfl, Nat.le_of_ble_eq_true rfl, Nat.le_of_ble_eq_true rfl⟩ ?_
  refine K_if_ne (tgt := 27) dX11_requireFrame_13 (by decide) (fun c6 => ?_) (fun c6 => ?_)
  · exact K_xvret dX11_requireFrame_27 hQ rfl (Nat.le_of_ble_eq_true rfl) (Nat.le_of_ble_eq_true rfl)
  · exact K_throwW t_X11_90_320 hQ rfl dX11_requireFrame_16 dX11_requireFrame_19 dX11_requireFrame_20 dX11_requireFrame_23 dX11_requireFrame_26 (Nat.le_of_ble_eq_true rfl) (Nat.le_of_ble_eq_true rfl) (Nat.le_of_ble_eq_true rfl) (Nat.le_of_ble_eq_true rfl)
def sp_X11_stackHeight (fu : Nat) (E : Ev) (S : St) (a0 : Nat) (x1 : Int32) : Option ((String ⊕ Int32) × St) :=
  (sp_X11_requireFrame fu E S a0 x1).bind fun u1 => xb u1 fun q2 S3 =>
  if inb x1 100 = true then
    (
    some ((.inr (S3.1 (E.2 (E.2 (E.2 a0 5) 0) x1.toNatClampNeg) 2)), S3)
    )
  else none
set_option maxRecDepth 100000 in
theorem k_X11_stackHeight {l : Launch} (fu : Nat) {E : Ev} (hE : WE E) {a0 : Nat} (ha0 : E.1 a0 = some (0, 9, 0)) {x1 : Int32} {S : St} {t : ((String ⊕ Int32) × St)} (h : sp_X11_stackHeight fu E S a0 x1 = some t) : Ct l mX11_stackHeight [.ref a0, .int x1] (hp E S) (PoXI E t) (PxX E t) := by
  refine Ct.of (by decide) rfl (Nat.le_of_ble_eq_true rfl) (fun X _ _ hQ => ?_)
  refine (?_ : K mX11_stackHeight X E 0 [(0, .ref a0), (1, .int x1)] [] S 0 0 (sp_X11_stackHeight fu E S a0 x1) t) h
  unfold sp_X11_stackHeight
  refine K_aload_n dX11_stackHeight_0 rfl rfl ?_
  refine K_iload_n dX11_stackHeight_1 rfl rfl ?_
  refine K_bind (fun u1 hu1 => ?_)
  refine K_callXV (As := [.int x1]) (k_X11_requireFrame fu hE ha0 hu1) hQ rfl dX11_stackHeight_2 v_X11_310 ha0 rfl rfl rfl rfl (Nat.le_of_ble_eq_true rfl) ⟨Nat.le_of_ble_eq_true rfl, Nat.le_of_ble_eq_true rfl, Nat.le_of_ble_eq_true rfl, Nat.le_of_ble_eq_true rfl⟩ (fun q2 S3 => ?_)
  refine K_aload_n dX11_stackHeight_5 rfl rfl ?_
  refine K_getC hE dX11_stackHeight_6 f_X11_47_9 ha0 rfl rfl (fun h4 => ?_)
  refine K_getC hE dX11_stackHeight_9 f_X11_285_3 h4 rfl rfl (fun h5 => ?_)
  refine K_iload_n dX11_stackHeight_12 rfl rfl ?_
  refine K_chk (fun h6 => ?_)
  refine K_qald hE dX11_stackHeight_13 h5 h6 (fun h7 => ?_)
  refine K_getI dX11_stackHeight_14 f_X11_216_2 h7 rfl ?_
  exact K_xiret dX11_stackHeight_17 hQ rfl (Nat.le_of_ble_eq_true rfl) (Nat.le_of_ble_eq_true rfl)
def bd_X11_addFrame_54 (fu : Nat) (E : Ev) (a3 : Nat) (rc54 : Int64 → Int32 → St → Option (Int64 × St)) (x4 : Int64) (x6 : Int32) (S : St) : Option (Int64 × St) :=
  if (S.1 a3 2) ≤ x6 then (
    if (S.1 a3 3) = 0 then (
      some ((x4 * 31) + ((0 : Int32).toInt64), S)
    ) else (
      some ((x4 * 31) + ((1 : Int32).toInt64), S)
    )
  ) else (
    if inb x6 12 = true then
      (
      bnd ((x4 * 31) + ((S.2.1 (E.2 a3 1) x6.toNatClampNeg).toInt64)) fun v6 =>
      rc54 v6 (x6 + 1) S
      )
    else none
  )
def lp_X11_addFrame_54 (fu : Nat) (E : Ev) (a3 : Nat) : Nat → Int64 → Int32 → St → Option (Int64 × St)
  | 0, _, _, _ => none
  | f + 1, x4, x6, S => bd_X11_addFrame_54 fu E a3 (lp_X11_addFrame_54 fu E a3 f) x4 x6 S
set_option maxRecDepth 100000 in
theorem kl_X11_addFrame_54 {X : Cx} {E : Ev} {t : (Int64 × St)} {a3 : Nat} (hQ : EndR mX11_addFrame X (PoL E t)) (hE : WE E) (fu : Nat) (ha3 : E.1 a3 = some (0, 2, 0)) : ∀ (f : Nat) (x4 : Int64) (x6 : Int32) (S : St), K mX11_addFrame X E 54 [(3, .ref a3), (4, .long x4), (6, .int x6)] [] S 0 0 (lp_X11_addFrame_54 fu E a3 f x4 x6 S) t := by
  intro f
  induction f with
  | zero => intro x4 x6 S; exact K_none
  | succ f hrc54 =>
    intro x4 x6 S
    show K _ _ _ _ _ _ _ _ _ (bd_X11_addFrame_54 fu E a3 (lp_X11_addFrame_54 fu E a3 f) x4 x6 S) t
    unfold bd_X11_addFrame_54
    refine K_iload dX11_addFrame_54 rfl ?_
    refine K_aload_n dX11_addFrame_56 rfl rfl ?_
    refine K_getI dX11_addFrame_57 f_X11_216_2 ha3 rfl ?_
    refine K_icmp_ge (tgt := 86) dX11_addFrame_60 (by decide) (fun c7 => ?_) (fun c7 => ?_)
    · refine K_lload dX11_addFrame_86 rfl ?_
      refine K_ldc2 (v := 31) dX11_addFrame_88 c2_X11_324 ?_
      refine K_lmul dX11_addFrame_91 ?_
      refine K_aload_n dX11_addFrame_92 rfl rfl ?_
      refine K_getI dX11_addFrame_93 f_X11_241_2 ha3 rfl ?_
      refine K_if_eq (tgt := 103) dX11_addFrame_96 (by decide) (fun c3 => ?_) (fun c3 => ?_)
      · refine K_iconst (v := 0) dX11_addFrame_103 (by decide) ?_
        refine K_i2l dX11_addFrame_104 ?_
        refine K_ladd dX11_addFrame_105 ?_
        exact K_lret dX11_addFrame_106 hQ rfl (Nat.le_of_ble_eq_true rfl) (Nat.le_of_ble_eq_true rfl)
      · refine K_iconst (v := 1) dX11_addFrame_99 (by decide) ?_
        refine K_goto (tgt := 104) dX11_addFrame_100 (by decide) ?_
        refine K_i2l dX11_addFrame_104 ?_
        refine K_ladd dX11_addFrame_105 ?_
        exact K_lret dX11_addFrame_106 hQ rfl (Nat.le_of_ble_eq_true rfl) (Nat.le_of_ble_eq_true rfl)
    · refine K_lload dX11_addFrame_63 rfl ?_
      refine K_ldc2 (v := 31) dX11_addFrame_65 c2_X11_324 ?_
      refine K_lmul dX11_addFrame_68 ?_
      refine K_aload_n dX11_addFrame_69 rfl rfl ?_
      refine K_getC hE dX11_addFrame_70 f_X11_221_2 ha3 rfl rfl (fun h4 => ?_)
      refine K_iload dX11_addFrame_73 rfl ?_
      refine K_chk (fun h5 => ?_)
      refine K_iald dX11_addFrame_75 h4 h5 ?_
      refine K_i2l dX11_addFrame_76 ?_
      refine K_ladd dX11_addFrame_77 ?_
      refine K_nmL (fun v6 => ?_)
      refine K_lstore (ls' := [(4, _), (3, _), (6, _)]) dX11_addFrame_78 (by decide) rfl ?_
      refine K_iinc (v := (x6 + 1)) (ls' := [(4, _), (3, _), (6, _)]) dX11_addFrame_80 rfl rfl (by decide) rfl ?_
      refine K_goto (tgt := 54) dX11_addFrame_83 (by decide) ?_
      refine K.keep [3, 4, 6] ?_
      exact hrc54 v6 (x6 + 1) S
def bd_X11_addFrame_16 (fu : Nat) (E : Ev) (a0 a3 : Nat) (rc16 : Int64 → Int32 → St → Option (Int64 × St)) (x4 : Int64) (x6 : Int32) (S : St) : Option (Int64 × St) :=
  if (S.1 (E.2 a0 2) 3) ≤ x6 then (
    lp_X11_addFrame_54 fu E a3 fu x4 0 S
  ) else (
    if inb x6 12 = true then
      (
      bnd ((x4 * 31) + ((S.2.1 (E.2 a3 0) x6.toNatClampNeg).toInt64)) fun v10 =>
      rc16 v10 (x6 + 1) S
      )
    else none
  )
def lp_X11_addFrame_16 (fu : Nat) (E : Ev) (a0 a3 : Nat) : Nat → Int64 → Int32 → St → Option (Int64 × St)
  | 0, _, _, _ => none
  | f + 1, x4, x6, S => bd_X11_addFrame_16 fu E a0 a3 (lp_X11_addFrame_16 fu E a0 a3 f) x4 x6 S
set_option maxRecDepth 100000 in
theorem kl_X11_addFrame_16 {X : Cx} {E : Ev} {t : (Int64 × St)} {a0 a3 : Nat} (hQ : EndR mX11_addFrame X (PoL E t)) (hE : WE E) (fu : Nat) (ha0 : E.1 a0 = some (0, 9, 0)) (ha3 : E.1 a3 = some (0, 2, 0)) : ∀ (f : Nat) (x4 : Int64) (x6 : Int32) (S : St), K mX11_addFrame X E 16 [(0, .ref a0), (3, .ref a3), (4, .long x4), (6, .int x6)] [] S 0 0 (lp_X11_addFrame_16 fu E a0 a3 f x4 x6 S) t := by
  intro f
  induction f with
  | zero => intro x4 x6 S; exact K_none
  | succ f hrc16 =>
    intro x4 x6 S
    show K _ _ _ _ _ _ _ _ _ (bd_X11_addFrame_16 fu E a0 a3 (lp_X11_addFrame_16 fu E a0 a3 f) x4 x6 S) t
    unfold bd_X11_addFrame_16
    refine K_iload dX11_addFrame_16 rfl ?_
    refine K_aload_n dX11_addFrame_18 rfl rfl ?_
    refine K_getC hE dX11_addFrame_19 f_X11_26_9 ha0 rfl rfl (fun h2 => ?_)
    refine K_getI dX11_addFrame_22 f_X11_230_0 h2 rfl ?_
    refine K_icmp_ge (tgt := 51) dX11_addFrame_25 (by decide) (fun c11 => ?_) (fun c11 => ?_)
    · refine K_iconst (v := 0) dX11_addFrame_51 (by decide) ?_
      refine K_istore (ls' := [(0, _), (3, _), (4, _), (6, _)]) dX11_addFrame_52 (by decide) rfl ?_
      refine K.keep [3, 4, 6] ?_
      exact kl_X11_addFrame_54 hQ hE fu ha3 fu x4 0 S
    · refine K_lload dX11_addFrame_28 rfl ?_
      refine K_ldc2 (v := 31) dX11_addFrame_30 c2_X11_324 ?_
      refine K_lmul dX11_addFrame_33 ?_
      refine K_aload_n dX11_addFrame_34 rfl rfl ?_
      refine K_getC hE dX11_addFrame_35 f_X11_213_2 ha3 rfl rfl (fun h8 => ?_)
      refine K_iload dX11_addFrame_38 rfl ?_
      refine K_chk (fun h9 => ?_)
      refine K_iald dX11_addFrame_40 h8 h9 ?_
      refine K_i2l dX11_addFrame_41 ?_
      refine K_ladd dX11_addFrame_42 ?_
      refine K_nmL (fun v10 => ?_)
      refine K_lstore (ls' := [(4, _), (0, _), (3, _), (6, _)]) dX11_addFrame_43 (by decide) rfl ?_
      refine K_iinc (v := (x6 + 1)) (ls' := [(4, _), (0, _), (3, _), (6, _)]) dX11_addFrame_45 rfl rfl (by decide) rfl ?_
      refine K_goto (tgt := 16) dX11_addFrame_48 (by decide) ?_
      refine K.keep [0, 3, 4, 6] ?_
      exact hrc16 v10 (x6 + 1) S
def sp_X11_addFrame (fu : Nat) (E : Ev) (S : St) (a0 : Nat) (x1 : Int64) (a3 : Nat) : Option (Int64 × St) :=
  bnd ((x1 * 31) + ((S.1 a3 2).toInt64)) fun v1 =>
  lp_X11_addFrame_16 fu E a0 a3 fu v1 0 S
set_option maxRecDepth 100000 in
theorem k_X11_addFrame {l : Launch} (fu : Nat) {E : Ev} (hE : WE E) {a0 : Nat} (ha0 : E.1 a0 = some (0, 9, 0)) {a3 : Nat} (ha3 : E.1 a3 = some (0, 2, 0)) {x1 : Int64} {S : St} {t : (Int64 × St)} (h : sp_X11_addFrame fu E S a0 x1 a3 = some t) : Cn l mX11_addFrame [.ref a0, .long x1, .ref a3] (hp E S) (PoL E t) := by
  refine Cn.of (by decide) rfl (Nat.le_of_ble_eq_true rfl) (fun X _ _ hQ => ?_)
  refine (?_ : K mX11_addFrame X E 0 [(0, .ref a0), (1, .long x1), (3, .ref a3)] [] S 0 0 (sp_X11_addFrame fu E S a0 x1 a3) t) h
  unfold sp_X11_addFrame
  refine K_lload_n dX11_addFrame_0 rfl rfl ?_
  refine K_ldc2 (v := 31) dX11_addFrame_1 c2_X11_324 ?_
  refine K_lmul dX11_addFrame_4 ?_
  refine K_aload_n dX11_addFrame_5 rfl rfl ?_
  refine K_getI dX11_addFrame_6 f_X11_216_2 ha3 rfl ?_
  refine K_i2l dX11_addFrame_9 ?_
  refine K_ladd dX11_addFrame_10 ?_
  refine K_nmL (fun v1 => ?_)
  refine K_lstore (ls' := [(4, _), (0, _), (1, _), (3, _)]) dX11_addFrame_11 (by decide) rfl ?_
  refine K_iconst (v := 0) dX11_addFrame_13 (by decide) ?_
  refine K_istore (ls' := [(4, _), (0, _), (1, _), (3, _), (6, _)]) dX11_addFrame_14 (by decide) rfl ?_
  refine K.keep [0, 3, 4, 6] ?_
  exact kl_X11_addFrame_16 hQ hE fu ha0 ha3 fu v1 0 S
def bd_X11_digest_96 (fu : Nat) (E : Ev) (a0 : Nat) (rc96 : Int64 → Int32 → St → Option (Int64 × St)) (x1 : Int64) (x3 : Int32) (S : St) : Option (Int64 × St) :=
  if (S.1 (E.2 a0 2) 6) ≤ x3 then (
    some (x1, S)
  ) else (
    (sp_X4_contains fu E S (E.2 a0 5) x3).bind fun u15 =>
    if u15.1 = 0 then (
      bnd (x1 * 31) fun v16 =>
      rc96 v16 (x3 + 1) u15.2
    ) else (
      if inb x3 100 = true then
        (
        (sp_X11_addFrame fu E u15.2 a0 ((x1 * 31) + 1) (E.2 (E.2 (E.2 a0 5) 0) x3.toNatClampNeg)).bind fun u21 =>
        rc96 u21.1 (x3 + 1) u21.2
        )
      else none
    )
  )
def lp_X11_digest_96 (fu : Nat) (E : Ev) (a0 : Nat) : Nat → Int64 → Int32 → St → Option (Int64 × St)
  | 0, _, _, _ => none
  | f + 1, x1, x3, S => bd_X11_digest_96 fu E a0 (lp_X11_digest_96 fu E a0 f) x1 x3 S
set_option maxRecDepth 100000 in
theorem kl_X11_digest_96 {X : Cx} {E : Ev} {t : (Int64 × St)} {a0 : Nat} (hQ : EndR mX11_digest X (PoL E t)) (hE : WE E) (fu : Nat) (ha0 : E.1 a0 = some (0, 9, 0)) : ∀ (f : Nat) (x1 : Int64) (x3 : Int32) (S : St), K mX11_digest X E 96 [(0, .ref a0), (1, .long x1), (3, .int x3)] [] S 0 0 (lp_X11_digest_96 fu E a0 f x1 x3 S) t := by
  intro f
  induction f with
  | zero => intro x1 x3 S; exact K_none
  | succ f hrc96 =>
    intro x1 x3 S
    show K _ _ _ _ _ _ _ _ _ (bd_X11_digest_96 fu E a0 (lp_X11_digest_96 fu E a0 f) x1 x3 S) t
    unfold bd_X11_digest_96
    refine K_iload_n dX11_digest_96 rfl rfl ?_
    refine K_aload_n dX11_digest_97 rfl rfl ?_
    refine K_getC hE dX11_digest_98 f_X11_26_9 ha0 rfl rfl (fun h13 => ?_)
    refine K_getI dX11_digest_101 f_X11_194_0 h13 rfl ?_
    refine K_icmp_ge (tgt := 154) dX11_digest_104 (by decide) (fun c23 => ?_) (fun c23 => ?_)
    · refine K_lload_n dX11_digest_154 rfl rfl ?_
      exact K_lret dX11_digest_155 hQ rfl (Nat.le_of_ble_eq_true rfl) (Nat.le_of_ble_eq_true rfl)
    · refine K_aload_n dX11_digest_107 rfl rfl ?_
      refine K_getC hE dX11_digest_108 f_X11_47_9 ha0 rfl rfl (fun h14 => ?_)
      refine K_iload_n dX11_digest_111 rfl rfl ?_
      refine K_bind (fun u15 hu15 => ?_)
      refine K_callVI (As := [.int x3]) (k_X4_contains fu hE h14 hu15) dX11_digest_112 v_X11_260 h14 rfl rfl rfl rfl (Nat.le_of_ble_eq_true rfl) ⟨Nat.le_of_ble_eq_true rfl, Nat.le_of_ble_eq_true rfl, Nat.le_of_ble_eq_true rfl, Nat.le_of_ble_eq_true rfl⟩ ?_
      refine K_if_eq (tgt := 142) dX11_digest_115 (by decide) (fun c22 => ?_) (fun c22 => ?_)
      · refine K_lload_n dX11_digest_142 rfl rfl ?_
        refine K_ldc2 (v := 31) dX11_digest_143 c2_X11_324 ?_
        refine K_lmul dX11_digest_146 ?_
        refine K_nmL (fun v16 => ?_)
        refine K_lstore_n (ls' := [(1, _), (0, _), (3, _)]) dX11_digest_147 rfl (by decide) rfl ?_
        refine K_iinc (v := (x3 + 1)) (ls' := [(1, _), (0, _), (3, _)]) dX11_digest_148 rfl rfl (by decide) rfl ?_
        refine K_goto (tgt := 96) dX11_digest_151 (by decide) ?_
        refine K.keep [0, 1, 3] ?_
        exact hrc96 v16 (x3 + 1) u15.2
      · refine K_aload_n dX11_digest_118 rfl rfl ?_
        refine K_lload_n dX11_digest_119 rfl rfl ?_
        refine K_ldc2 (v := 31) dX11_digest_120 c2_X11_324 ?_
        refine K_lmul dX11_digest_123 ?_
        refine K_lconst (v := 1) dX11_digest_124 rfl ?_
        refine K_ladd dX11_digest_125 ?_
        refine K_aload_n dX11_digest_126 rfl rfl ?_
        refine K_getC hE dX11_digest_127 f_X11_47_9 ha0 rfl rfl (fun h17 => ?_)
        refine K_getC hE dX11_digest_130 f_X11_285_3 h17 rfl rfl (fun h18 => ?_)
        refine K_iload_n dX11_digest_133 rfl rfl ?_
        refine K_chk (fun h19 => ?_)
        refine K_qald hE dX11_digest_134 h18 h19 (fun h20 => ?_)
        refine K_bind (fun u21 hu21 => ?_)
        refine K_callVL (As := [.long ((x1 * 31) + 1), .ref (E.2 (E.2 (E.2 a0 5) 0) x3.toNatClampNeg)]) (k_X11_addFrame fu hE ha0 h20 hu21) dX11_digest_135 v_X11_326 ha0 rfl rfl rfl rfl (Nat.le_of_ble_eq_true rfl) ⟨Nat.le_of_ble_eq_true rfl, Nat.le_of_ble_eq_true rfl, Nat.le_of_ble_eq_true rfl, Nat.le_of_ble_eq_true rfl⟩ ?_
        refine K_lstore_n (ls' := [(1, _), (0, _), (3, _)]) dX11_digest_138 rfl (by decide) rfl ?_
        refine K_goto (tgt := 148) dX11_digest_139 (by decide) ?_
        refine K_iinc (v := (x3 + 1)) (ls' := [(1, _), (0, _), (3, _)]) dX11_digest_148 rfl rfl (by decide) rfl ?_
        refine K_goto (tgt := 96) dX11_digest_151 (by decide) ?_
        refine K.keep [0, 1, 3] ?_
        exact hrc96 u21.1 (x3 + 1) u21.2
def sp_X11_digest (fu : Nat) (E : Ev) (S : St) (a0 : Nat) : Option (Int64 × St) :=
  bnd ((37 * 31) + ((S.1 (E.2 a0 0) 2).toInt64)) fun v2 =>
  bnd ((v2 * 31) + ((S.1 (E.2 a0 1) 2).toInt64)) fun v4 =>
  bnd ((v4 * 31) + ((S.1 (E.2 a0 1) 9).toInt64)) fun v6 =>
  bnd ((v6 * 31) + ((S.1 (E.2 a0 2) 6).toInt64)) fun v8 =>
  bnd ((v8 * 31) + ((S.1 (E.2 a0 2) 11).toInt64)) fun v10 =>
  bnd ((v10 * 31) + ((S.1 (E.2 a0 6) 2).toInt64)) fun v12 =>
  lp_X11_digest_96 fu E a0 fu v12 0 S
set_option maxRecDepth 100000 in
theorem k_X11_digest {l : Launch} (fu : Nat) {E : Ev} (hE : WE E) {a0 : Nat} (ha0 : E.1 a0 = some (0, 9, 0)) {S : St} {t : (Int64 × St)} (h : sp_X11_digest fu E S a0 = some t) : Cn l mX11_digest [.ref a0] (hp E S) (PoL E t) := by
  refine Cn.of (by decide) rfl (Nat.le_of_ble_eq_true rfl) (fun X _ _ hQ => ?_)
  refine (?_ : K mX11_digest X E 0 [(0, .ref a0)] [] S 0 0 (sp_X11_digest fu E S a0) t) h
  unfold sp_X11_digest
  refine K_ldc2 (v := 37) dX11_digest_0 c2_X11_322 ?_
  refine K_lstore_n (ls' := [(1, _), (0, _)]) dX11_digest_3 rfl (by decide) rfl ?_
  refine K_lload_n dX11_digest_4 rfl rfl ?_
  refine K_ldc2 (v := 31) dX11_digest_5 c2_X11_324 ?_
  refine K_lmul dX11_digest_8 ?_
  refine K_aload_n dX11_digest_9 rfl rfl ?_
  refine K_getC hE dX11_digest_10 f_X11_10_9 ha0 rfl rfl (fun h1 => ?_)
  refine K_getI dX11_digest_13 f_X11_87_8 h1 rfl ?_
  refine K_i2l dX11_digest_16 ?_
  refine K_ladd dX11_digest_17 ?_
  refine K_nmL (fun v2 => ?_)
  refine K_lstore_n (ls' := [(1, _), (0, _)]) dX11_digest_18 rfl (by decide) rfl ?_
  refine K_lload_n dX11_digest_19 rfl rfl ?_
  refine K_ldc2 (v := 31) dX11_digest_20 c2_X11_324 ?_
  refine K_lmul dX11_digest_23 ?_
  refine K_aload_n dX11_digest_24 rfl rfl ?_
  refine K_getC hE dX11_digest_25 f_X11_19_9 ha0 rfl rfl (fun h3 => ?_)
  refine K_getI dX11_digest_28 f_X11_104_7 h3 rfl ?_
  refine K_i2l dX11_digest_31 ?_
  refine K_ladd dX11_digest_32 ?_
  refine K_nmL (fun v4 => ?_)
  refine K_lstore_n (ls' := [(1, _), (0, _)]) dX11_digest_33 rfl (by decide) rfl ?_
  refine K_lload_n dX11_digest_34 rfl rfl ?_
  refine K_ldc2 (v := 31) dX11_digest_35 c2_X11_324 ?_
  refine K_lmul dX11_digest_38 ?_
  refine K_aload_n dX11_digest_39 rfl rfl ?_
  refine K_getC hE dX11_digest_40 f_X11_19_9 ha0 rfl rfl (fun h5 => ?_)
  refine K_getI dX11_digest_43 f_X11_136_7 h5 rfl ?_
  refine K_i2l dX11_digest_46 ?_
  refine K_ladd dX11_digest_47 ?_
  refine K_nmL (fun v6 => ?_)
  refine K_lstore_n (ls' := [(1, _), (0, _)]) dX11_digest_48 rfl (by decide) rfl ?_
  refine K_lload_n dX11_digest_49 rfl rfl ?_
  refine K_ldc2 (v := 31) dX11_digest_50 c2_X11_324 ?_
  refine K_lmul dX11_digest_53 ?_
  refine K_aload_n dX11_digest_54 rfl rfl ?_
  refine K_getC hE dX11_digest_55 f_X11_26_9 ha0 rfl rfl (fun h7 => ?_)
  refine K_getI dX11_digest_58 f_X11_194_0 h7 rfl ?_
  refine K_i2l dX11_digest_61 ?_
  refine K_ladd dX11_digest_62 ?_
  refine K_nmL (fun v8 => ?_)
  refine K_lstore_n (ls' := [(1, _), (0, _)]) dX11_digest_63 rfl (by decide) rfl ?_
  refine K_lload_n dX11_digest_64 rfl rfl ?_
  refine K_ldc2 (v := 31) dX11_digest_65 c2_X11_324 ?_
  refine K_lmul dX11_digest_68 ?_
  refine K_aload_n dX11_digest_69 rfl rfl ?_
  refine K_getC hE dX11_digest_70 f_X11_26_9 ha0 rfl rfl (fun h9 => ?_)
  refine K_getI dX11_digest_73 f_X11_202_0 h9 rfl ?_
  refine K_i2l dX11_digest_76 ?_
  refine K_ladd dX11_digest_77 ?_
  refine K_nmL (fun v10 => ?_)
  refine K_lstore_n (ls' := [(1, _), (0, _)]) dX11_digest_78 rfl (by decide) rfl ?_
  refine K_lload_n dX11_digest_79 rfl rfl ?_
  refine K_ldc2 (v := 31) dX11_digest_80 c2_X11_324 ?_
  refine K_lmul dX11_digest_83 ?_
  refine K_aload_n dX11_digest_84 rfl rfl ?_
  refine K_getC hE dX11_digest_85 f_X11_51_9 ha0 rfl rfl (fun h11 => ?_)
  refine K_getI dX11_digest_88 f_X11_248_3 h11 rfl ?_
  refine K_i2l dX11_digest_91 ?_
  refine K_ladd dX11_digest_92 ?_
  refine K_nmL (fun v12 => ?_)
  refine K_lstore_n (ls' := [(1, _), (0, _)]) dX11_digest_93 rfl (by decide) rfl ?_
  refine K_iconst (v := 0) dX11_digest_94 (by decide) ?_
  refine K_istore_n (ls' := [(1, _), (0, _), (3, _)]) dX11_digest_95 rfl (by decide) rfl ?_
  refine K.keep [0, 1, 3] ?_
  exact kl_X11_digest_96 hQ hE fu ha0 fu v12 0 S
