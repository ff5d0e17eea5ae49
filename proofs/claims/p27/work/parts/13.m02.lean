def jb_X7_initialize_121 (fu : Nat) (E : Ev) (a0 : Nat) (x3 : Int32) (x4 : Int32) (y0 : Int32) (y1 : Int32) (S : St) : Option St :=
  bnd (y0 * y1) fun v8 =>
  if E.1 (S.2.2.1 a0 3) = some (0, 2, 0) then
    (
    (sp_X3_replaceLocals fu E S (S.2.2.1 a0 3) x3 v8).bind fun u10 =>
    if E.1 (u10.2.2.1 a0 3) = some (0, 2, 0) then
      (
      (sp_X3_replaceStack fu E u10 (u10.2.2.1 a0 3) x3 v8).bind fun u12 =>
      if E.1 (u12.2.2.1 a0 3) = some (0, 2, 0) then
        (
        if E.1 (u12.2.2.1 a0 3) = some (0, 2, 0) then
          (
          if (u12.1 (u12.2.2.1 a0 3) 3) = 0 then (
            bnd (sF u12 (u12.2.2.1 a0 3) 3 0) fun S15 =>
            some S15
          ) else (
            if x4 = 0 then (
              bnd (sF u12 (u12.2.2.1 a0 3) 3 1) fun S17 =>
              some S17
            ) else (
              bnd (sF u12 (u12.2.2.1 a0 3) 3 0) fun S16 =>
              some S16
            )
          )
          )
        else none
        )
      else none
      )
    else none
    )
  else none
set_option maxRecDepth 100000 in
theorem kj_X7_initialize_121 {X : Cx} {E : Ev} {t : St} {a0 : Nat} (hQ : EndR mX7_initialize X (PoV E t)) (hE : WE E) (fu : Nat) (ha0 : E.1 a0 = some (0, 6, 0)) (x3 : Int32) (x4 : Int32) (y0 : Int32) (y1 : Int32) (S : St) : K mX7_initialize X E 121 [(0, .ref a0), (3, .int x3), (4, .int x4)] [.int y1, .int y0] S 0 0 (jb_X7_initialize_121 fu E a0 x3 x4 y0 y1 S) t := by
  unfold jb_X7_initialize_121
  refine K_imul dX7_initialize_121 ?_
  refine K_nmI (fun v8 => ?_)
  refine K_istore (ls' := [(0, _), (3, _), (4, _), (6, _)]) dX7_initialize_122 (by decide) rfl ?_
  refine K_aload_n dX7_initialize_124 rfl rfl ?_
  refine K_ite (fun h9 => ?_) (fun _ => K_none)
  refine K_getM hE dX7_initialize_125 f_X7_26_6 ha0 rfl h9 ?_
  refine K_iload_n dX7_initialize_128 rfl rfl ?_
  refine K_iload dX7_initialize_129 rfl ?_
  refine K_bind (fun u10 hu10 => ?_)
  refine K_callVV (As := [.int x3, .int v8]) (k_X3_replaceLocals fu hE h9 hu10) dX7_initialize_131 v_X7_152 h9 rfl rfl rfl rfl (Nat.le_of_ble_eq_true rfl) ⟨Nat.le_of_ble_eq_true rfl, Nat.le_of_ble_eq_true rfl, Nat.le_of_ble_eq_true rfl, Nat.le_of_ble_eq_true rfl⟩ ?_
  refine K_aload_n dX7_initialize_134 rfl rfl ?_
  refine K_ite (fun h11 => ?_) (fun _ => K_none)
  refine K_getM hE dX7_initialize_135 f_X7_26_6 ha0 rfl h11 ?_
  refine K_iload_n dX7_initialize_138 rfl rfl ?_
  refine K_iload dX7_initialize_139 rfl ?_
  refine K_bind (fun u12 hu12 => ?_)
  refine K_callVV (As := [.int x3, .int v8]) (k_X3_replaceStack fu hE h11 hu12) dX7_initialize_141 v_X7_174 h11 rfl rfl rfl rfl (Nat.le_of_ble_eq_true rfl) ⟨Nat.le_of_ble_eq_true rfl, Nat.le_of_ble_eq_true rfl, Nat.le_of_ble_eq_true rfl, Nat.le_of_ble_eq_true rfl⟩ ?_
  refine K_aload_n dX7_initialize_144 rfl rfl ?_
  refine K_ite (fun h13 => ?_) (fun _ => K_none)
  refine K_getM hE dX7_initialize_145 f_X7_26_6 ha0 rfl h13 ?_
  refine K_aload_n dX7_initialize_148 rfl rfl ?_
  refine K_ite (fun h14 => ?_) (fun _ => K_none)
  refine K_getM hE dX7_initialize_149 f_X7_26_6 ha0 rfl h14 ?_
  refine K_getI dX7_initialize_152 f_X7_130_2 h14 rfl ?_
  refine K_if_eq (tgt := 167) dX7_initialize_155 (by decide) (fun c19 => ?_) (fun c19 => ?_)
  · refine K_iconst (v := 0) dX7_initialize_167 (by decide) ?_
    refine K_putZ dX7_initialize_168 p_X7_130_2 h13 rfl rfl ?_
    refine K_nmS (fun S15 => ?_)
    exact K_vret dX7_initialize_171 hQ rfl (Nat.le_of_ble_eq_true rfl) (Nat.le_of_ble_eq_true rfl)
  · refine K_iload dX7_initialize_158 rfl ?_
    refine K_if_ne (tgt := 167) dX7_initialize_160 (by decide) (fun c18 => ?_) (fun c18 => ?_)
    · refine K_iconst (v := 0) dX7_initialize_167 (by decide) ?_
      refine K_putZ dX7_initialize_168 p_X7_130_2 h13 rfl rfl ?_
      refine K_nmS (fun S16 => ?_)
      exact K_vret dX7_initialize_171 hQ rfl (Nat.le_of_ble_eq_true rfl) (Nat.le_of_ble_eq_true rfl)
    · refine K_iconst (v := 1) dX7_initialize_163 (by decide) ?_
      refine K_goto (tgt := 168) dX7_initialize_164 (by decide) ?_
      refine K_putZ dX7_initialize_168 p_X7_130_2 h13 rfl rfl ?_
      refine K_nmS (fun S17 => ?_)
      exact K_vret dX7_initialize_171 hQ rfl (Nat.le_of_ble_eq_true rfl) (Nat.le_of_ble_eq_true rfl)
def jb_X7_initialize_95 (fu : Nat) (E : Ev) (a0 : Nat) (x1 : Int32) (x2 : Int32) (x3 : Int32) (x4 : Int32) (x5 : Int32) (S : St) : Option St :=
  (sp_X7_require fu E S a0 x5 4).bind fun u7 =>
  if (u7.1 a0 4) = 0 then (
    if x4 = 0 then (
      jb_X7_initialize_121 fu E a0 x3 x4 8 x1 u7
    ) else (
      jb_X7_initialize_121 fu E a0 x3 x4 8 x2 u7
    )
  ) else (
    some u7
  )
set_option maxRecDepth 100000 in
theorem kj_X7_initialize_95 {X : Cx} {E : Ev} {t : St} {a0 : Nat} (hQ : EndR mX7_initialize X (PoV E t)) (hE : WE E) (fu : Nat) (ha0 : E.1 a0 = some (0, 6, 0)) (x1 : Int32) (x2 : Int32) (x3 : Int32) (x4 : Int32) (x5 : Int32) (S : St) : K mX7_initialize X E 95 [(0, .ref a0), (1, .int x1), (2, .int x2), (3, .int x3), (4, .int x4), (5, .int x5)] [] S 0 0 (jb_X7_initialize_95 fu E a0 x1 x2 x3 x4 x5 S) t := by
  unfold jb_X7_initialize_95
  refine K_aload_n dX7_initialize_95 rfl rfl ?_
  refine K_iload dX7_initialize_96 rfl ?_
  refine K_iconst (v := 4) dX7_initialize_98 (by decide) ?_
  refine K_bind (fun u7 hu7 => ?_)
  refine K_callVV (As := [.int x5, .int 4]) (k_X7_require fu hE ha0 hu7) dX7_initialize_99 v_X7_80 ha0 rfl rfl rfl rfl (Nat.le_of_ble_eq_true rfl) ⟨Nat.le_of_ble_eq_true rfl, Nat.le_of_ble_eq_true rfl, Nat.le_of_ble_eq_true rfl, Nat.le_of_ble_eq_true rfl⟩ ?_
  refine K_aload_n dX7_initialize_102 rfl rfl ?_
  refine K_getI dX7_initialize_103 f_X7_30_6 ha0 rfl ?_
  refine K_if_ne (tgt := 171) dX7_initialize_106 (by decide) (fun c21 => ?_) (fun c21 => ?_)
  · exact K_vret dX7_initialize_171 hQ rfl (Nat.le_of_ble_eq_true rfl) (Nat.le_of_ble_eq_true rfl)
  · refine K_bipush (v := 8) dX7_initialize_109 (by decide) ?_
    refine K_iload dX7_initialize_111 rfl ?_
    refine K_if_eq (tgt := 120) dX7_initialize_113 (by decide) (fun c20 => ?_) (fun c20 => ?_)
    · refine K_iload_n dX7_initialize_120 rfl rfl ?_
      refine K.keep [0, 3, 4] ?_
      exact kj_X7_initialize_121 hQ hE fu ha0 x3 x4 8 x1 u7
    · refine K_iload_n dX7_initialize_116 rfl rfl ?_
      refine K_goto (tgt := 121) dX7_initialize_117 (by decide) ?_
      refine K.keep [0, 3, 4] ?_
      exact kj_X7_initialize_121 hQ hE fu ha0 x3 x4 8 x2 u7
def jb_X7_initialize_32 (fu : Nat) (E : Ev) (a0 : Nat) (x1 : Int32) (x2 : Int32) (x3 : Int32) (y0 : Int32) (S : St) : Option St :=
  if y0 = 0 then (
    if (-10) < x3 then (
      jb_X7_initialize_95 fu E a0 x1 x2 x3 y0 0 S
    ) else (
      (sp_X1_creates fu E S (E.2 a0 2) ((-10) - x3) x1).bind fun u23 =>
      if u23.1 = 0 then (
        jb_X7_initialize_95 fu E a0 x1 x2 x3 y0 0 u23.2
      ) else (
        jb_X7_initialize_95 fu E a0 x1 x2 x3 y0 1 u23.2
      )
    )
  ) else (
    if x1 = x2 then (
      jb_X7_initialize_95 fu E a0 x1 x2 x3 y0 1 S
    ) else (
      if inb x2 20 = true then
        (
        if x1 = (S.2.1 (E.2 (E.2 a0 0) 0) x2.toNatClampNeg) then (
          jb_X7_initialize_95 fu E a0 x1 x2 x3 y0 1 S
        ) else (
          jb_X7_initialize_95 fu E a0 x1 x2 x3 y0 0 S
        )
        )
      else none
    )
  )
set_option maxRecDepth 100000 in
theorem kj_X7_initialize_32 {X : Cx} {E : Ev} {t : St} {a0 : Nat} (hQ : EndR mX7_initialize X (PoV E t)) (hE : WE E) (fu : Nat) (ha0 : E.1 a0 = some (0, 6, 0)) (x1 : Int32) (x2 : Int32) (x3 : Int32) (y0 : Int32) (S : St) : K mX7_initialize X E 32 [(0, .ref a0), (1, .int x1), (2, .int x2), (3, .int x3)] [.int y0] S 0 0 (jb_X7_initialize_32 fu E a0 x1 x2 x3 y0 S) t := by
  unfold jb_X7_initialize_32
  refine K_istore (ls' := [(0, _), (1, _), (2, _), (3, _), (4, _)]) dX7_initialize_32 (by decide) rfl ?_
  refine K_iload dX7_initialize_34 rfl ?_
  refine K_if_eq (tgt := 67) dX7_initialize_36 (by decide) (fun c31 => ?_) (fun c31 => ?_)
  · refine K_iload_n dX7_initialize_67 rfl rfl ?_
    refine K_bipush (v := (-10)) dX7_initialize_68 (by decide) ?_
    refine K_icmp_gt (tgt := 92) dX7_initialize_70 (by decide) (fun c25 => ?_) (fun c25 => ?_)
    · refine K_iconst (v := 0) dX7_initialize_92 (by decide) ?_
      refine K_istore (ls' := [(0, _), (1, _), (2, _), (3, _), (4, _), (5, _)]) dX7_initialize_93 (by decide) rfl ?_
      refine K.keep [0, 1, 2, 3, 4, 5] ?_
      exact kj_X7_initialize_95 hQ hE fu ha0 x1 x2 x3 y0 0 S
    · refine K_aload_n dX7_initialize_73 rfl rfl ?_
      refine K_getC hE dX7_initialize_74 f_X7_19_6 ha0 rfl rfl (fun h22 => ?_)
      refine K_bipush (v := (-10)) dX7_initialize_77 (by decide) ?_
      refine K_iload_n dX7_initialize_79 rfl rfl ?_
      refine K_isub dX7_initialize_80 ?_
      refine K_iload_n dX7_initialize_81 rfl rfl ?_
      refine K_bind (fun u23 hu23 => ?_)
      refine K_callVI (As := [.int ((-10) - x3), .int x1]) (k_X1_creates fu hE h22 hu23) dX7_initialize_82 v_X7_171 h22 rfl rfl rfl rfl (Nat.le_of_ble_eq_true rfl) ⟨Nat.le_of_ble_eq_true rfl, Nat.le_of_ble_eq_true rfl, Nat.le_of_ble_eq_true rfl, Nat.le_of_ble_eq_true rfl⟩ ?_
      refine K_if_eq (tgt := 92) dX7_initialize_85 (by decide) (fun c24 => ?_) (fun c24 => ?_)
      · refine K_iconst (v := 0) dX7_initialize_92 (by decide) ?_
        refine K_istore (ls' := [(0, _), (1, _), (2, _), (3, _), (4, _), (5, _)]) dX7_initialize_93 (by decide) rfl ?_
        refine K.keep [0, 1, 2, 3, 4, 5] ?_
        exact kj_X7_initialize_95 hQ hE fu ha0 x1 x2 x3 y0 0 u23.2
      · refine K_iconst (v := 1) dX7_initialize_88 (by decide) ?_
        refine K_goto (tgt := 93) dX7_initialize_89 (by decide) ?_
        refine K_istore (ls' := [(0, _), (1, _), (2, _), (3, _), (4, _), (5, _)]) dX7_initialize_93 (by decide) rfl ?_
        refine K.keep [0, 1, 2, 3, 4, 5] ?_
        exact kj_X7_initialize_95 hQ hE fu ha0 x1 x2 x3 y0 1 u23.2
  · refine K_iload_n dX7_initialize_39 rfl rfl ?_
    refine K_iload_n dX7_initialize_40 rfl rfl ?_
    refine K_icmp_eq (tgt := 57) dX7_initialize_41 (by decide) (fun c30 => ?_) (fun c30 => ?_)
    · refine K_iconst (v := 1) dX7_initialize_57 (by decide) ?_
      refine K_goto (tgt := 62) dX7_initialize_58 (by decide) ?_
      refine K_istore (ls' := [(0, _), (1, _), (2, _), (3, _), (4, _), (5, _)]) dX7_initialize_62 (by decide) rfl ?_
      refine K_goto (tgt := 95) dX7_initialize_64 (by decide) ?_
      refine K.keep [0, 1, 2, 3, 4, 5] ?_
      exact kj_X7_initialize_95 hQ hE fu ha0 x1 x2 x3 y0 1 S
    · refine K_iload_n dX7_initialize_44 rfl rfl ?_
      refine K_aload_n dX7_initialize_45 rfl rfl ?_
      refine K_getC hE dX7_initialize_46 f_X7_9_6 ha0 rfl rfl (fun h26 => ?_)
      refine K_getC hE dX7_initialize_49 f_X7_168_8 h26 rfl rfl (fun h27 => ?_)
      refine K_iload_n dX7_initialize_52 rfl rfl ?_
      refine K_chk (fun h28 => ?_)
      refine K_iald dX7_initialize_53 h27 h28 ?_
      refine K_icmp_ne (tgt := 61) dX7_initialize_54 (by decide) (fun c29 => ?_) (fun c29 => ?_)
      · refine K_iconst (v := 0) dX7_initialize_61 (by decide) ?_
        refine K_istore (ls' := [(0, _), (1, _), (2, _), (3, _), (4, _), (5, _)]) dX7_initialize_62 (by decide) rfl ?_
        refine K_goto (tgt := 95) dX7_initialize_64 (by decide) ?_
        refine K.keep [0, 1, 2, 3, 4, 5] ?_
        exact kj_X7_initialize_95 hQ hE fu ha0 x1 x2 x3 y0 0 S
      · refine K_iconst (v := 1) dX7_initialize_57 (by decide) ?_
        refine K_goto (tgt := 62) dX7_initialize_58 (by decide) ?_
        refine K_istore (ls' := [(0, _), (1, _), (2, _), (3, _), (4, _), (5, _)]) dX7_initialize_62 (by decide) rfl ?_
        refine K_goto (tgt := 95) dX7_initialize_64 (by decide) ?_
        refine K.keep [0, 1, 2, 3, 4, 5] ?_
        exact kj_X7_initialize_95 hQ hE fu ha0 x1 x2 x3 y0 1 S
def sp_X7_initialize (fu : Nat) (E : Ev) (S : St) (a0 : Nat) (x1 : Int32) : Option St :=
  if inb (S.1 (E.2 a0 2) 1) 30 = true then
    (
    bnd (S.2.1 (E.2 (E.2 a0 1) 3) (S.1 (E.2 a0 2) 1).toNatClampNeg) fun v5 =>
    (sp_X7_popSlot fu E S a0).bind fun u6 =>
    if u6.1 = (-4) then (
      jb_X7_initialize_32 fu E a0 x1 v5 u6.1 1 u6.2
    ) else (
      jb_X7_initialize_32 fu E a0 x1 v5 u6.1 0 u6.2
    )
    )
  else none
set_option maxRecDepth 100000 in
theorem k_X7_initialize {l : Launch} (fu : Nat) {E : Ev} (hE : WE E) {a0 : Nat} (ha0 : E.1 a0 = some (0, 6, 0)) {x1 : Int32} {S : St} {t : St} (h : sp_X7_initialize fu E S a0 x1 = some t) : Cn l mX7_initialize [.ref a0, .int x1] (hp E S) (PoV E t) := by
  refine Cn.of (by decide) rfl (Nat.le_of_ble_eq_true rfl) (fun X _ _ hQ => ?_)
  refine (?_ : K mX7_initialize X E 0 [(0, .ref a0), (1, .int x1)] [] S 0 0 (sp_X7_initialize fu E S a0 x1) t) h
  unfold sp_X7_initialize
  refine K_aload_n dX7_initialize_0 rfl rfl ?_
  refine K_getC hE dX7_initialize_1 f_X7_15_6 ha0 rfl rfl (fun h1 => ?_)
  refine K_getC hE dX7_initialize_4 f_X7_162_7 h1 rfl rfl (fun h2 => ?_)
  refine K_aload_n dX7_initialize_7 rfl rfl ?_
  refine K_getC hE dX7_initialize_8 f_X7_19_6 ha0 rfl rfl (fun h3 => ?_)
  refine K_getI dX7_initialize_11 f_X7_115_0 h3 rfl ?_
  refine K_chk (fun h4 => ?_)
  refine K_iald dX7_initialize_14 h2 h4 ?_
  refine K_nmI (fun v5 => ?_)
  refine K_istore_n (ls' := [(0, _), (1, _), (2, _)]) dX7_initialize_15 rfl (by decide) rfl ?_
  refine K_aload_n dX7_initialize_16 rfl rfl ?_
  refine K_bind (fun u6 hu6 => ?_)
  refine K_callVI (As := []) (k_X7_popSlot fu hE ha0 hu6) dX7_initialize_17 v_X7_104 ha0 rfl rfl rfl rfl (Nat.le_of_ble_eq_true rfl) ⟨Nat.le_of_ble_eq_true rfl, Nat.le_of_ble_eq_true rfl, Nat.le_of_ble_eq_true rfl, Nat.le_of_ble_eq_true rfl⟩ ?_
  refine K_istore_n (ls' := [(0, _), (1, _), (2, _), (3, _)]) dX7_initialize_20 rfl (by decide) rfl ?_
  refine K_iload_n dX7_initialize_21 rfl rfl ?_
  refine K_bipush (v := (-4)) dX7_initialize_22 (by decide) ?_
  refine K_icmp_ne (tgt := 31) dX7_initialize_24 (by decide) (fun c32 => ?_) (fun c32 => ?_)
  · refine K_iconst (v := 0) dX7_initialize_31 (by decide) ?_
    refine K.keep [0, 1, 2, 3] ?_
    exact kj_X7_initialize_32 hQ hE fu ha0 x1 v5 u6.1 0 u6.2
  · refine K_iconst (v := 1) dX7_initialize_27 (by decide) ?_
    refine K_goto (tgt := 32) dX7_initialize_28 (by decide) ?_
    refine K.keep [0, 1, 2, 3] ?_
    exact kj_X7_initialize_32 hQ hE fu ha0 x1 v5 u6.1 1 u6.2
def sp_X10_isInterface (fu : Nat) (E : Ev) (S : St) (a0 : Nat) (x1 : Int32) : Option (Int32 × St) :=
  if x1 < 2 then (
    some (0, S)
  ) else (
    if (S.1 a0 2) ≤ x1 then (
      some (0, S)
    ) else (
      if inb x1 20 = true then
        (
        if (S.2.1 (E.2 a0 1) x1.toNatClampNeg) = 0 then (
          some (0, S)
        ) else (
          some (1, S)
        )
        )
      else none
    )
  )
set_option maxRecDepth 100000 in
theorem k_X10_isInterface {l : Launch} (fu : Nat) {E : Ev} (hE : WE E) {a0 : Nat} (ha0 : E.1 a0 = some (0, 8, 0)) {x1 : Int32} {S : St} {t : (Int32 × St)} (h : sp_X10_isInterface fu E S a0 x1 = some t) : Cn l mX10_isInterface [.ref a0, .int x1] (hp E S) (PoI E t) := by
  refine Cn.of (by decide) rfl (Nat.le_of_ble_eq_true rfl) (fun X _ _ hQ => ?_)
  refine (?_ : K mX10_isInterface X E 0 [(0, .ref a0), (1, .int x1)] [] S 0 0 (sp_X10_isInterface fu E S a0 x1) t) h
  unfold sp_X10_isInterface
  refine K_iload_n dX10_isInterface_0 rfl rfl ?_
  refine K_iconst (v := 2) dX10_isInterface_1 (by decide) ?_
  refine K_icmp_lt (tgt := 26) dX10_isInterface_2 (by decide) (fun c5 => ?_) (fun c5 => ?_)
  · refine K_iconst (v := 0) dX10_isInterface_26 (by decide) ?_
    exact K_zret dX10_isInterface_27 hQ rfl rfl (Nat.le_of_ble_eq_true rfl) (Nat.le_of_ble_eq_true rfl)
  · refine K_iload_n dX10_isInterface_5 rfl rfl ?_
    refine K_aload_n dX10_isInterface_6 rfl rfl ?_
    refine K_getI dX10_isInterface_7 f_X10_19_8 ha0 rfl ?_
    refine K_icmp_ge (tgt := 26) dX10_isInterface_10 (by decide) (fun c4 => ?_) (fun c4 => ?_)
    · refine K_iconst (v := 0) dX10_isInterface_26 (by decide) ?_
      exact K_zret dX10_isInterface_27 hQ rfl rfl (Nat.le_of_ble_eq_true rfl) (Nat.le_of_ble_eq_true rfl)
    · refine K_aload_n dX10_isInterface_13 rfl rfl ?_
      refine K_getC hE dX10_isInterface_14 f_X10_15_8 ha0 rfl rfl (fun h1 => ?_)
      refine K_iload_n dX10_isInterface_17 rfl rfl ?_
      refine K_chk (fun h2 => ?_)
      refine K_zald dX10_isInterface_18 h1 h2 ?_
      refine K_if_eq (tgt := 26) dX10_isInterface_19 (by decide) (fun c3 => ?_) (fun c3 => ?_)
      · refine K_iconst (v := 0) dX10_isInterface_26 (by decide) ?_
        exact K_zret dX10_isInterface_27 hQ rfl rfl (Nat.le_of_ble_eq_true rfl) (Nat.le_of_ble_eq_true rfl)
      · refine K_iconst (v := 1) dX10_isInterface_22 (by decide) ?_
        refine K_goto (tgt := 27) dX10_isInterface_23 (by decide) ?_
        exact K_zret dX10_isInterface_27 hQ rfl rfl (Nat.le_of_ble_eq_true rfl) (Nat.le_of_ble_eq_true rfl)
def sp_X10_fits (fu : Nat) (E : Ev) (S : St) (a0 : Nat) (x1 : Int32) (x2 : Int32) : Option (Int32 × St) :=
  if x1 = x2 then (
    some (1, S)
  ) else (
    if x2 = (-2) then (
      some (1, S)
    ) else (
      (sp_X11_isReferenceType fu E S x2).bind fun u1 =>
      if u1.1 = 0 then (
        some (0, u1.2)
      ) else (
        if x1 = (-1) then (
          some (1, u1.2)
        ) else (
          (sp_X11_isReferenceType fu E u1.2 x1).bind fun u2 =>
          if u2.1 = 0 then (
            some (0, u2.2)
          ) else (
            (sp_X10_referenceLevels fu E u2.2 x1).bind fun u3 =>
            (sp_X10_referenceLevels fu E u3.2 x2).bind fun u4 =>
            bnd (if u4.1 < u3.1 then u4.1 else u3.1) fun v5 =>
            bnd (x1 - v5) fun v6 =>
            bnd (x2 - v5) fun v7 =>
            if (v7 - v7 / 8 * 8) = 0 then (
              if v7 = 16 then (
                some (1, u4.2)
              ) else (
                (sp_X10_isInterface fu E u4.2 a0 (v7 / 8)).bind fun u8 =>
                if u8.1 = 0 then (
                  if (v6 - v6 / 8 * 8) = 0 then (
                    (sp_X10_inherits fu E u8.2 a0 (v6 / 8) (v7 / 8)).bind fun u9 =>
                    if u9.1 = 0 then (
                      some (0, u9.2)
                    ) else (
                      some (1, u9.2)
                    )
                  ) else (
                    some (0, u8.2)
                  )
                ) else (
                  some (1, u8.2)
                )
              )
            ) else (
              some (0, u4.2)
            )
          )
        )
      )
    )
  )
set_option maxRecDepth 100000 in
theorem k_X10_fits {l : Launch} (fu : Nat) {E : Ev} (hE : WE E) {a0 : Nat} (ha0 : E.1 a0 = some (0, 8, 0)) {x1 : Int32} {x2 : Int32} {S : St} {t : (Int32 × St)} (h : sp_X10_fits fu E S a0 x1 x2 = some t) : Cn l mX10_fits [.ref a0, .int x1, .int x2] (hp E S) (PoI E t) := by
  refine Cn.of (by decide) rfl (Nat.le_of_ble_eq_true rfl) (fun X _ _ hQ => ?_)
  refine (?_ : K mX10_fits X E 0 [(0, .ref a0), (1, .int x1), (2, .int x2)] [] S 0 0 (sp_X10_fits fu E S a0 x1 x2) t) h
  unfold sp_X10_fits
  refine K_iload_n dX10_fits_0 rfl rfl ?_
  refine K_iload_n dX10_fits_1 rfl rfl ?_
  refine K_icmp_eq (tgt := 11) dX10_fits_2 (by decide) (fun c19 => ?_) (fun c19 => ?_)
  · refine K_iconst (v := 1) dX10_fits_11 (by decide) ?_
    exact K_zret dX10_fits_12 hQ rfl rfl (Nat.le_of_ble_eq_true rfl) (Nat.le_of_ble_eq_true rfl)
  · refine K_iload_n dX10_fits_5 rfl rfl ?_
    refine K_bipush (v := (-2)) dX10_fits_6 (by decide) ?_
    refine K_icmp_ne (tgt := 13) dX10_fits_8 (by decide) (fun c18 => ?_) (fun c18 => ?_)
    · refine K_iload_n dX10_fits_13 rfl rfl ?_
      refine K_bind (fun u1 hu1 => ?_)
      refine K_callSI (As := [.int x2]) (k_X11_isReferenceType fu hE hu1) dX10_fits_14 s_X10_27 rfl rfl (Nat.le_of_ble_eq_true rfl) ⟨Nat.le_of_ble_eq_true rfl, Nat.le_of_ble_eq_true rfl, Nat.le_of_ble_eq_true rfl, Nat.le_of_ble_eq_true rfl⟩ ?_
      refine K_if_ne (tgt := 22) dX10_fits_17 (by decide) (fun c17 => ?_) (fun c17 => ?_)
      · refine K_iload_n dX10_fits_22 rfl rfl ?_
        refine K_iconst (v := (-1)) dX10_fits_23 (by decide) ?_
        refine K_icmp_ne (tgt := 29) dX10_fits_24 (by decide) (fun c16 => ?_) (fun c16 => ?_)
        · refine K_iload_n dX10_fits_29 rfl rfl ?_
          refine K_bind (fun u2 hu2 => ?_)
          refine K_callSI (As := [.int x1]) (k_X11_isReferenceType fu hE hu2) dX10_fits_30 s_X10_27 rfl rfl (Nat.le_of_ble_eq_true rfl) ⟨Nat.le_of_ble_eq_true rfl, Nat.le_of_ble_eq_true rfl, Nat.le_of_ble_eq_true rfl, Nat.le_of_ble_eq_true rfl⟩ ?_
          refine K_if_ne (tgt := 38) dX10_fits_33 (by decide) (fun c15 => ?_) (fun c15 => ?_)
          · refine K_iload_n dX10_fits_38 rfl rfl ?_
            refine K_bind (fun u3 hu3 => ?_)
            refine K_callSI (As := [.int x1]) (k_X10_referenceLevels fu hE hu3) dX10_fits_39 s_X10_30 rfl rfl (Nat.le_of_ble_eq_true rfl) ⟨Nat.le_of_ble_eq_true rfl, Nat.le_of_ble_eq_true rfl, Nat.le_of_ble_eq_true rfl, Nat.le_of_ble_eq_true rfl⟩ ?_
            refine K_iload_n dX10_fits_42 rfl rfl ?_
            refine K_bind (fun u4 hu4 => ?_)
            refine K_callSI (As := [.int x2]) (k_X10_referenceLevels fu hE hu4) dX10_fits_43 s_X10_30 rfl rfl (Nat.le_of_ble_eq_true rfl) ⟨Nat.le_of_ble_eq_true rfl, Nat.le_of_ble_eq_true rfl, Nat.le_of_ble_eq_true rfl, Nat.le_of_ble_eq_true rfl⟩ ?_
            refine K_mmin dX10_fits_46 h_X10_34 (Nat.le_of_ble_eq_true rfl) (Nat.le_of_ble_eq_true rfl) (Nat.le_of_ble_eq_true rfl) (Nat.le_of_ble_eq_true rfl) ?_
            refine K_nmI (fun v5 => ?_)
            refine K_istore_n (ls' := [(0, _), (1, _), (2, _), (3, _)]) dX10_fits_49 rfl (by decide) rfl ?_
            refine K_iload_n dX10_fits_50 rfl rfl ?_
            refine K_iload_n dX10_fits_51 rfl rfl ?_
            refine K_isub dX10_fits_52 ?_
            refine K_nmI (fun v6 => ?_)
            refine K_istore (ls' := [(0, _), (1, _), (2, _), (3, _), (4, _)]) dX10_fits_53 (by decide) rfl ?_
            refine K_iload_n dX10_fits_55 rfl rfl ?_
            refine K_iload_n dX10_fits_56 rfl rfl ?_
            refine K_isub dX10_fits_57 ?_
            refine K_nmI (fun v7 => ?_)
            refine K_istore (ls' := [(0, _), (1, _), (2, _), (3, _), (4, _), (5, _)]) dX10_fits_58 (by decide) rfl ?_
            refine K_iload dX10_fits_60 rfl ?_
            refine K_bipush (v := 8) dX10_fits_62 (by decide) ?_
            refine K_irem dX10_fits_64 (by decide) ?_
            refine K_if_eq (tgt := 70) dX10_fits_65 (by decide) (fun c14 => ?_) (fun c14 => ?_)
            · refine K_iload dX10_fits_70 rfl ?_
              refine K_bipush (v := 16) dX10_fits_72 (by decide) ?_
              refine K_icmp_eq (tgt := 89) dX10_fits_74 (by decide) (fun c13 => ?_) (fun c13 => ?_)
              · refine K_iconst (v := 1) dX10_fits_89 (by decide) ?_
                exact K_zret dX10_fits_90 hQ rfl rfl (Nat.le_of_ble_eq_true rfl) (Nat.le_of_ble_eq_true rfl)
              · refine K_aload_n dX10_fits_77 rfl rfl ?_
                refine K_iload dX10_fits_78 rfl ?_
                refine K_bipush (v := 8) dX10_fits_80 (by decide) ?_
                refine K_idiv dX10_fits_82 (by decide) ?_
                refine K_bind (fun u8 hu8 => ?_)
                refine K_callVI (As := [.int (v7 / 8)]) (k_X10_isInterface fu hE ha0 hu8) dX10_fits_83 v_X10_40 ha0 rfl rfl rfl rfl (Nat.le_of_ble_eq_true rfl) ⟨Nat.le_of_ble_eq_true rfl, Nat.le_of_ble_eq_true rfl, Nat.le_of_ble_eq_true rfl, Nat.le_of_ble_eq_true rfl⟩ ?_
                refine K_if_eq (tgt := 91) dX10_fits_86 (by decide) (fun c12 => ?_) (fun c12 => ?_)
                · refine K_iload dX10_fits_91 rfl ?_
                  refine K_bipush (v := 8) dX10_fits_93 (by decide) ?_
                  refine K_irem dX10_fits_95 (by decide) ?_
                  refine K_if_ne (tgt := 120) dX10_fits_96 (by decide) (fun c11 => ?_) (fun c11 => ?_)
                  · refine K_iconst (v := 0) dX10_fits_120 (by decide) ?_
                    exact K_zret dX10_fits_121 hQ rfl rfl (Nat.le_of_ble_eq_true rfl) (Nat.le_of_ble_eq_true rfl)
                  · refine K_aload_n dX10_fits_99 rfl rfl ?_
                    refine K_iload dX10_fits_100 rfl ?_
                    refine K_bipush (v := 8) dX10_fits_102 (by decide) ?_
                    refine K_idiv dX10_fits_104 (by decide) ?_
                    refine K_iload dX10_fits_105 rfl ?_
                    refine K_bipush (v := 8) dX10_fits_107 (by decide) ?_
                    refine K_idiv dX10_fits_109 (by decide) ?_
                    refine K_bind (fun u9 hu9 => ?_)
                    refine K_callVI (As := [.int (v6 / 8), .int (v7 / 8)]) (k_X10_inherits fu hE ha0 hu9) dX10_fits_110 v_X10_43 ha0 rfl rfl rfl rfl (Nat.le_of_ble_eq_true rfl) ⟨Nat.le_of_ble_eq_true rfl, Nat.le_of_ble_eq_true rfl, Nat.le_of_ble_eq_true rfl, Nat.le_of_ble_eq_true rfl⟩ ?_
                    refine K_if_eq (tgt := 120) dX10_fits_113 (by decide) (fun c10 => ?_) (fun c10 => ?_)
                    · refine K_iconst (v := 0) dX10_fits_120 (by decide) ?_
                      exact K_zret dX10_fits_121 hQ rfl rfl (Nat.le_of_ble_eq_true rfl) (Nat.le_of_ble_eq_true rfl)
                    · refine K_iconst (v := 1) dX10_fits_116 (by decide) ?_
                      refine K_goto (tgt := 121) dX10_fits_117 (by decide) ?_
                      exact K_zret dX10_fits_121 hQ rfl rfl (Nat.le_of_ble_eq_true rfl) (Nat.le_of_ble_eq_true rfl)
                · refine K_iconst (v := 1) dX10_fits_89 (by decide) ?_
                  exact K_zret dX10_fits_90 hQ rfl rfl (Nat.le_of_ble_eq_true rfl) (Nat.le_of_ble_eq_true rfl)
            · refine K_iconst (v := 0) dX10_fits_68 (by decide) ?_
              exact K_zret dX10_fits_69 hQ rfl rfl (Nat.le_of_ble_eq_true rfl) (Nat.le_of_ble_eq_true rfl)
          · refine K_iconst (v := 0) dX10_fits_36 (by decide) ?_
            exact K_zret dX10_fits_37 hQ rfl rfl (Nat.le_of_ble_eq_true rfl) (Nat.le_of_ble_eq_true rfl)
        · refine K_iconst (v := 1) dX10_fits_27 (by decide) ?_
          exact K_zret dX10_fits_28 hQ rfl rfl (Nat.le_of_ble_eq_true rfl) (Nat.le_of_ble_eq_true rfl)
      · refine K_iconst (v := 0) dX10_fits_20 (by decide) ?_
        exact K_zret dX10_fits_21 hQ rfl rfl (Nat.le_of_ble_eq_true rfl) (Nat.le_of_ble_eq_true rfl)
    · refine K_iconst (v := 1) dX10_fits_11 (by decide) ?_
      exact K_zret dX10_fits_12 hQ rfl rfl (Nat.le_of_ble_eq_true rfl) (Nat.le_of_ble_eq_true rfl)
def sp_X7_popOfType (fu : Nat) (E : Ev) (S : St) (a0 : Nat) (x1 : Int32) : Option St :=
  if x1 = 8 then (
    (sp_X7_popSlot fu E S a0).bind fun u5 =>
    (sp_X7_popSlot fu E u5.2 a0).bind fun u6 =>
    if u6.1 = 8 then (
      if u5.1 = (-3) then (
        (sp_X7_require fu E u6.2 a0 1 4).bind fun u9 =>
        some u9
      ) else (
        (sp_X7_require fu E u6.2 a0 0 4).bind fun u8 =>
        some u8
      )
    ) else (
      (sp_X7_require fu E u6.2 a0 0 4).bind fun u7 =>
      some u7
    )
  ) else (
    (sp_X7_popSlot fu E S a0).bind fun u1 =>
    (sp_X10_fits fu E u1.2 (E.2 a0 0) u1.1 x1).bind fun u3 =>
    (sp_X7_require fu E u3.2 a0 u3.1 4).bind fun u4 =>
    some u4
  )
set_option maxRecDepth 100000 in
theorem k_X7_popOfType {l : Launch} (fu : Nat) {E : Ev} (hE : WE E) {a0 : Nat} (ha0 : E.1 a0 = some (0, 6, 0)) {x1 : Int32} {S : St} {t : St} (h : sp_X7_popOfType fu E S a0 x1 = some t) : Cn l mX7_popOfType [.ref a0, .int x1] (hp E S) (PoV E t) := by
  refine Cn.of (by decide) rfl (Nat.le_of_ble_eq_true rfl) (fun X _ _ hQ => ?_)
  refine (?_ : K mX7_popOfType X E 0 [(0, .ref a0), (1, .int x1)] [] S 0 0 (sp_X7_popOfType fu E S a0 x1) t) h
  unfold sp_X7_popOfType
  refine K_iload_n dX7_popOfType_0 rfl rfl ?_
  refine K_bipush (v := 8) dX7_popOfType_1 (by decide) ?_
  refine K_icmp_ne (tgt := 41) dX7_popOfType_3 (by decide) (fun c12 => ?_) (fun c12 => ?_)
  · refine K_aload_n dX7_popOfType_41 rfl rfl ?_
    refine K_bind (fun u1 hu1 => ?_)
    refine K_callVI (As := []) (k_X7_popSlot fu hE ha0 hu1) dX7_popOfType_42 v_X7_104 ha0 rfl rfl rfl rfl (Nat.le_of_ble_eq_true rfl) ⟨Nat.le_of_ble_eq_true rfl, Nat.le_of_ble_eq_true rfl, Nat.le_of_ble_eq_true rfl, Nat.le_of_ble_eq_true rfl⟩ ?_
    refine K_istore_n (ls' := [(0, _), (1, _), (2, _)]) dX7_popOfType_45 rfl (by decide) rfl ?_
    refine K_aload_n dX7_popOfType_46 rfl rfl ?_
    refine K_aload_n dX7_popOfType_47 rfl rfl ?_
    refine K_getC hE dX7_popOfType_48 f_X7_9_6 ha0 rfl rfl (fun h2 => ?_)
    refine K_iload_n dX7_popOfType_51 rfl rfl ?_
    refine K_iload_n dX7_popOfType_52 rfl rfl ?_
    refine K_bind (fun u3 hu3 => ?_)
    refine K_callVI (As := [.int u1.1, .int x1]) (k_X10_fits fu hE h2 hu3) dX7_popOfType_53 v_X7_124 h2 rfl rfl rfl rfl (Nat.le_of_ble_eq_true rfl) ⟨Nat.le_of_ble_eq_true rfl, Nat.le_of_ble_eq_true rfl, Nat.le_of_ble_eq_true rfl, Nat.le_of_ble_eq_true rfl⟩ ?_
    refine K_iconst (v := 4) dX7_popOfType_56 (by decide) ?_
    refine K_bind (fun u4 hu4 => ?_)
    refine K_callVV (As := [.int u3.1, .int 4]) (k_X7_require fu hE ha0 hu4) dX7_popOfType_57 v_X7_80 ha0 rfl rfl rfl rfl (Nat.le_of_ble_eq_true rfl) ⟨Nat.le_of_ble_eq_true rfl, Nat.le_of_ble_eq_true rfl, Nat.le_of_ble_eq_true rfl, Nat.le_of_ble_eq_true rfl⟩ ?_
    exact K_vret dX7_popOfType_60 hQ rfl (Nat.le_of_ble_eq_true rfl) (Nat.le_of_ble_eq_true rfl)
  · refine K_aload_n dX7_popOfType_6 rfl rfl ?_
    refine K_bind (fun u5 hu5 => ?_)
    refine K_callVI (As := []) (k_X7_popSlot fu hE ha0 hu5) dX7_popOfType_7 v_X7_104 ha0 rfl rfl rfl rfl (Nat.le_of_ble_eq_true rfl) ⟨Nat.le_of_ble_eq_true rfl, Nat.le_of_ble_eq_true rfl, Nat.le_of_ble_eq_true rfl, Nat.le_of_ble_eq_true rfl⟩ ?_
    refine K_istore_n (ls' := [(0, _), (1, _), (2, _)]) dX7_popOfType_10 rfl (by decide) rfl ?_
    refine K_aload_n dX7_popOfType_11 rfl rfl ?_
    refine K_bind (fun u6 hu6 => ?_)
    refine K_callVI (As := []) (k_X7_popSlot fu hE ha0 hu6) dX7_popOfType_12 v_X7_104 ha0 rfl rfl rfl rfl (Nat.le_of_ble_eq_true rfl) ⟨Nat.le_of_ble_eq_true rfl, Nat.le_of_ble_eq_true rfl, Nat.le_of_ble_eq_true rfl, Nat.le_of_ble_eq_true rfl⟩ ?_
    refine K_istore_n (ls' := [(0, _), (1, _), (2, _), (3, _)]) dX7_popOfType_15 rfl (by decide) rfl ?_
    refine K_aload_n dX7_popOfType_16 rfl rfl ?_
    refine K_iload_n dX7_popOfType_17 rfl rfl ?_
    refine K_bipush (v := 8) dX7_popOfType_18 (by decide) ?_
    refine K_icmp_ne (tgt := 33) dX7_popOfType_20 (by decide) (fun c11 => ?_) (fun c11 => ?_)
    · refine K_iconst (v := 0) dX7_popOfType_33 (by decide) ?_
      refine K_iconst (v := 4) dX7_popOfType_34 (by decide) ?_
      refine K_bind (fun u7 hu7 => ?_)
      refine K_callVV (As := [.int 0, .int 4]) (k_X7_require fu hE ha0 hu7) dX7_popOfType_35 v_X7_80 ha0 rfl rfl rfl rfl (Nat.le_of_ble_eq_true rfl) ⟨Nat.le_of_ble_eq_true rfl, Nat.le_of_ble_eq_true rfl, Nat.le_of_ble_eq_true rfl, Nat.le_of_ble_eq_true rfl⟩ ?_
      refine K_goto (tgt := 60) dX7_popOfType_38 (by decide) ?_
      exact K_vret dX7_popOfType_60 hQ rfl (Nat.le_of_ble_eq_true rfl) (Nat.le_of_ble_eq_true rfl)
    · refine K_iload_n dX7_popOfType_23 rfl rfl ?_
      refine K_bipush (v := (-3)) dX7_popOfType_24 (by decide) ?_
      refine K_icmp_ne (tgt := 33) dX7_popOfType_26 (by decide) (fun c10 => ?_) (fun c10 => ?_)
      · refine K_iconst (v := 0) dX7_popOfType_33 (by decide) ?_
        refine K_iconst (v := 4) dX7_popOfType_34 (by decide) ?_
        refine K_bind (fun u8 hu8 => ?_)
        refine K_callVV (As := [.int 0, .int 4]) (k_X7_require fu hE ha0 hu8) dX7_popOfType_35 v_X7_80 ha0 rfl rfl rfl rfl (Nat.le_of_ble_eq_true rfl) ⟨Nat.le_of_ble_eq_true rfl, Nat.le_of_ble_eq_true rfl, Nat.le_of_ble_eq_true rfl, Nat.le_of_ble_eq_true rfl⟩ ?_
        refine K_goto (tgt := 60) dX7_popOfType_38 (by decide) ?_
        exact K_vret dX7_popOfType_60 hQ rfl (Nat.le_of_ble_eq_true rfl) (Nat.le_of_ble_eq_true rfl)
      · refine K_iconst (v := 1) dX7_popOfType_29 (by decide) ?_
        refine K_goto (tgt := 34) dX7_popOfType_30 (by decide) ?_
        refine K_iconst (v := 4) dX7_popOfType_34 (by decide) ?_
        refine K_bind (fun u9 hu9 => ?_)
        refine K_callVV (As := [.int 1, .int 4]) (k_X7_require fu hE ha0 hu9) dX7_popOfType_35 v_X7_80 ha0 rfl rfl rfl rfl (Nat.le_of_ble_eq_true rfl) ⟨Nat.le_of_ble_eq_true rfl, Nat.le_of_ble_eq_true rfl, Nat.le_of_ble_eq_true rfl, Nat.le_of_ble_eq_true rfl⟩ ?_
        refine K_goto (tgt := 60) dX7_popOfType_38 (by decide) ?_
        exact K_vret dX7_popOfType_60 hQ rfl (Nat.le_of_ble_eq_true rfl) (Nat.le_of_ble_eq_true rfl)
def jb_X7_push_23 (fu : Nat) (E : Ev) (a0 b0 : Nat) (x1 : Int32) (y1 : Int32) (S : St) : Option St :=
  (sp_X7_require fu E S b0 y1 6).bind fun u3 =>
  if (u3.1 a0 4) = 0 then (
    if E.1 (u3.2.2.1 a0 3) = some (0, 2, 0) then
      (
      if E.1 (u3.2.2.1 a0 3) = some (0, 2, 0) then
        (
        if inb (u3.1 (u3.2.2.1 a0 3) 2) 12 = true then (
          bnd (sG u3 (E.2 (u3.2.2.1 a0 3) 1) ((u3.1 (u3.2.2.1 a0 3) 2).toNatClampNeg) x1) fun S8 =>
          if E.1 (S8.2.2.1 a0 3) = some (0, 2, 0) then
            (
            bnd (sF S8 (S8.2.2.1 a0 3) 2 ((S8.1 (S8.2.2.1 a0 3) 2) + 1)) fun S10 =>
            some S10
            )
          else none
        ) else none
        )
      else none
      )
    else none
  ) else (
    some u3
  )
set_option maxRecDepth 100000 in
theorem kj_X7_push_23 {X : Cx} {E : Ev} {t : St} {a0 b0 : Nat} (hQ : EndR mX7_push X (PoV E t)) (hE : WE E) (fu : Nat) (ha0 : E.1 a0 = some (0, 6, 0)) (hb0 : E.1 b0 = some (0, 6, 0)) (x1 : Int32) (y1 : Int32) (S : St) : K mX7_push X E 23 [(0, .ref a0), (1, .int x1)] [.int y1, .ref b0] S 0 0 (jb_X7_push_23 fu E a0 b0 x1 y1 S) t := by
  unfold jb_X7_push_23
  refine K_bipush (v := 6) dX7_push_23 (by decide) ?_
  refine K_bind (fun u3 hu3 => ?_)
  refine K_callVV (As := [.int y1, .int 6]) (k_X7_require fu hE hb0 hu3) dX7_push_25 v_X7_80 hb0 rfl rfl rfl rfl (Nat.le_of_ble_eq_true rfl) ⟨Nat.le_of_ble_eq_true rfl, Nat.le_of_ble_eq_true rfl, Nat.le_of_ble_eq_true rfl, Nat.le_of_ble_eq_true rfl⟩ ?_
  refine K_aload_n dX7_push_28 rfl rfl ?_
  refine K_getI dX7_push_29 f_X7_30_6 ha0 rfl ?_
  refine K_if_ne (tgt := 64) dX7_push_32 (by decide) (fun c11 => ?_) (fun c11 => ?_)
  · exact K_vret dX7_push_64 hQ rfl (Nat.le_of_ble_eq_true rfl) (Nat.le_of_ble_eq_true rfl)
  · refine K_aload_n dX7_push_35 rfl rfl ?_
    refine K_ite (fun h4 => ?_) (fun _ => K_none)
    refine K_getM hE dX7_push_36 f_X7_26_6 ha0 rfl h4 ?_
    refine K_getC hE dX7_push_39 f_X7_183_2 h4 rfl rfl (fun h5 => ?_)
    refine K_aload_n dX7_push_42 rfl rfl ?_
    refine K_ite (fun h6 => ?_) (fun _ => K_none)
    refine K_getM hE dX7_push_43 f_X7_26_6 ha0 rfl h6 ?_
    refine K_getI dX7_push_46 f_X7_180_2 h6 rfl ?_
    refine K_iload_n dX7_push_49 rfl rfl ?_
    refine K_chk (fun h7 => ?_)
    refine K_iast dX7_push_50 h5 h7 ?_
    refine K_nmS (fun S8 => ?_)
    refine K_aload_n dX7_push_51 rfl rfl ?_
    refine K_ite (fun h9 => ?_) (fun _ => K_none)
    refine K_getM hE dX7_push_52 f_X7_26_6 ha0 rfl h9 ?_
    refine K_dup dX7_push_55 rfl ?_
    refine K_getI dX7_push_56 f_X7_180_2 h9 rfl ?_
    refine K_iconst (v := 1) dX7_push_59 (by decide) ?_
    refine K_iadd dX7_push_60 ?_
    refine K_putI dX7_push_61 p_X7_180_2 h9 rfl ?_
    refine K_nmS (fun S10 => ?_)
    exact K_vret dX7_push_64 hQ rfl (Nat.le_of_ble_eq_true rfl) (Nat.le_of_ble_eq_true rfl)
def sp_X7_push (fu : Nat) (E : Ev) (S : St) (a0 : Nat) (x1 : Int32) : Option St :=
  if E.1 (S.2.2.1 a0 3) = some (0, 2, 0) then
    (
    if (S.1 (E.2 a0 2) 2) ≤ (S.1 (S.2.2.1 a0 3) 2) then (
      jb_X7_push_23 fu E a0 a0 x1 0 S
    ) else (
      jb_X7_push_23 fu E a0 a0 x1 1 S
    )
    )
  else none
set_option maxRecDepth 100000 in
theorem k_X7_push {l : Launch} (fu : Nat) {E : Ev} (hE : WE E) {a0 : Nat} (ha0 : E.1 a0 = some (0, 6, 0)) {x1 : Int32} {S : St} {t : St} (h : sp_X7_push fu E S a0 x1 = some t) : Cn l mX7_push [.ref a0, .int x1] (hp E S) (PoV E t) := by
  refine Cn.of (by decide) rfl (Nat.le_of_ble_eq_true rfl) (fun X _ _ hQ => ?_)
  refine (?_ : K mX7_push X E 0 [(0, .ref a0), (1, .int x1)] [] S 0 0 (sp_X7_push fu E S a0 x1) t) h
  unfold sp_X7_push
  refine K_aload_n dX7_push_0 rfl rfl ?_
  refine K_aload_n dX7_push_1 rfl rfl ?_
  refine K_ite (fun h1 => ?_) (fun _ => K_none)
  refine K_getM hE dX7_push_2 f_X7_26_6 ha0 rfl h1 ?_
  refine K_getI dX7_push_5 f_X7_180_2 h1 rfl ?_
  refine K_aload_n dX7_push_8 rfl rfl ?_
  refine K_getC hE dX7_push_9 f_X7_19_6 ha0 rfl rfl (fun h2 => ?_)
  refine K_getI dX7_push_12 f_X7_186_0 h2 rfl ?_
  refine K_icmp_ge (tgt := 22) dX7_push_15 (by decide) (fun c12 => ?_) (fun c12 => ?_)
  · refine K_iconst (v := 0) dX7_push_22 (by decide) ?_
    refine K.keep [0, 1] ?_
    exact kj_X7_push_23 hQ hE fu ha0 ha0 x1 0 S
  · refine K_iconst (v := 1) dX7_push_18 (by decide) ?_
    refine K_goto (tgt := 23) dX7_push_19 (by decide) ?_
    refine K.keep [0, 1] ?_
    exact kj_X7_push_23 hQ hE fu ha0 ha0 x1 1 S
def sp_X7_pushOfType (fu : Nat) (E : Ev) (S : St) (a0 : Nat) (x1 : Int32) : Option St :=
  (sp_X7_push fu E S a0 x1).bind fun u1 =>
  if x1 = 8 then (
    (sp_X7_push fu E u1 a0 (-3)).bind fun u2 =>
    some u2
  ) else (
    some u1
  )
set_option maxRecDepth 100000 in
theorem k_X7_pushOfType {l : Launch} (fu : Nat) {E : Ev} (hE : WE E) {a0 : Nat} (ha0 : E.1 a0 = some (0, 6, 0)) {x1 : Int32} {S : St} {t : St} (h : sp_X7_pushOfType fu E S a0 x1 = some t) : Cn l mX7_pushOfType [.ref a0, .int x1] (hp E S) (PoV E t) := by
  refine Cn.of (by decide) rfl (Nat.le_of_ble_eq_true rfl) (fun X _ _ hQ => ?_)
  refine (?_ : K mX7_pushOfType X E 0 [(0, .ref a0), (1, .int x1)] [] S 0 0 (sp_X7_pushOfType fu E S a0 x1) t) h
  unfold sp_X7_pushOfType
  refine K_aload_n dX7_pushOfType_0 rfl rfl ?_
  refine K_iload_n dX7_pushOfType_1 rfl rfl ?_
  refine K_bind (fun u1 hu1 => ?_)
  refine K_callVV (As := [.int x1]) (k_X7_push fu hE ha0 hu1) dX7_pushOfType_2 v_X7_71 ha0 rfl rfl rfl rfl (Nat.le_of_ble_eq_true rfl) ⟨Nat.le_of_ble_eq_true rfl, Nat.le_of_ble_eq_true rfl, Nat.le_of_ble_eq_true rfl, Nat.le_of_ble_eq_true rfl⟩ ?_
  refine K_iload_n dX7_pushOfType_5 rfl rfl ?_
  refine K_bipush (v := 8) dX7_pushOfType_6 (by decide) ?_
  refine K_icmp_ne (tgt := 17) dX7_pushOfType_8 (by decide) (fun c3 => ?_) (fun c3 => ?_)
  · exact K_vret dX7_pushOfType_17 hQ rfl (Nat.le_of_ble_eq_true rfl) (Nat.le_of_ble_eq_true rfl)
  · refine K_aload_n dX7_pushOfType_11 rfl rfl ?_
    refine K_bipush (v := (-3)) dX7_pushOfType_12 (by decide) ?_
    refine K_bind (fun u2 hu2 => ?_)
    refine K_callVV (As := [.int (-3)]) (k_X7_push fu hE ha0 hu2) dX7_pushOfType_14 v_X7_71 ha0 rfl rfl rfl rfl (Nat.le_of_ble_eq_true rfl) ⟨Nat.le_of_ble_eq_true rfl, Nat.le_of_ble_eq_true rfl, Nat.le_of_ble_eq_true rfl, Nat.le_of_ble_eq_true rfl⟩ ?_
    exact K_vret dX7_pushOfType_17 hQ rfl (Nat.le_of_ble_eq_true rfl) (Nat.le_of_ble_eq_true rfl)
def sp_X8_parameterType (fu : Nat) (E : Ev) (S : St) (a0 : Nat) (x1 : Int32) (x2 : Int32) : Option (Int32 × St) :=
  if inb ((x1 * 6) + x2) 180 = true then
    (
    some (S.2.1 (E.2 a0 8) ((x1 * 6) + x2).toNatClampNeg, S)
    )
  else none
set_option maxRecDepth 100000 in
theorem k_X8_parameterType {l : Launch} (fu : Nat) {E : Ev} (hE : WE E) {a0 : Nat} (ha0 : E.1 a0 = some (0, 7, 0)) {x1 : Int32} {x2 : Int32} {S : St} {t : (Int32 × St)} (h : sp_X8_parameterType fu E S a0 x1 x2 = some t) : Cn l mX8_parameterType [.ref a0, .int x1, .int x2] (hp E S) (PoI E t) := by
  refine Cn.of (by decide) rfl (Nat.le_of_ble_eq_true rfl) (fun X _ _ hQ => ?_)
  refine (?_ : K mX8_parameterType X E 0 [(0, .ref a0), (1, .int x1), (2, .int x2)] [] S 0 0 (sp_X8_parameterType fu E S a0 x1 x2) t) h
  unfold sp_X8_parameterType
  refine K_aload_n dX8_parameterType_0 rfl rfl ?_
  refine K_getC hE dX8_parameterType_1 f_X8_33_7 ha0 rfl rfl (fun h1 => ?_)
  refine K_iload_n dX8_parameterType_4 rfl rfl ?_
  refine K_bipush (v := 6) dX8_parameterType_5 (by decide) ?_
  refine K_imul dX8_parameterType_7 ?_
  refine K_iload_n dX8_parameterType_8 rfl rfl ?_
  refine K_iadd dX8_parameterType_9 ?_
  refine K_chk (fun h2 => ?_)
  refine K_iald dX8_parameterType_10 h1 h2 ?_
  exact K_iret dX8_parameterType_11 hQ rfl (Nat.le_of_ble_eq_true rfl) (Nat.le_of_ble_eq_true rfl)
def jb_X7_call_77 (fu : Nat) (E : Ev) (a0 : Nat) (x2 : Int32) (S : St) : Option St :=
  if inb x2 30 = true then
    (
    if (S.2.1 (E.2 (E.2 a0 1) 5) x2.toNatClampNeg) = (-1) then (
      some S
    ) else (
      if inb x2 30 = true then
        (
        (sp_X7_pushOfType fu E S a0 (S.2.1 (E.2 (E.2 a0 1) 5) x2.toNatClampNeg)).bind fun u11 =>
        some u11
        )
      else none
    )
    )
  else none
set_option maxRecDepth 100000 in
theorem kj_X7_call_77 {X : Cx} {E : Ev} {t : St} {a0 : Nat} (hQ : EndR mX7_call X (PoV E t)) (hE : WE E) (fu : Nat) (ha0 : E.1 a0 = some (0, 6, 0)) (x2 : Int32) (S : St) : K mX7_call X E 77 [(0, .ref a0), (2, .int x2)] [] S 0 0 (jb_X7_call_77 fu E a0 x2 S) t := by
  unfold jb_X7_call_77
  refine K_aload_n dX7_call_77 rfl rfl ?_
  refine K_getC hE dX7_call_78 f_X7_15_6 ha0 rfl rfl (fun h5 => ?_)
  refine K_getC hE dX7_call_81 f_X7_110_7 h5 rfl rfl (fun h6 => ?_)
  refine K_iload_n dX7_call_84 rfl rfl ?_
  refine K_chk (fun h7 => ?_)
  refine K_iald dX7_call_85 h6 h7 ?_
  refine K_iconst (v := (-1)) dX7_call_86 (by decide) ?_
  refine K_icmp_eq (tgt := 103) dX7_call_87 (by decide) (fun c12 => ?_) (fun c12 => ?_)
  · exact K_vret dX7_call_103 hQ rfl (Nat.le_of_ble_eq_true rfl) (Nat.le_of_ble_eq_true rfl)
  · refine K_aload_n dX7_call_90 rfl rfl ?_
    refine K_aload_n dX7_call_91 rfl rfl ?_
    refine K_getC hE dX7_call_92 f_X7_15_6 ha0 rfl rfl (fun h8 => ?_)
    refine K_getC hE dX7_call_95 f_X7_110_7 h8 rfl rfl (fun h9 => ?_)
    refine K_iload_n dX7_call_98 rfl rfl ?_
    refine K_chk (fun h10 => ?_)
    refine K_iald dX7_call_99 h9 h10 ?_
    refine K_bind (fun u11 hu11 => ?_)
    refine K_callVV (As := [.int (S.2.1 (E.2 (E.2 a0 1) 5) x2.toNatClampNeg)]) (k_X7_pushOfType fu hE ha0 hu11) dX7_call_100 v_X7_74 ha0 rfl rfl rfl rfl (Nat.le_of_ble_eq_true rfl) ⟨Nat.le_of_ble_eq_true rfl, Nat.le_of_ble_eq_true rfl, Nat.le_of_ble_eq_true rfl, Nat.le_of_ble_eq_true rfl⟩ ?_
    exact K_vret dX7_call_103 hQ rfl (Nat.le_of_ble_eq_true rfl) (Nat.le_of_ble_eq_true rfl)
def bd_X7_call_12 (fu : Nat) (E : Ev) (a0 : Nat) (rc12 : Int32 → Int32 → Int32 → St → Option St) (x1 : Int32) (x2 : Int32) (x3 : Int32) (S : St) : Option St :=
  if x3 < 0 then (
    if x1 = 35 then (
      if inb x2 30 = true then
        (
        (sp_X7_initialize fu E S a0 (S.2.1 (E.2 (E.2 a0 1) 3) x2.toNatClampNeg)).bind fun u21 =>
        some u21
        )
      else none
    ) else (
      if x1 = 36 then (
        if inb x2 30 = true then
          (
          (sp_X7_popOfType fu E S a0 (8 * (S.2.1 (E.2 (E.2 a0 1) 3) x2.toNatClampNeg))).bind fun u16 =>
          jb_X7_call_77 fu E a0 x2 u16
          )
        else none
      ) else (
        jb_X7_call_77 fu E a0 x2 S
      )
    )
  ) else (
    (sp_X8_parameterType fu E S (E.2 a0 1) x2 x3).bind fun u24 =>
    (sp_X7_popOfType fu E u24.2 a0 u24.1).bind fun u25 =>
    rc12 x1 x2 (x3 + (-1)) u25
  )
def lp_X7_call_12 (fu : Nat) (E : Ev) (a0 : Nat) : Nat → Int32 → Int32 → Int32 → St → Option St
  | 0, _, _, _, _ => none
  | f + 1, x1, x2, x3, S => bd_X7_call_12 fu E a0 (lp_X7_call_12 fu E a0 f) x1 x2 x3 S
set_option maxRecDepth 100000 in
theorem kl_X7_call_12 {X : Cx} {E : Ev} {t : St} {a0 : Nat} (hQ : EndR mX7_call X (PoV E t)) (hE : WE E) (fu : Nat) (ha0 : E.1 a0 = some (0, 6, 0)) : ∀ (f : Nat) (x1 : Int32) (x2 : Int32) (x3 : Int32) (S : St), K mX7_call X E 12 [(0, .ref a0), (1, .int x1), (2, .int x2), (3, .int x3)] [] S 0 0 (lp_X7_call_12 fu E a0 f x1 x2 x3 S) t := by
  intro f
  induction f with
  | zero => intro x1 x2 x3 S; exact K_none
  | succ f hrc12 =>
    intro x1 x2 x3 S
    show K _ _ _ _ _ _ _ _ _ (bd_X7_call_12 fu E a0 (lp_X7_call_12 fu E a0 f) x1 x2 x3 S) t
    unfold bd_X7_call_12
    refine K_iload_n dX7_call_12 rfl rfl ?_
    refine K_if_lt (tgt := 35) dX7_call_13 (by decide) (fun c26 => ?_) (fun c26 => ?_)
    · refine K_iload_n dX7_call_35 rfl rfl ?_
      refine K_bipush (v := 35) dX7_call_36 (by decide) ?_
      refine K_icmp_ne (tgt := 55) dX7_call_38 (by decide) (fun c22 => ?_) (fun c22 => ?_)
      · refine K_iload_n dX7_call_55 rfl rfl ?_
        refine K_bipush (v := 36) dX7_call_56 (by decide) ?_
        refine K_icmp_ne (tgt := 77) dX7_call_58 (by decide) (fun c17 => ?_) (fun c17 => ?_)
        · refine K.keep [0, 2] ?_
          exact kj_X7_call_77 hQ hE fu ha0 x2 S
        · refine K_aload_n dX7_call_61 rfl rfl ?_
          refine K_bipush (v := 8) dX7_call_62 (by decide) ?_
          refine K_aload_n dX7_call_64 rfl rfl ?_
          refine K_getC hE dX7_call_65 f_X7_15_6 ha0 rfl rfl (fun h13 => ?_)
          refine K_getC hE dX7_call_68 f_X7_162_7 h13 rfl rfl (fun h14 => ?_)
          refine K_iload_n dX7_call_71 rfl rfl ?_
          refine K_chk (fun h15 => ?_)
          refine K_iald dX7_call_72 h14 h15 ?_
          refine K_imul dX7_call_73 ?_
          refine K_bind (fun u16 hu16 => ?_)
          refine K_callVV (As := [.int (8 * (S.2.1 (E.2 (E.2 a0 1) 3) x2.toNatClampNeg))]) (k_X7_popOfType fu hE ha0 hu16) dX7_call_74 v_X7_88 ha0 rfl rfl rfl rfl (Nat.le_of_ble_eq_true rfl) ⟨Nat.le_of_ble_eq_true rfl, Nat.le_of_ble_eq_true rfl, Nat.le_of_ble_eq_true rfl, Nat.le_of_ble_eq_true rfl⟩ ?_
          refine K.keep [0, 2] ?_
          exact kj_X7_call_77 hQ hE fu ha0 x2 u16
      · refine K_aload_n dX7_call_41 rfl rfl ?_
        refine K_aload_n dX7_call_42 rfl rfl ?_
        refine K_getC hE dX7_call_43 f_X7_15_6 ha0 rfl rfl (fun h18 => ?_)
        refine K_getC hE dX7_call_46 f_X7_162_7 h18 rfl rfl (fun h19 => ?_)
        refine K_iload_n dX7_call_49 rfl rfl ?_
        refine K_chk (fun h20 => ?_)
        refine K_iald dX7_call_50 h19 h20 ?_
        refine K_bind (fun u21 hu21 => ?_)
        refine K_callVV (As := [.int (S.2.1 (E.2 (E.2 a0 1) 3) x2.toNatClampNeg)]) (k_X7_initialize fu hE ha0 hu21) dX7_call_51 v_X7_165 ha0 rfl rfl rfl rfl (Nat.le_of_ble_eq_true rfl) ⟨Nat.le_of_ble_eq_true rfl, Nat.le_of_ble_eq_true rfl, Nat.le_of_ble_eq_true rfl, Nat.le_of_ble_eq_true rfl⟩ ?_
        exact K_vret dX7_call_54 hQ rfl (Nat.le_of_ble_eq_true rfl) (Nat.le_of_ble_eq_true rfl)
    · refine K_aload_n dX7_call_16 rfl rfl ?_
      refine K_aload_n dX7_call_17 rfl rfl ?_
      refine K_getC hE dX7_call_18 f_X7_15_6 ha0 rfl rfl (fun h23 => ?_)
      refine K_iload_n dX7_call_21 rfl rfl ?_
      refine K_iload_n dX7_call_22 rfl rfl ?_
      refine K_bind (fun u24 hu24 => ?_)
      refine K_callVI (As := [.int x2, .int x3]) (k_X8_parameterType fu hE h23 hu24) dX7_call_23 v_X7_158 h23 rfl rfl rfl rfl (Nat.le_of_ble_eq_true rfl) ⟨Nat.le_of_ble_eq_true rfl, Nat.le_of_ble_eq_true rfl, Nat.le_of_ble_eq_true rfl, Nat.le_of_ble_eq_true rfl⟩ ?_
      refine K_bind (fun u25 hu25 => ?_)
      refine K_callVV (As := [.int u24.1]) (k_X7_popOfType fu hE ha0 hu25) dX7_call_26 v_X7_88 ha0 rfl rfl rfl rfl (Nat.le_of_ble_eq_true rfl) ⟨Nat.le_of_ble_eq_true rfl, Nat.le_of_ble_eq_true rfl, Nat.le_of_ble_eq_true rfl, Nat.le_of_ble_eq_true rfl⟩ ?_
      refine K_iinc (v := (x3 + (-1))) (ls' := [(0, _), (1, _), (2, _), (3, _)]) dX7_call_29 rfl rfl (by decide) rfl ?_
      refine K_goto (tgt := 12) dX7_call_32 (by decide) ?_
      refine K.keep [0, 1, 2, 3] ?_
      exact hrc12 x1 x2 (x3 + (-1)) u25
def sp_X7_call (fu : Nat) (E : Ev) (S : St) (a0 : Nat) (x1 : Int32) (x2 : Int32) : Option St :=
  if inb x2 30 = true then
    (
    bnd ((S.2.1 (E.2 (E.2 a0 1) 6) x2.toNatClampNeg) - 1) fun v4 =>
    lp_X7_call_12 fu E a0 fu x1 x2 v4 S
    )
  else none
set_option maxRecDepth 100000 in
theorem k_X7_call {l : Launch} (fu : Nat) {E : Ev} (hE : WE E) {a0 : Nat} (ha0 : E.1 a0 = some (0, 6, 0)) {x1 : Int32} {x2 : Int32} {S : St} {t : St} (h : sp_X7_call fu E S a0 x1 x2 = some t) : Cn l mX7_call [.ref a0, .int x1, .int x2] (hp E S) (PoV E t) := by
  refine Cn.of (by decide) rfl (Nat.le_of_ble_eq_true rfl) (fun X _ _ hQ => ?_)
  refine (?_ : K mX7_call X E 0 [(0, .ref a0), (1, .int x1), (2, .int x2)] [] S 0 0 (sp_X7_call fu E S a0 x1 x2) t) h
  unfold sp_X7_call
  refine K_aload_n dX7_call_0 rfl rfl ?_
  refine K_getC hE dX7_call_1 f_X7_15_6 ha0 rfl rfl (fun h1 => ?_)
  refine K_getC hE dX7_call_4 f_X7_155_7 h1 rfl rfl (fun h2 => ?_)
  refine K_iload_n dX7_call_7 rfl rfl ?_
  refine K_chk (fun h3 => ?_)
  refine K_iald dX7_call_8 h2 h3 ?_
  refine K_iconst (v := 1) dX7_call_9 (by decide) ?_
  refine K_isub dX7_call_10 ?_
  refine K_nmI (fun v4 => ?_)
  refine K_istore_n (ls' := [(0, _), (1, _), (2, _), (3, _)]) dX7_call_11 rfl (by decide) rfl ?_
  refine K.keep [0, 1, 2, 3] ?_
  exact kl_X7_call_12 hQ hE fu ha0 fu x1 x2 v4 S
def jb_X7_create_17 (fu : Nat) (E : Ev) (a0 b0 : Nat) (x1 : Int32) (y1 : Int32) (S : St) : Option St :=
  (sp_X7_require fu E S b0 y1 4).bind fun u3 =>
  if E.1 (u3.2.2.1 a0 3) = some (0, 2, 0) then
    (
    (sp_X3_replaceLocals fu E u3 (u3.2.2.1 a0 3) x1 (-2)).bind fun u5 =>
    (sp_X7_push fu E u5 a0 x1).bind fun u6 =>
    some u6
    )
  else none
set_option maxRecDepth 100000 in
theorem kj_X7_create_17 {X : Cx} {E : Ev} {t : St} {a0 b0 : Nat} (hQ : EndR mX7_create X (PoV E t)) (hE : WE E) (fu : Nat) (ha0 : E.1 a0 = some (0, 6, 0)) (hb0 : E.1 b0 = some (0, 6, 0)) (x1 : Int32) (y1 : Int32) (S : St) : K mX7_create X E 17 [(0, .ref a0), (1, .int x1)] [.int y1, .ref b0] S 0 0 (jb_X7_create_17 fu E a0 b0 x1 y1 S) t := by
  unfold jb_X7_create_17
  refine K_iconst (v := 4) dX7_create_17 (by decide) ?_
  refine K_bind (fun u3 hu3 => ?_)
  refine K_callVV (As := [.int y1, .int 4]) (k_X7_require fu hE hb0 hu3) dX7_create_18 v_X7_80 hb0 rfl rfl rfl rfl (Nat.le_of_ble_eq_true rfl) ⟨Nat.le_of_ble_eq_true rfl, Nat.le_of_ble_eq_true rfl, Nat.le_of_ble_eq_true rfl, Nat.le_of_ble_eq_true rfl⟩ ?_
  refine K_aload_n dX7_create_21 rfl rfl ?_
  refine K_ite (fun h4 => ?_) (fun _ => K_none)
  refine K_getM hE dX7_create_22 f_X7_26_6 ha0 rfl h4 ?_
  refine K_iload_n dX7_create_25 rfl rfl ?_
  refine K_bipush (v := (-2)) dX7_create_26 (by decide) ?_
  refine K_bind (fun u5 hu5 => ?_)
  refine K_callVV (As := [.int x1, .int (-2)]) (k_X3_replaceLocals fu hE h4 hu5) dX7_create_28 v_X7_152 h4 rfl rfl rfl rfl (Nat.le_of_ble_eq_true rfl) ⟨Nat.le_of_ble_eq_true rfl, Nat.le_of_ble_eq_true rfl, Nat.le_of_ble_eq_true rfl, Nat.le_of_ble_eq_true rfl⟩ ?_
  refine K_aload_n dX7_create_31 rfl rfl ?_
  refine K_iload_n dX7_create_32 rfl rfl ?_
  refine K_bind (fun u6 hu6 => ?_)
  refine K_callVV (As := [.int x1]) (k_X7_push fu hE ha0 hu6) dX7_create_33 v_X7_71 ha0 rfl rfl rfl rfl (Nat.le_of_ble_eq_true rfl) ⟨Nat.le_of_ble_eq_true rfl, Nat.le_of_ble_eq_true rfl, Nat.le_of_ble_eq_true rfl, Nat.le_of_ble_eq_true rfl⟩ ?_
  exact K_vret dX7_create_36 hQ rfl (Nat.le_of_ble_eq_true rfl) (Nat.le_of_ble_eq_true rfl)
def sp_X7_create (fu : Nat) (E : Ev) (S : St) (a0 : Nat) (x1 : Int32) : Option St :=
  if E.1 (S.2.2.1 a0 3) = some (0, 2, 0) then
    (
    (sp_X3_hasOnStack fu E S (S.2.2.1 a0 3) x1).bind fun u2 =>
    if u2.1 = 0 then (
      jb_X7_create_17 fu E a0 a0 x1 1 u2.2
    ) else (
      jb_X7_create_17 fu E a0 a0 x1 0 u2.2
    )
    )
  else none
set_option maxRecDepth 100000 in
theorem k_X7_create {l : Launch} (fu : Nat) {E : Ev} (hE : WE E) {a0 : Nat} (ha0 : E.1 a0 = some (0, 6, 0)) {x1 : Int32} {S : St} {t : St} (h : sp_X7_create fu E S a0 x1 = some t) : Cn l mX7_create [.ref a0, .int x1] (hp E S) (PoV E t) := by
  refine Cn.of (by decide) rfl (Nat.le_of_ble_eq_true rfl) (fun X _ _ hQ => ?_)
  refine (?_ : K mX7_create X E 0 [(0, .ref a0), (1, .int x1)] [] S 0 0 (sp_X7_create fu E S a0 x1) t) h
  unfold sp_X7_create
  refine K_aload_n dX7_create_0 rfl rfl ?_
  refine K_aload_n dX7_create_1 rfl rfl ?_
  refine K_ite (fun h1 => ?_) (fun _ => K_none)
  refine K_getM hE dX7_create_2 f_X7_26_6 ha0 rfl h1 ?_
  refine K_iload_n dX7_create_5 rfl rfl ?_
  refine K_bind (fun u2 hu2 => ?_)
  refine K_callVI (As := [.int x1]) (k_X3_hasOnStack fu hE h1 hu2) dX7_create_6 v_X7_149 h1 rfl rfl rfl rfl (Nat.le_of_ble_eq_true rfl) ⟨Nat.le_of_ble_eq_true rfl, Nat.le_of_ble_eq_true rfl, Nat.le_of_ble_eq_true rfl, Nat.le_of_ble_eq_true rfl⟩ ?_
  refine K_if_ne (tgt := 16) dX7_create_9 (by decide) (fun c7 => ?_) (fun c7 => ?_)
  · refine K_iconst (v := 0) dX7_create_16 (by decide) ?_
    refine K.keep [0, 1] ?_
    exact kj_X7_create_17 hQ hE fu ha0 ha0 x1 0 u2.2
  · refine K_iconst (v := 1) dX7_create_12 (by decide) ?_
    refine K_goto (tgt := 17) dX7_create_13 (by decide) ?_
    refine K.keep [0, 1] ?_
    exact kj_X7_create_17 hQ hE fu ha0 ha0 x1 1 u2.2
def sp_X7_isArrayType (fu : Nat) (E : Ev) (S : St) (x0 : Int32) : Option (Int32 × St) :=
  if x0 < 0 then (
    some (0, S)
  ) else (
    if (x0 - x0 / 8 * 8) ≤ 0 then (
      some (0, S)
    ) else (
      some (1, S)
    )
  )
set_option maxRecDepth 100000 in
theorem k_X7_isArrayType {l : Launch} (fu : Nat) {E : Ev} (hE : WE E) {x0 : Int32} {S : St} {t : (Int32 × St)} (h : sp_X7_isArrayType fu E S x0 = some t) : Cn l mX7_isArrayType [.int x0] (hp E S) (PoI E t) := by
  refine Cn.of (by decide) rfl (Nat.le_of_ble_eq_true rfl) (fun X _ _ hQ => ?_)
  refine (?_ : K mX7_isArrayType X E 0 [(0, .int x0)] [] S 0 0 (sp_X7_isArrayType fu E S x0) t) h
  unfold sp_X7_isArrayType
  refine K_iload_n dX7_isArrayType_0 rfl rfl ?_
  refine K_if_lt (tgt := 15) dX7_isArrayType_1 (by decide) (fun c2 => ?_) (fun c2 => ?_)
  · refine K_iconst (v := 0) dX7_isArrayType_15 (by decide) ?_
    exact K_zret dX7_isArrayType_16 hQ rfl rfl (Nat.le_of_ble_eq_true rfl) (Nat.le_of_ble_eq_true rfl)
  · refine K_iload_n dX7_isArrayType_4 rfl rfl ?_
    refine K_bipush (v := 8) dX7_isArrayType_5 (by decide) ?_
    refine K_irem dX7_isArrayType_7 (by decide) ?_
    refine K_if_le (tgt := 15) dX7_isArrayType_8 (by decide) (fun c1 => ?_) (fun c1 => ?_)
    · refine K_iconst (v := 0) dX7_isArrayType_15 (by decide) ?_
      exact K_zret dX7_isArrayType_16 hQ rfl rfl (Nat.le_of_ble_eq_true rfl) (Nat.le_of_ble_eq_true rfl)
    · refine K_iconst (v := 1) dX7_isArrayType_11 (by decide) ?_
      refine K_goto (tgt := 16) dX7_isArrayType_12 (by decide) ?_
      exact K_zret dX7_isArrayType_16 hQ rfl rfl (Nat.le_of_ble_eq_true rfl) (Nat.le_of_ble_eq_true rfl)
def sp_X7_popReference (fu : Nat) (E : Ev) (S : St) (a0 : Nat) : Option (Int32 × St) :=
  (sp_X7_popSlot fu E S a0).bind fun u1 =>
  (sp_X11_isReference fu E u1.2 u1.1).bind fun u2 =>
  (sp_X7_require fu E u2.2 a0 u2.1 4).bind fun u3 =>
  some (u1.1, u3)
set_option maxRecDepth 100000 in
theorem k_X7_popReference {l : Launch} (fu : Nat) {E : Ev} (hE : WE E) {a0 : Nat} (ha0 : E.1 a0 = some (0, 6, 0)) {S : St} {t : (Int32 × St)} (h : sp_X7_popReference fu E S a0 = some t) : Cn l mX7_popReference [.ref a0] (hp E S) (PoI E t) := by
  refine Cn.of (by decide) rfl (Nat.le_of_ble_eq_true rfl) (fun X _ _ hQ => ?_)
  refine (?_ : K mX7_popReference X E 0 [(0, .ref a0)] [] S 0 0 (sp_X7_popReference fu E S a0) t) h
  unfold sp_X7_popReference
  refine K_aload_n dX7_popReference_0 rfl rfl ?_
  refine K_bind (fun u1 hu1 => ?_)
  refine K_callVI (As := []) (k_X7_popSlot fu hE ha0 hu1) dX7_popReference_1 v_X7_104 ha0 rfl rfl rfl rfl (Nat.le_of_ble_eq_true rfl) ⟨Nat.le_of_ble_eq_true rfl, Nat.le_of_ble_eq_true rfl, Nat.le_of_ble_eq_true rfl, Nat.le_of_ble_eq_true rfl⟩ ?_
  refine K_istore_n (ls' := [(0, _), (1, _)]) dX7_popReference_4 rfl (by decide) rfl ?_
  refine K_aload_n dX7_popReference_5 rfl rfl ?_
  refine K_iload_n dX7_popReference_6 rfl rfl ?_
  refine K_bind (fun u2 hu2 => ?_)
  refine K_callSI (As := [.int u1.1]) (k_X11_isReference fu hE hu2) dX7_popReference_7 s_X7_177 rfl rfl (Nat.le_of_ble_eq_true rfl) ⟨Nat.le_of_ble_eq_true rfl, Nat.le_of_ble_eq_true rfl, Nat.le_of_ble_eq_true rfl, Nat.le_of_ble_eq_true rfl⟩ ?_
  refine K_iconst (v := 4) dX7_popReference_10 (by decide) ?_
  refine K_bind (fun u3 hu3 => ?_)
  refine K_callVV (As := [.int u2.1, .int 4]) (k_X7_require fu hE ha0 hu3) dX7_popReference_11 v_X7_80 ha0 rfl rfl rfl rfl (Nat.le_of_ble_eq_true rfl) ⟨Nat.le_of_ble_eq_true rfl, Nat.le_of_ble_eq_true rfl, Nat.le_of_ble_eq_true rfl, Nat.le_of_ble_eq_true rfl⟩ ?_
  refine K_iload_n dX7_popReference_14 rfl rfl ?_
  exact K_iret dX7_popReference_15 hQ rfl (Nat.le_of_ble_eq_true rfl) (Nat.le_of_ble_eq_true rfl)
def jb_X7_popReferenceArray_26 (fu : Nat) (E : Ev) (a0 : Nat) (x1 : Int32) (S : St) : Option (Int32 × St) :=
  (sp_X7_require fu E S a0 1 4).bind fun u2 =>
  some (x1, u2)
set_option maxRecDepth 100000 in
theorem kj_X7_popReferenceArray_26 {X : Cx} {E : Ev} {t : (Int32 × St)} {a0 : Nat} (hQ : EndR mX7_popReferenceArray X (PoI E t)) (hE : WE E) (fu : Nat) (ha0 : E.1 a0 = some (0, 6, 0)) (x1 : Int32) (S : St) : K mX7_popReferenceArray X E 26 [(0, .ref a0), (1, .int x1)] [] S 0 0 (jb_X7_popReferenceArray_26 fu E a0 x1 S) t := by
  unfold jb_X7_popReferenceArray_26
  refine K_iconst (v := 1) dX7_popReferenceArray_26 (by decide) ?_
  refine K_goto (tgt := 31) dX7_popReferenceArray_27 (by decide) ?_
  refine K_istore_n (ls' := [(0, _), (1, _), (2, _)]) dX7_popReferenceArray_31 rfl (by decide) rfl ?_
  refine K_aload_n dX7_popReferenceArray_32 rfl rfl ?_
  refine K_iload_n dX7_popReferenceArray_33 rfl rfl ?_
  refine K_iconst (v := 4) dX7_popReferenceArray_34 (by decide) ?_
  refine K_bind (fun u2 hu2 => ?_)
  refine K_callVV (As := [.int 1, .int 4]) (k_X7_require fu hE ha0 hu2) dX7_popReferenceArray_35 v_X7_80 ha0 rfl rfl rfl rfl (Nat.le_of_ble_eq_true rfl) ⟨Nat.le_of_ble_eq_true rfl, Nat.le_of_ble_eq_true rfl, Nat.le_of_ble_eq_true rfl, Nat.le_of_ble_eq_true rfl⟩ ?_
  refine K_iload_n dX7_popReferenceArray_38 rfl rfl ?_
  exact K_iret dX7_popReferenceArray_39 hQ rfl (Nat.le_of_ble_eq_true rfl) (Nat.le_of_ble_eq_true rfl)
def jb_X7_popReferenceArray_30 (fu : Nat) (E : Ev) (a0 : Nat) (x1 : Int32) (S : St) : Option (Int32 × St) :=
  (sp_X7_require fu E S a0 0 4).bind fun u4 =>
  some (x1, u4)
set_option maxRecDepth 100000 in
theorem kj_X7_popReferenceArray_30 {X : Cx} {E : Ev} {t : (Int32 × St)} {a0 : Nat} (hQ : EndR mX7_popReferenceArray X (PoI E t)) (hE : WE E) (fu : Nat) (ha0 : E.1 a0 = some (0, 6, 0)) (x1 : Int32) (S : St) : K mX7_popReferenceArray X E 30 [(0, .ref a0), (1, .int x1)] [] S 0 0 (jb_X7_popReferenceArray_30 fu E a0 x1 S) t := by
  unfold jb_X7_popReferenceArray_30
  refine K_iconst (v := 0) dX7_popReferenceArray_30 (by decide) ?_
  refine K_istore_n (ls' := [(0, _), (1, _), (2, _)]) dX7_popReferenceArray_31 rfl (by decide) rfl ?_
  refine K_aload_n dX7_popReferenceArray_32 rfl rfl ?_
  refine K_iload_n dX7_popReferenceArray_33 rfl rfl ?_
  refine K_iconst (v := 4) dX7_popReferenceArray_34 (by decide) ?_
  refine K_bind (fun u4 hu4 => ?_)
  refine K_callVV (As := [.int 0, .int 4]) (k_X7_require fu hE ha0 hu4) dX7_popReferenceArray_35 v_X7_80 ha0 rfl rfl rfl rfl (Nat.le_of_ble_eq_true rfl) ⟨Nat.le_of_ble_eq_true rfl, Nat.le_of_ble_eq_true rfl, Nat.le_of_ble_eq_true rfl, Nat.le_of_ble_eq_true rfl⟩ ?_
  refine K_iload_n dX7_popReferenceArray_38 rfl rfl ?_
  exact K_iret dX7_popReferenceArray_39 hQ rfl (Nat.le_of_ble_eq_true rfl) (Nat.le_of_ble_eq_true rfl)
def sp_X7_popReferenceArray (fu : Nat) (E : Ev) (S : St) (a0 : Nat) : Option (Int32 × St) :=
  (sp_X7_popSlot fu E S a0).bind fun u1 =>
  if u1.1 = (-1) then (
    jb_X7_popReferenceArray_26 fu E a0 u1.1 u1.2
  ) else (
    (sp_X7_isArrayType fu E u1.2 u1.1).bind fun u3 =>
    if u3.1 = 0 then (
      jb_X7_popReferenceArray_30 fu E a0 u1.1 u3.2
    ) else (
      (sp_X11_isReferenceType fu E u3.2 (u1.1 - 1)).bind fun u5 =>
      if u5.1 = 0 then (
        jb_X7_popReferenceArray_30 fu E a0 u1.1 u5.2
      ) else (
        jb_X7_popReferenceArray_26 fu E a0 u1.1 u5.2
      )
    )
  )
set_option maxRecDepth 100000 in
theorem k_X7_popReferenceArray {l : Launch} (fu : Nat) {E : Ev} (hE : WE E) {a0 : Nat} (ha0 : E.1 a0 = some (0, 6, 0)) {S : St} {t : (Int32 × St)} (h : sp_X7_popReferenceArray fu E S a0 = some t) : Cn l mX7_popReferenceArray [.ref a0] (hp E S) (PoI E t) := by
  refine Cn.of (by decide) rfl (Nat.le_of_ble_eq_true rfl) (fun X _ _ hQ => ?_)
  refine (?_ : K mX7_popReferenceArray X E 0 [(0, .ref a0)] [] S 0 0 (sp_X7_popReferenceArray fu E S a0) t) h
  unfold sp_X7_popReferenceArray
  refine K_aload_n dX7_popReferenceArray_0 rfl rfl ?_
  refine K_bind (fun u1 hu1 => ?_)
  refine K_callVI (As := []) (k_X7_popSlot fu hE ha0 hu1) dX7_popReferenceArray_1 v_X7_104 ha0 rfl rfl rfl rfl (Nat.le_of_ble_eq_true rfl) ⟨Nat.le_of_ble_eq_true rfl, Nat.le_of_ble_eq_true rfl, Nat.le_of_ble_eq_true rfl, Nat.le_of_ble_eq_true rfl⟩ ?_
  refine K_istore_n (ls' := [(0, _), (1, _)]) dX7_popReferenceArray_4 rfl (by decide) rfl ?_
  refine K_iload_n dX7_popReferenceArray_5 rfl rfl ?_
  refine K_iconst (v := (-1)) dX7_popReferenceArray_6 (by decide) ?_
  refine K_icmp_eq (tgt := 26) dX7_popReferenceArray_7 (by decide) (fun c8 => ?_) (fun c8 => ?_)
  · refine K.keep [0, 1] ?_
    exact kj_X7_popReferenceArray_26 hQ hE fu ha0 u1.1 u1.2
  · refine K_iload_n dX7_popReferenceArray_10 rfl rfl ?_
    refine K_bind (fun u3 hu3 => ?_)
    refine K_callSI (As := [.int u1.1]) (k_X7_isArrayType fu hE hu3) dX7_popReferenceArray_11 s_X7_146 rfl rfl (Nat.le_of_ble_eq_true rfl) ⟨Nat.le_of_ble_eq_true rfl, Nat.le_of_ble_eq_true rfl, Nat.le_of_ble_eq_true rfl, Nat.le_of_ble_eq_true rfl⟩ ?_
    refine K_if_eq (tgt := 30) dX7_popReferenceArray_14 (by decide) (fun c7 => ?_) (fun c7 => ?_)
    · refine K.keep [0, 1] ?_
      exact kj_X7_popReferenceArray_30 hQ hE fu ha0 u1.1 u3.2
    · refine K_iload_n dX7_popReferenceArray_17 rfl rfl ?_
      refine K_iconst (v := 1) dX7_popReferenceArray_18 (by decide) ?_
      refine K_isub dX7_popReferenceArray_19 ?_
      refine K_bind (fun u5 hu5 => ?_)
      refine K_callSI (As := [.int (u1.1 - 1)]) (k_X11_isReferenceType fu hE hu5) dX7_popReferenceArray_20 s_X7_121 rfl rfl (Nat.le_of_ble_eq_true rfl) ⟨Nat.le_of_ble_eq_true rfl, Nat.le_of_ble_eq_true rfl, Nat.le_of_ble_eq_true rfl, Nat.le_of_ble_eq_true rfl⟩ ?_
      refine K_if_eq (tgt := 30) dX7_popReferenceArray_23 (by decide) (fun c6 => ?_) (fun c6 => ?_)
      · refine K.keep [0, 1] ?_
        exact kj_X7_popReferenceArray_30 hQ hE fu ha0 u1.1 u5.2
      · refine K.keep [0, 1] ?_
        exact kj_X7_popReferenceArray_26 hQ hE fu ha0 u1.1 u5.2
def jb_X7_executeArray_155 (fu : Nat) (E : Ev) (a0 b0 : Nat) (S : St) : Option St :=
  (sp_X7_require fu E S b0 1 4).bind fun u23 =>
  (sp_X7_push fu E u23 a0 0).bind fun u24 =>
  some u24
set_option maxRecDepth 100000 in
theorem kj_X7_executeArray_155 {X : Cx} {E : Ev} {t : St} {a0 b0 : Nat} (hQ : EndR mX7_executeArray X (PoV E t)) (hE : WE E) (fu : Nat) (ha0 : E.1 a0 = some (0, 6, 0)) (hb0 : E.1 b0 = some (0, 6, 0)) (S : St) : K mX7_executeArray X E 155 [(0, .ref a0)] [.ref b0] S 0 0 (jb_X7_executeArray_155 fu E a0 b0 S) t := by
  unfold jb_X7_executeArray_155
  refine K_iconst (v := 1) dX7_executeArray_155 (by decide) ?_
  refine K_goto (tgt := 160) dX7_executeArray_156 (by decide) ?_
  refine K_iconst (v := 4) dX7_executeArray_160 (by decide) ?_
  refine K_bind (fun u23 hu23 => ?_)
  refine K_callVV (As := [.int 1, .int 4]) (k_X7_require fu hE hb0 hu23) dX7_executeArray_161 v_X7_80 hb0 rfl rfl rfl rfl (Nat.le_of_ble_eq_true rfl) ⟨Nat.le_of_ble_eq_true rfl, Nat.le_of_ble_eq_true rfl, Nat.le_of_ble_eq_true rfl, Nat.le_of_ble_eq_true rfl⟩ ?_
  refine K_aload_n dX7_executeArray_164 rfl rfl ?_
  refine K_iconst (v := 0) dX7_executeArray_165 (by decide) ?_
  refine K_bind (fun u24 hu24 => ?_)
  refine K_callVV (As := [.int 0]) (k_X7_push fu hE ha0 hu24) dX7_executeArray_166 v_X7_71 ha0 rfl rfl rfl rfl (Nat.le_of_ble_eq_true rfl) ⟨Nat.le_of_ble_eq_true rfl, Nat.le_of_ble_eq_true rfl, Nat.le_of_ble_eq_true rfl, Nat.le_of_ble_eq_true rfl⟩ ?_
  exact K_vret dX7_executeArray_169 hQ rfl (Nat.le_of_ble_eq_true rfl) (Nat.le_of_ble_eq_true rfl)
def sp_X7_executeArray (fu : Nat) (E : Ev) (S : St) (a0 : Nat) (x1 : Int32) (x2 : Int32) : Option St :=
  if x1 = 38 then (
    (sp_X7_popOfType fu E S a0 0).bind fun u2 =>
    (sp_X7_push fu E u2 a0 (x2 + 1)).bind fun u3 =>
    some u3
  ) else (
    if x1 = 39 then (
      (sp_X7_popOfType fu E S a0 0).bind fun u5 =>
      (sp_X7_popOfType fu E u5 a0 1).bind fun u6 =>
      (sp_X7_push fu E u6 a0 0).bind fun u7 =>
      some u7
    ) else (
      if x1 = 40 then (
        (sp_X7_popOfType fu E S a0 0).bind fun u9 =>
        (sp_X7_popOfType fu E u9 a0 0).bind fun u10 =>
        (sp_X7_popOfType fu E u10 a0 1).bind fun u11 =>
        some u11
      ) else (
        if x1 = 41 then (
          (sp_X7_popOfType fu E S a0 0).bind fun u13 =>
          (sp_X7_popReferenceArray fu E u13 a0).bind fun u14 =>
          if u14.1 = (-1) then (
            (sp_X7_push fu E u14.2 a0 (-1)).bind fun u16 =>
            some u16
          ) else (
            (sp_X7_push fu E u14.2 a0 (u14.1 - 1)).bind fun u15 =>
            some u15
          )
        ) else (
          if x1 = 42 then (
            (sp_X7_popReference fu E S a0).bind fun u19 =>
            (sp_X7_popOfType fu E u19.2 a0 0).bind fun u20 =>
            (sp_X7_popReferenceArray fu E u20 a0).bind fun u21 =>
            some u21.2
          ) else (
            (sp_X7_popSlot fu E S a0).bind fun u22 =>
            if u22.1 = (-1) then (
              jb_X7_executeArray_155 fu E a0 a0 u22.2
            ) else (
              (sp_X7_isArrayType fu E u22.2 u22.1).bind fun u25 =>
              if u25.1 = 0 then (
                (sp_X7_require fu E u25.2 a0 0 4).bind fun u26 =>
                (sp_X7_push fu E u26 a0 0).bind fun u27 =>
                some u27
              ) else (
                jb_X7_executeArray_155 fu E a0 a0 u25.2
              )
            )
          )
        )
      )
    )
  )
set_option maxRecDepth 100000 in
theorem k_X7_executeArray {l : Launch} (fu : Nat) {E : Ev} (hE : WE E) {a0 : Nat} (ha0 : E.1 a0 = some (0, 6, 0)) {x1 : Int32} {x2 : Int32} {S : St} {t : St} (h : sp_X7_executeArray fu E S a0 x1 x2 = some t) : Cn l mX7_executeArray [.ref a0, .int x1, .int x2] (hp E S) (PoV E t) := by
  refine Cn.of (by decide) rfl (Nat.le_of_ble_eq_true rfl) (fun X _ _ hQ => ?_)
  refine (?_ : K mX7_executeArray X E 0 [(0, .ref a0), (1, .int x1), (2, .int x2)] [] S 0 0 (sp_X7_executeArray fu E S a0 x1 x2) t) h
  unfold sp_X7_executeArray
  refine K_iload_n dX7_executeArray_0 rfl rfl ?_
  refine K_ite (fun c1 => ?_) (fun c1 => ?_)
  · refine K_tswIn (tgt := 36) 38 dX7_executeArray_1 c1 (by decide) (by decide) rfl (by decide) ?_
    refine K_aload_n dX7_executeArray_36 rfl rfl ?_
    refine K_iconst (v := 0) dX7_executeArray_37 (by decide) ?_
    refine K_bind (fun u2 hu2 => ?_)
    refine K_callVV (As := [.int 0]) (k_X7_popOfType fu hE ha0 hu2) dX7_executeArray_38 v_X7_88 ha0 rfl rfl rfl rfl (Nat.le_of_ble_eq_true rfl) ⟨Nat.le_of_ble_eq_true rfl, Nat.le_of_ble_eq_true rfl, Nat.le_of_ble_eq_true rfl, Nat.le_of_ble_eq_true rfl⟩ ?_
    refine K_aload_n dX7_executeArray_41 rfl rfl ?_
    refine K_iload_n dX7_executeArray_42 rfl rfl ?_
    refine K_iconst (v := 1) dX7_executeArray_43 (by decide) ?_
    refine K_iadd dX7_executeArray_44 ?_
    refine K_bind (fun u3 hu3 => ?_)
    refine K_callVV (As := [.int (x2 + 1)]) (k_X7_push fu hE ha0 hu3) dX7_executeArray_45 v_X7_71 ha0 rfl rfl rfl rfl (Nat.le_of_ble_eq_true rfl) ⟨Nat.le_of_ble_eq_true rfl, Nat.le_of_ble_eq_true rfl, Nat.le_of_ble_eq_true rfl, Nat.le_of_ble_eq_true rfl⟩ ?_
    refine K_goto (tgt := 169) dX7_executeArray_48 (by decide) ?_
    exact K_vret dX7_executeArray_169 hQ rfl (Nat.le_of_ble_eq_true rfl) (Nat.le_of_ble_eq_true rfl)
  · refine K_ite (fun c4 => ?_) (fun c4 => ?_)
    · refine K_tswIn (tgt := 51) 39 dX7_executeArray_1 c4 (by decide) (by decide) rfl (by decide) ?_
      refine K_aload_n dX7_executeArray_51 rfl rfl ?_
      refine K_iconst (v := 0) dX7_executeArray_52 (by decide) ?_
      refine K_bind (fun u5 hu5 => ?_)
      refine K_callVV (As := [.int 0]) (k_X7_popOfType fu hE ha0 hu5) dX7_executeArray_53 v_X7_88 ha0 rfl rfl rfl rfl (Nat.le_of_ble_eq_true rfl) ⟨Nat.le_of_ble_eq_true rfl, Nat.le_of_ble_eq_true rfl, Nat.le_of_ble_eq_true rfl, Nat.le_of_ble_eq_true rfl⟩ ?_
      refine K_aload_n dX7_executeArray_56 rfl rfl ?_
      refine K_iconst (v := 1) dX7_executeArray_57 (by decide) ?_
      refine K_bind (fun u6 hu6 => ?_)
      refine K_callVV (As := [.int 1]) (k_X7_popOfType fu hE ha0 hu6) dX7_executeArray_58 v_X7_88 ha0 rfl rfl rfl rfl (Nat.le_of_ble_eq_true rfl) ⟨Nat.le_of_ble_eq_true rfl, Nat.le_of_ble_eq_true rfl, Nat.le_of_ble_eq_true rfl, Nat.le_of_ble_eq_true rfl⟩ ?_
      refine K_aload_n dX7_executeArray_61 rfl rfl ?_
      refine K_iconst (v := 0) dX7_executeArray_62 (by decide) ?_
      refine K_bind (fun u7 hu7 => ?_)
      refine K_callVV (As := [.int 0]) (k_X7_push fu hE ha0 hu7) dX7_executeArray_63 v_X7_71 ha0 rfl rfl rfl rfl (Nat.le_of_ble_eq_true rfl) ⟨Nat.le_of_ble_eq_true rfl, Nat.le_of_ble_eq_true rfl, Nat.le_of_ble_eq_true rfl, Nat.le_of_ble_eq_true rfl⟩ ?_
      refine K_goto (tgt := 169) dX7_executeArray_66 (by decide) ?_
      exact K_vret dX7_executeArray_169 hQ rfl (Nat.le_of_ble_eq_true rfl) (Nat.le_of_ble_eq_true rfl)
    · refine K_ite (fun c8 => ?_) (fun c8 => ?_)
      · refine K_tswIn (tgt := 69) 40 dX7_executeArray_1 c8 (by decide) (by decide) rfl (by decide) ?_
        refine K_aload_n dX7_executeArray_69 rfl rfl ?_
        refine K_iconst (v := 0) dX7_executeArray_70 (by decide) ?_
        refine K_bind (fun u9 hu9 => ?_)
        refine K_callVV (As := [.int 0]) (k_X7_popOfType fu hE ha0 hu9) dX7_executeArray_71 v_X7_88 ha0 rfl rfl rfl rfl (Nat.le_of_ble_eq_true rfl) ⟨Nat.le_of_ble_eq_true rfl, Nat.le_of_ble_eq_true rfl, Nat.le_of_ble_eq_true rfl, Nat.le_of_ble_eq_true rfl⟩ ?_
        refine K_aload_n dX7_executeArray_74 rfl rfl ?_
        refine K_iconst (v := 0) dX7_executeArray_75 (by decide) ?_
        refine K_bind (fun u10 hu10 => ?_)
        refine K_callVV (As := [.int 0]) (k_X7_popOfType fu hE ha0 hu10) dX7_executeArray_76 v_X7_88 ha0 rfl rfl rfl rfl (Nat.le_of_ble_eq_true rfl) ⟨Nat.le_of_ble_eq_true rfl, Nat.le_of_ble_eq_true rfl, Nat.le_of_ble_eq_true rfl, Nat.le_of_ble_eq_true rfl⟩ ?_
        refine K_aload_n dX7_executeArray_79 rfl rfl ?_
        refine K_iconst (v := 1) dX7_executeArray_80 (by decide) ?_
        refine K_bind (fun u11 hu11 => ?_)
        refine K_callVV (As := [.int 1]) (k_X7_popOfType fu hE ha0 hu11) dX7_executeArray_81 v_X7_88 ha0 rfl rfl rfl rfl (Nat.le_of_ble_eq_true rfl) ⟨Nat.le_of_ble_eq_true rfl, Nat.le_of_ble_eq_true rfl, Nat.le_of_ble_eq_true rfl, Nat.le_of_ble_eq_true rfl⟩ ?_
        refine K_goto (tgt := 169) dX7_executeArray_84 (by decide) ?_
        exact K_vret dX7_executeArray_169 hQ rfl (Nat.le_of_ble_eq_true rfl) (Nat.le_of_ble_eq_true rfl)
      · refine K_ite (fun c12 => ?_) (fun c12 => ?_)
        · refine K_tswIn (tgt := 87) 41 dX7_executeArray_1 c12 (by decide) (by decide) rfl (by decide) ?_
          refine K_aload_n dX7_executeArray_87 rfl rfl ?_
          refine K_iconst (v := 0) dX7_executeArray_88 (by decide) ?_
          refine K_bind (fun u13 hu13 => ?_)
          refine K_callVV (As := [.int 0]) (k_X7_popOfType fu hE ha0 hu13) dX7_executeArray_89 v_X7_88 ha0 rfl rfl rfl rfl (Nat.le_of_ble_eq_true rfl) ⟨Nat.le_of_ble_eq_true rfl, Nat.le_of_ble_eq_true rfl, Nat.le_of_ble_eq_true rfl, Nat.le_of_ble_eq_true rfl⟩ ?_
          refine K_aload_n dX7_executeArray_92 rfl rfl ?_
          refine K_bind (fun u14 hu14 => ?_)
          refine K_callVI (As := []) (k_X7_popReferenceArray fu hE ha0 hu14) dX7_executeArray_93 v_X7_143 ha0 rfl rfl rfl rfl (Nat.le_of_ble_eq_true rfl) ⟨Nat.le_of_ble_eq_true rfl, Nat.le_of_ble_eq_true rfl, Nat.le_of_ble_eq_true rfl, Nat.le_of_ble_eq_true rfl⟩ ?_
          refine K_istore_n (ls' := [(0, _), (1, _), (2, _), (3, _)]) dX7_executeArray_96 rfl (by decide) rfl ?_
          refine K_aload_n dX7_executeArray_97 rfl rfl ?_
          refine K_iload_n dX7_executeArray_98 rfl rfl ?_
          refine K_iconst (v := (-1)) dX7_executeArray_99 (by decide) ?_
          refine K_icmp_ne (tgt := 107) dX7_executeArray_100 (by decide) (fun c17 => ?_) (fun c17 => ?_)
          · refine K_iload_n dX7_executeArray_107 rfl rfl ?_
            refine K_iconst (v := 1) dX7_executeArray_108 (by decide) ?_
            refine K_isub dX7_executeArray_109 ?_
            refine K_bind (fun u15 hu15 => ?_)
            refine K_callVV (As := [.int (u14.1 - 1)]) (k_X7_push fu hE ha0 hu15) dX7_executeArray_110 v_X7_71 ha0 rfl rfl rfl rfl (Nat.le_of_ble_eq_true rfl) ⟨Nat.le_of_ble_eq_true rfl, Nat.le_of_ble_eq_true rfl, Nat.le_of_ble_eq_true rfl, Nat.le_of_ble_eq_true rfl⟩ ?_
            refine K_goto (tgt := 169) dX7_executeArray_113 (by decide) ?_
            exact K_vret dX7_executeArray_169 hQ rfl (Nat.le_of_ble_eq_true rfl) (Nat.le_of_ble_eq_true rfl)
          · refine K_iconst (v := (-1)) dX7_executeArray_103 (by decide) ?_
            refine K_goto (tgt := 110) dX7_executeArray_104 (by decide) ?_
            refine K_bind (fun u16 hu16 => ?_)
            refine K_callVV (As := [.int (-1)]) (k_X7_push fu hE ha0 hu16) dX7_executeArray_110 v_X7_71 ha0 rfl rfl rfl rfl (Nat.le_of_ble_eq_true rfl) ⟨Nat.le_of_ble_eq_true rfl, Nat.le_of_ble_eq_true rfl, Nat.le_of_ble_eq_true rfl, Nat.le_of_ble_eq_true rfl⟩ ?_
            refine K_goto (tgt := 169) dX7_executeArray_113 (by decide) ?_
            exact K_vret dX7_executeArray_169 hQ rfl (Nat.le_of_ble_eq_true rfl) (Nat.le_of_ble_eq_true rfl)
        · refine K_ite (fun c18 => ?_) (fun c18 => ?_)
          · refine K_tswIn (tgt := 116) 42 dX7_executeArray_1 c18 (by decide) (by decide) rfl (by decide) ?_
            refine K_aload_n dX7_executeArray_116 rfl rfl ?_
            refine K_bind (fun u19 hu19 => ?_)
            refine K_callVI (As := []) (k_X7_popReference fu hE ha0 hu19) dX7_executeArray_117 v_X7_118 ha0 rfl rfl rfl rfl (Nat.le_of_ble_eq_true rfl) ⟨Nat.le_of_ble_eq_true rfl, Nat.le_of_ble_eq_true rfl, Nat.le_of_ble_eq_true rfl, Nat.le_of_ble_eq_true rfl⟩ ?_
            refine K_pop dX7_executeArray_120 rfl ?_
            refine K_aload_n dX7_executeArray_121 rfl rfl ?_
            refine K_iconst (v := 0) dX7_executeArray_122 (by decide) ?_
            refine K_bind (fun u20 hu20 => ?_)
            refine K_callVV (As := [.int 0]) (k_X7_popOfType fu hE ha0 hu20) dX7_executeArray_123 v_X7_88 ha0 rfl rfl rfl rfl (Nat.le_of_ble_eq_true rfl) ⟨Nat.le_of_ble_eq_true rfl, Nat.le_of_ble_eq_true rfl, Nat.le_of_ble_eq_true rfl, Nat.le_of_ble_eq_true rfl⟩ ?_
            refine K_aload_n dX7_executeArray_126 rfl rfl ?_
            refine K_bind (fun u21 hu21 => ?_)
            refine K_callVI (As := []) (k_X7_popReferenceArray fu hE ha0 hu21) dX7_executeArray_127 v_X7_143 ha0 rfl rfl rfl rfl (Nat.le_of_ble_eq_true rfl) ⟨Nat.le_of_ble_eq_true rfl, Nat.le_of_ble_eq_true rfl, Nat.le_of_ble_eq_true rfl, Nat.le_of_ble_eq_true rfl⟩ ?_
            refine K_pop dX7_executeArray_130 rfl ?_
            refine K_goto (tgt := 169) dX7_executeArray_131 (by decide) ?_
            exact K_vret dX7_executeArray_169 hQ rfl (Nat.le_of_ble_eq_true rfl) (Nat.le_of_ble_eq_true rfl)
          · refine K_tswD (tgt := 134) [38, 39, 40, 41, 42] dX7_executeArray_1 (List.forall_mem_cons.mpr ⟨c1, List.forall_mem_cons.mpr ⟨c4, List.forall_mem_cons.mpr ⟨c8, List.forall_mem_cons.mpr ⟨c12, List.forall_mem_cons.mpr ⟨c18, fun _ h => absurd h List.not_mem_nil⟩⟩⟩⟩⟩) (by decide) (by decide) ?_
            refine K_aload_n dX7_executeArray_134 rfl rfl ?_
            refine K_bind (fun u22 hu22 => ?_)
            refine K_callVI (As := []) (k_X7_popSlot fu hE ha0 hu22) dX7_executeArray_135 v_X7_104 ha0 rfl rfl rfl rfl (Nat.le_of_ble_eq_true rfl) ⟨Nat.le_of_ble_eq_true rfl, Nat.le_of_ble_eq_true rfl, Nat.le_of_ble_eq_true rfl, Nat.le_of_ble_eq_true rfl⟩ ?_
            refine K_istore (ls' := [(0, _), (1, _), (2, _), (4, _)]) dX7_executeArray_138 (by decide) rfl ?_
            refine K_aload_n dX7_executeArray_140 rfl rfl ?_
            refine K_iload dX7_executeArray_141 rfl ?_
            refine K_iconst (v := (-1)) dX7_executeArray_143 (by decide) ?_
            refine K_icmp_eq (tgt := 155) dX7_executeArray_144 (by decide) (fun c29 => ?_) (fun c29 => ?_)
            · refine K.keep [0] ?_
              exact kj_X7_executeArray_155 hQ hE fu ha0 ha0 u22.2
            · refine K_iload dX7_executeArray_147 rfl ?_
              refine K_bind (fun u25 hu25 => ?_)
              refine K_callSI (As := [.int u22.1]) (k_X7_isArrayType fu hE hu25) dX7_executeArray_149 s_X7_146 rfl rfl (Nat.le_of_ble_eq_true rfl) ⟨Nat.le_of_ble_eq_true rfl, Nat.le_of_ble_eq_true rfl, Nat.le_of_ble_eq_true rfl, Nat.le_of_ble_eq_true rfl⟩ ?_
              refine K_if_eq (tgt := 159) dX7_executeArray_152 (by decide) (fun c28 => ?_) (fun c28 => ?_)
              · refine K_iconst (v := 0) dX7_executeArray_159 (by decide) ?_
                refine K_iconst (v := 4) dX7_executeArray_160 (by decide) ?_
                refine K_bind (fun u26 hu26 => ?_)
                refine K_callVV (As := [.int 0, .int 4]) (k_X7_require fu hE ha0 hu26) dX7_executeArray_161 v_X7_80 ha0 rfl rfl rfl rfl (Nat.le_of_ble_eq_true rfl) ⟨Nat.le_of_ble_eq_true rfl, Nat.le_of_ble_eq_true rfl, Nat.le_of_ble_eq_true rfl, Nat.le_of_ble_eq_true rfl⟩ ?_
                refine K_aload_n dX7_executeArray_164 rfl rfl ?_
                refine K_iconst (v := 0) dX7_executeArray_165 (by decide) ?_
                refine K_bind (fun u27 hu27 => ?_)
                refine K_callVV (As := [.int 0]) (k_X7_push fu hE ha0 hu27) dX7_executeArray_166 v_X7_71 ha0 rfl rfl rfl rfl (Nat.le_of_ble_eq_true rfl) ⟨Nat.le_of_ble_eq_true rfl, Nat.le_of_ble_eq_true rfl, Nat.le_of_ble_eq_true rfl, Nat.le_of_ble_eq_true rfl⟩ ?_
                exact K_vret dX7_executeArray_169 hQ rfl (Nat.le_of_ble_eq_true rfl) (Nat.le_of_ble_eq_true rfl)
              · refine K.keep [0] ?_
                exact kj_X7_executeArray_155 hQ hE fu ha0 ha0 u25.2
def sp_X7_executeEnd (fu : Nat) (E : Ev) (S : St) (a0 : Nat) (x1 : Int32) : Option St :=
  if inb (S.1 (E.2 a0 2) 1) 30 = true then
    (
    bnd (S.2.1 (E.2 (E.2 a0 1) 5) (S.1 (E.2 a0 2) 1).toNatClampNeg) fun v5 =>
    if x1 = 27 then (
      (sp_X7_popOfType fu E S a0 0).bind fun u7 =>
      if v5 = 0 then (
        (sp_X7_require fu E u7 a0 1 9).bind fun u9 =>
        some u9
      ) else (
        (sp_X7_require fu E u7 a0 0 9).bind fun u8 =>
        some u8
      )
    ) else (
      if x1 = 28 then (
        (sp_X7_popOfType fu E S a0 8).bind fun u12 =>
        if v5 = 8 then (
          (sp_X7_require fu E u12 a0 1 9).bind fun u14 =>
          some u14
        ) else (
          (sp_X7_require fu E u12 a0 0 9).bind fun u13 =>
          some u13
        )
      ) else (
        if x1 = 29 then (
          (sp_X7_popReference fu E S a0).bind fun u17 =>
          (sp_X11_isReferenceType fu E u17.2 v5).bind fun u18 =>
          if u18.1 = 0 then (
            (sp_X7_require fu E u18.2 a0 0 9).bind fun u19 =>
            some u19
          ) else (
            (sp_X10_fits fu E u18.2 (E.2 a0 0) u17.1 v5).bind fun u21 =>
            if u21.1 = 0 then (
              (sp_X7_require fu E u21.2 a0 0 9).bind fun u22 =>
              some u22
            ) else (
              (sp_X7_require fu E u21.2 a0 1 9).bind fun u23 =>
              some u23
            )
          )
        ) else (
          if x1 = 30 then (
            if v5 = (-1) then (
              if E.1 (S.2.2.1 a0 3) = some (0, 2, 0) then
                (
                if (S.1 (S.2.2.1 a0 3) 3) = 0 then (
                  (sp_X7_require fu E S a0 1 9).bind fun u30 =>
                  some u30
                ) else (
                  (sp_X7_require fu E S a0 0 9).bind fun u29 =>
                  some u29
                )
                )
              else none
            ) else (
              (sp_X7_require fu E S a0 0 9).bind fun u27 =>
              some u27
            )
          ) else (
            (sp_X7_popReference fu E S a0).bind fun u33 =>
            some u33.2
          )
        )
      )
    )
    )
  else none
set_option maxRecDepth 100000 in
theorem k_X7_executeEnd {l : Launch} (fu : Nat) {E : Ev} (hE : WE E) {a0 : Nat} (ha0 : E.1 a0 = some (0, 6, 0)) {x1 : Int32} {S : St} {t : St} (h : sp_X7_executeEnd fu E S a0 x1 = some t) : Cn l mX7_executeEnd [.ref a0, .int x1] (hp E S) (PoV E t) := by
  refine Cn.of (by decide) rfl (Nat.le_of_ble_eq_true rfl) (fun X _ _ hQ => ?_)
  refine (?_ : K mX7_executeEnd X E 0 [(0, .ref a0), (1, .int x1)] [] S 0 0 (sp_X7_executeEnd fu E S a0 x1) t) h
  unfold sp_X7_executeEnd
  refine K_aload_n dX7_executeEnd_0 rfl rfl ?_
  refine K_getC hE dX7_executeEnd_1 f_X7_15_6 ha0 rfl rfl (fun h1 => ?_)
  refine K_getC hE dX7_executeEnd_4 f_X7_110_7 h1 rfl rfl (fun h2 => ?_)
  refine K_aload_n dX7_executeEnd_7 rfl rfl ?_
  refine K_getC hE dX7_executeEnd_8 f_X7_19_6 ha0 rfl rfl (fun h3 => ?_)
  refine K_getI dX7_executeEnd_11 f_X7_115_0 h3 rfl ?_
  refine K_chk (fun h4 => ?_)
  refine K_iald dX7_executeEnd_14 h2 h4 ?_
  refine K_nmI (fun v5 => ?_)
  refine K_istore_n (ls' := [(0, _), (1, _), (2, _)]) dX7_executeEnd_15 rfl (by decide) rfl ?_
  refine K_iload_n dX7_executeEnd_16 rfl rfl ?_
  refine K_ite (fun c6 => ?_) (fun c6 => ?_)
  · refine K_tswIn (tgt := 48) 27 dX7_executeEnd_17 c6 (by decide) (by decide) rfl (by decide) ?_
    refine K_aload_n dX7_executeEnd_48 rfl rfl ?_
    refine K_iconst (v := 0) dX7_executeEnd_49 (by decide) ?_
    refine K_bind (fun u7 hu7 => ?_)
    refine K_callVV (As := [.int 0]) (k_X7_popOfType fu hE ha0 hu7) dX7_executeEnd_50 v_X7_88 ha0 rfl rfl rfl rfl (Nat.le_of_ble_eq_true rfl) ⟨Nat.le_of_ble_eq_true rfl, Nat.le_of_ble_eq_true rfl, Nat.le_of_ble_eq_true rfl, Nat.le_of_ble_eq_true rfl⟩ ?_
    refine K_aload_n dX7_executeEnd_53 rfl rfl ?_
    refine K_iload_n dX7_executeEnd_54 rfl rfl ?_
    refine K_if_ne (tgt := 62) dX7_executeEnd_55 (by decide) (fun c10 => ?_) (fun c10 => ?_)
    · refine K_iconst (v := 0) dX7_executeEnd_62 (by decide) ?_
      refine K_bipush (v := 9) dX7_executeEnd_63 (by decide) ?_
      refine K_bind (fun u8 hu8 => ?_)
      refine K_callVV (As := [.int 0, .int 9]) (k_X7_require fu hE ha0 hu8) dX7_executeEnd_65 v_X7_80 ha0 rfl rfl rfl rfl (Nat.le_of_ble_eq_true rfl) ⟨Nat.le_of_ble_eq_true rfl, Nat.le_of_ble_eq_true rfl, Nat.le_of_ble_eq_true rfl, Nat.le_of_ble_eq_true rfl⟩ ?_
      refine K_goto (tgt := 169) dX7_executeEnd_68 (by decide) ?_
      exact K_vret dX7_executeEnd_169 hQ rfl (Nat.le_of_ble_eq_true rfl) (Nat.le_of_ble_eq_true rfl)
    · refine K_iconst (v := 1) dX7_executeEnd_58 (by decide) ?_
      refine K_goto (tgt := 63) dX7_executeEnd_59 (by decide) ?_
      refine K_bipush (v := 9) dX7_executeEnd_63 (by decide) ?_
      refine K_bind (fun u9 hu9 => ?_)
      refine K_callVV (As := [.int 1, .int 9]) (k_X7_require fu hE ha0 hu9) dX7_executeEnd_65 v_X7_80 ha0 rfl rfl rfl rfl (Nat.le_of_ble_eq_true rfl) ⟨Nat.le_of_ble_eq_true rfl, Nat.le_of_ble_eq_true rfl, Nat.le_of_ble_eq_true rfl, Nat.le_of_ble_eq_true rfl⟩ ?_
      refine K_goto (tgt := 169) dX7_executeEnd_68 (by decide) ?_
      exact K_vret dX7_executeEnd_169 hQ rfl (Nat.le_of_ble_eq_true rfl) (Nat.le_of_ble_eq_true rfl)
  · refine K_ite (fun c11 => ?_) (fun c11 => ?_)
    · refine K_tswIn (tgt := 71) 28 dX7_executeEnd_17 c11 (by decide) (by decide) rfl (by decide) ?_
      refine K_aload_n dX7_executeEnd_71 rfl rfl ?_
      refine K_bipush (v := 8) dX7_executeEnd_72 (by decide) ?_
      refine K_bind (fun u12 hu12 => ?_)
      refine K_callVV (As := [.int 8]) (k_X7_popOfType fu hE ha0 hu12) dX7_executeEnd_74 v_X7_88 ha0 rfl rfl rfl rfl (Nat.le_of_ble_eq_true rfl) ⟨Nat.le_of_ble_eq_true rfl, Nat.le_of_ble_eq_true rfl, Nat.le_of_ble_eq_true rfl, Nat.le_of_ble_eq_true rfl⟩ ?_
      refine K_aload_n dX7_executeEnd_77 rfl rfl ?_
      refine K_iload_n dX7_executeEnd_78 rfl rfl ?_
      refine K_bipush (v := 8) dX7_executeEnd_79 (by decide) ?_
      refine K_icmp_ne (tgt := 88) dX7_executeEnd_81 (by decide) (fun c15 => ?_) (fun c15 => ?_)
      · refine K_iconst (v := 0) dX7_executeEnd_88 (by decide) ?_
        refine K_bipush (v := 9) dX7_executeEnd_89 (by decide) ?_
        refine K_bind (fun u13 hu13 => ?_)
        refine K_callVV (As := [.int 0, .int 9]) (k_X7_require fu hE ha0 hu13) dX7_executeEnd_91 v_X7_80 ha0 rfl rfl rfl rfl (Nat.le_of_ble_eq_true rfl) ⟨Nat.le_of_ble_eq_true rfl, Nat.le_of_ble_eq_true rfl, Nat.le_of_ble_eq_true rfl, Nat.le_of_ble_eq_true rfl⟩ ?_
        refine K_goto (tgt := 169) dX7_executeEnd_94 (by decide) ?_
        exact K_vret dX7_executeEnd_169 hQ rfl (Nat.le_of_ble_eq_true rfl) (Nat.le_of_ble_eq_true rfl)
      · refine K_iconst (v := 1) dX7_executeEnd_84 (by decide) ?_
        refine K_goto (tgt := 89) dX7_executeEnd_85 (by decide) ?_
        refine K_bipush (v := 9) dX7_executeEnd_89 (by decide) ?_
        refine K_bind (fun u14 hu14 => ?_)
        refine K_callVV (As := [.int 1, .int 9]) (k_X7_require fu hE ha0 hu14) dX7_executeEnd_91 v_X7_80 ha0 rfl rfl rfl rfl (Nat.le_of_ble_eq_true rfl) ⟨Nat.le_of_ble_eq_true rfl, Nat.le_of_ble_eq_true rfl, Nat.le_of_ble_eq_true rfl, Nat.le_of_ble_eq_true rfl⟩ ?_
        refine K_goto (tgt := 169) dX7_executeEnd_94 (by decide) ?_
        exact K_vret dX7_executeEnd_169 hQ rfl (Nat.le_of_ble_eq_true rfl) (Nat.le_of_ble_eq_true rfl)
    · refine K_ite (fun c16 => ?_) (fun c16 => ?_)
      · refine K_tswIn (tgt := 97) 29 dX7_executeEnd_17 c16 (by decide) (by decide) rfl (by decide) ?_
        refine K_aload_n dX7_executeEnd_97 rfl rfl ?_
        refine K_bind (fun u17 hu17 => ?_)
        refine K_callVI (As := []) (k_X7_popReference fu hE ha0 hu17) dX7_executeEnd_98 v_X7_118 ha0 rfl rfl rfl rfl (Nat.le_of_ble_eq_true rfl) ⟨Nat.le_of_ble_eq_true rfl, Nat.le_of_ble_eq_true rfl, Nat.le_of_ble_eq_true rfl, Nat.le_of_ble_eq_true rfl⟩ ?_
        refine K_istore_n (ls' := [(0, _), (1, _), (2, _), (3, _)]) dX7_executeEnd_101 rfl (by decide) rfl ?_
        refine K_aload_n dX7_executeEnd_102 rfl rfl ?_
        refine K_iload_n dX7_executeEnd_103 rfl rfl ?_
        refine K_bind (fun u18 hu18 => ?_)
        refine K_callSI (As := [.int v5]) (k_X11_isReferenceType fu hE hu18) dX7_executeEnd_104 s_X7_121 rfl rfl (Nat.le_of_ble_eq_true rfl) ⟨Nat.le_of_ble_eq_true rfl, Nat.le_of_ble_eq_true rfl, Nat.le_of_ble_eq_true rfl, Nat.le_of_ble_eq_true rfl⟩ ?_
        refine K_if_eq (tgt := 126) dX7_executeEnd_107 (by decide) (fun c25 => ?_) (fun c25 => ?_)
        · refine K_iconst (v := 0) dX7_executeEnd_126 (by decide) ?_
          refine K_bipush (v := 9) dX7_executeEnd_127 (by decide) ?_
          refine K_bind (fun u19 hu19 => ?_)
          refine K_callVV (As := [.int 0, .int 9]) (k_X7_require fu hE ha0 hu19) dX7_executeEnd_129 v_X7_80 ha0 rfl rfl rfl rfl (Nat.le_of_ble_eq_true rfl) ⟨Nat.le_of_ble_eq_true rfl, Nat.le_of_ble_eq_true rfl, Nat.le_of_ble_eq_true rfl, Nat.le_of_ble_eq_true rfl⟩ ?_
          refine K_goto (tgt := 169) dX7_executeEnd_132 (by decide) ?_
          exact K_vret dX7_executeEnd_169 hQ rfl (Nat.le_of_ble_eq_true rfl) (Nat.le_of_ble_eq_true rfl)
        · refine K_aload_n dX7_executeEnd_110 rfl rfl ?_
          refine K_getC hE dX7_executeEnd_111 f_X7_9_6 ha0 rfl rfl (fun h20 => ?_)
          refine K_iload_n dX7_executeEnd_114 rfl rfl ?_
          refine K_iload_n dX7_executeEnd_115 rfl rfl ?_
          refine K_bind (fun u21 hu21 => ?_)
          refine K_callVI (As := [.int u17.1, .int v5]) (k_X10_fits fu hE h20 hu21) dX7_executeEnd_116 v_X7_124 h20 rfl rfl rfl rfl (Nat.le_of_ble_eq_true rfl) ⟨Nat.le_of_ble_eq_true rfl, Nat.le_of_ble_eq_true rfl, Nat.le_of_ble_eq_true rfl, Nat.le_of_ble_eq_true rfl⟩ ?_
          refine K_if_eq (tgt := 126) dX7_executeEnd_119 (by decide) (fun c24 => ?_) (fun c24 => ?_)
          · refine K_iconst (v := 0) dX7_executeEnd_126 (by decide) ?_
            refine K_bipush (v := 9) dX7_executeEnd_127 (by decide) ?_
            refine K_bind (fun u22 hu22 => ?_)
            refine K_callVV (As := [.int 0, .int 9]) (k_X7_require fu hE ha0 hu22) dX7_executeEnd_129 v_X7_80 ha0 rfl rfl rfl rfl (Nat.le_of_ble_eq_true rfl) ⟨Nat.le_of_ble_eq_true rfl, Nat.le_of_ble_eq_true rfl, Nat.le_of_ble_eq_true rfl, Nat.le_of_ble_eq_true rfl⟩ ?_
            refine K_goto (tgt := 169) dX7_executeEnd_132 (by decide) ?_
            exact K_vret dX7_executeEnd_169 hQ rfl (Nat.le_of_ble_eq_true rfl) (Nat.le_of_ble_eq_true rfl)
          · refine K_iconst (v := 1) dX7_executeEnd_122 (by decide) ?_
            refine K_goto (tgt := 127) dX7_executeEnd_123 (by decide) ?_
            refine K_bipush (v := 9) dX7_executeEnd_127 (by decide) ?_
            refine K_bind (fun u23 hu23 => ?_)
            refine K_callVV (As := [.int 1, .int 9]) (k_X7_require fu hE ha0 hu23) dX7_executeEnd_129 v_X7_80 ha0 rfl rfl rfl rfl (Nat.le_of_ble_eq_true rfl) ⟨Nat.le_of_ble_eq_true rfl, Nat.le_of_ble_eq_true rfl, Nat.le_of_ble_eq_true rfl, Nat.le_of_ble_eq_true rfl⟩ ?_
            refine K_goto (tgt := 169) dX7_executeEnd_132 (by decide) ?_
            exact K_vret dX7_executeEnd_169 hQ rfl (Nat.le_of_ble_eq_true rfl) (Nat.le_of_ble_eq_true rfl)
      · refine K_ite (fun c26 => ?_) (fun c26 => ?_)
        · refine K_tswIn (tgt := 135) 30 dX7_executeEnd_17 c26 (by decide) (by decide) rfl (by decide) ?_
          refine K_aload_n dX7_executeEnd_135 rfl rfl ?_
          refine K_iload_n dX7_executeEnd_136 rfl rfl ?_
          refine K_iconst (v := (-1)) dX7_executeEnd_137 (by decide) ?_
          refine K_icmp_ne (tgt := 155) dX7_executeEnd_138 (by decide) (fun c32 => ?_) (fun c32 => ?_)
          · refine K_iconst (v := 0) dX7_executeEnd_155 (by decide) ?_
            refine K_bipush (v := 9) dX7_executeEnd_156 (by decide) ?_
            refine K_bind (fun u27 hu27 => ?_)
            refine K_callVV (As := [.int 0, .int 9]) (k_X7_require fu hE ha0 hu27) dX7_executeEnd_158 v_X7_80 ha0 rfl rfl rfl rfl (Nat.le_of_ble_eq_true rfl) ⟨Nat.le_of_ble_eq_true rfl, Nat.le_of_ble_eq_true rfl, Nat.le_of_ble_eq_true rfl, Nat.le_of_ble_eq_true rfl⟩ ?_
            refine K_goto (tgt := 169) dX7_executeEnd_161 (by decide) ?_
            exact K_vret dX7_executeEnd_169 hQ rfl (Nat.le_of_ble_eq_true rfl) (Nat.le_of_ble_eq_true rfl)
          · refine K_aload_n dX7_executeEnd_141 rfl rfl ?_
            refine K_ite (fun h28 => ?_) (fun _ => K_none)
            refine K_getM hE dX7_executeEnd_142 f_X7_26_6 ha0 rfl h28 ?_
            refine K_getI dX7_executeEnd_145 f_X7_130_2 h28 rfl ?_
            refine K_if_ne (tgt := 155) dX7_executeEnd_148 (by decide) (fun c31 => ?_) (fun c31 => ?_)
            · refine K_iconst (v := 0) dX7_executeEnd_155 (by decide) ?_
              refine K_bipush (v := 9) dX7_executeEnd_156 (by decide) ?_
              refine K_bind (fun u29 hu29 => ?_)
              refine K_callVV (As := [.int 0, .int 9]) (k_X7_require fu hE ha0 hu29) dX7_executeEnd_158 v_X7_80 ha0 rfl rfl rfl rfl (Nat.le_of_ble_eq_true rfl) ⟨Nat.le_of_ble_eq_true rfl, Nat.le_of_ble_eq_true rfl, Nat.le_of_ble_eq_true rfl, Nat.le_of_ble_eq_true rfl⟩ ?_
              refine K_goto (tgt := 169) dX7_executeEnd_161 (by decide) ?_
              exact K_vret dX7_executeEnd_169 hQ rfl (Nat.le_of_ble_eq_true rfl) (Nat.le_of_ble_eq_true rfl)
            · refine K_iconst (v := 1) dX7_executeEnd_151 (by decide) ?_
              refine K_goto (tgt := 156) dX7_executeEnd_152 (by decide) ?_
              refine K_bipush (v := 9) dX7_executeEnd_156 (by decide) ?_
              refine K_bind (fun u30 hu30 => ?_)
              refine K_callVV (As := [.int 1, .int 9]) (k_X7_require fu hE ha0 hu30) dX7_executeEnd_158 v_X7_80 ha0 rfl rfl rfl rfl (Nat.le_of_ble_eq_true rfl) ⟨Nat.le_of_ble_eq_true rfl, Nat.le_of_ble_eq_true rfl, Nat.le_of_ble_eq_true rfl, Nat.le_of_ble_eq_true rfl⟩ ?_
              refine K_goto (tgt := 169) dX7_executeEnd_161 (by decide) ?_
              exact K_vret dX7_executeEnd_169 hQ rfl (Nat.le_of_ble_eq_true rfl) (Nat.le_of_ble_eq_true rfl)
        · refine K_tswD (tgt := 164) [27, 28, 29, 30] dX7_executeEnd_17 (List.forall_mem_cons.mpr ⟨c6, List.forall_mem_cons.mpr ⟨c11, List.forall_mem_cons.mpr ⟨c16, List.forall_mem_cons.mpr ⟨c26, fun _ h => absurd h List.not_mem_nil⟩⟩⟩⟩) (by decide) (by decide) ?_
          refine K_aload_n dX7_executeEnd_164 rfl rfl ?_
          refine K_bind (fun u33 hu33 => ?_)
          refine K_callVI (As := []) (k_X7_popReference fu hE ha0 hu33) dX7_executeEnd_165 v_X7_118 ha0 rfl rfl rfl rfl (Nat.le_of_ble_eq_true rfl) ⟨Nat.le_of_ble_eq_true rfl, Nat.le_of_ble_eq_true rfl, Nat.le_of_ble_eq_true rfl, Nat.le_of_ble_eq_true rfl⟩ ?_
          refine K_pop dX7_executeEnd_168 rfl ?_
          exact K_vret dX7_executeEnd_169 hQ rfl (Nat.le_of_ble_eq_true rfl) (Nat.le_of_ble_eq_true rfl)
def sp_X7_isAnyReference (fu : Nat) (E : Ev) (S : St) (x0 : Int32) : Option (Int32 × St) :=
  (sp_X11_isReferenceType fu E S x0).bind fun u1 =>
  if u1.1 = 0 then (
    if x0 = (-1) then (
      some (1, u1.2)
    ) else (
      if x0 = (-4) then (
        some (1, u1.2)
      ) else (
        if (-10) < x0 then (
          some (0, u1.2)
        ) else (
          some (1, u1.2)
        )
      )
    )
  ) else (
    some (1, u1.2)
  )
set_option maxRecDepth 100000 in
theorem k_X7_isAnyReference {l : Launch} (fu : Nat) {E : Ev} (hE : WE E) {x0 : Int32} {S : St} {t : (Int32 × St)} (h : sp_X7_isAnyReference fu E S x0 = some t) : Cn l mX7_isAnyReference [.int x0] (hp E S) (PoI E t) := by
  refine Cn.of (by decide) rfl (Nat.le_of_ble_eq_true rfl) (fun X _ _ hQ => ?_)
  refine (?_ : K mX7_isAnyReference X E 0 [(0, .int x0)] [] S 0 0 (sp_X7_isAnyReference fu E S x0) t) h
  unfold sp_X7_isAnyReference
  refine K_iload_n dX7_isAnyReference_0 rfl rfl ?_
  refine K_bind (fun u1 hu1 => ?_)
  refine K_callSI (As := [.int x0]) (k_X11_isReferenceType fu hE hu1) dX7_isAnyReference_1 s_X7_121 rfl rfl (Nat.le_of_ble_eq_true rfl) ⟨Nat.le_of_ble_eq_true rfl, Nat.le_of_ble_eq_true rfl, Nat.le_of_ble_eq_true rfl, Nat.le_of_ble_eq_true rfl⟩ ?_
  refine K_if_ne (tgt := 24) dX7_isAnyReference_4 (by decide) (fun c5 => ?_) (fun c5 => ?_)
  · refine K_iconst (v := 1) dX7_isAnyReference_24 (by decide) ?_
    refine K_goto (tgt := 29) dX7_isAnyReference_25 (by decide) ?_
    exact K_zret dX7_isAnyReference_29 hQ rfl rfl (Nat.le_of_ble_eq_true rfl) (Nat.le_of_ble_eq_true rfl)
  · refine K_iload_n dX7_isAnyReference_7 rfl rfl ?_
    refine K_iconst (v := (-1)) dX7_isAnyReference_8 (by decide) ?_
    refine K_icmp_eq (tgt := 24) dX7_isAnyReference_9 (by decide) (fun c4 => ?_) (fun c4 => ?_)
    · refine K_iconst (v := 1) dX7_isAnyReference_24 (by decide) ?_
      refine K_goto (tgt := 29) dX7_isAnyReference_25 (by decide) ?_
      exact K_zret dX7_isAnyReference_29 hQ rfl rfl (Nat.le_of_ble_eq_true rfl) (Nat.le_of_ble_eq_true rfl)
    · refine K_iload_n dX7_isAnyReference_12 rfl rfl ?_
      refine K_bipush (v := (-4)) dX7_isAnyReference_13 (by decide) ?_
      refine K_icmp_eq (tgt := 24) dX7_isAnyReference_15 (by decide) (fun c3 => ?_) (fun c3 => ?_)
      · refine K_iconst (v := 1) dX7_isAnyReference_24 (by decide) ?_
        refine K_goto (tgt := 29) dX7_isAnyReference_25 (by decide) ?_
        exact K_zret dX7_isAnyReference_29 hQ rfl rfl (Nat.le_of_ble_eq_true rfl) (Nat.le_of_ble_eq_true rfl)
      · refine K_iload_n dX7_isAnyReference_18 rfl rfl ?_
        refine K_bipush (v := (-10)) dX7_isAnyReference_19 (by decide) ?_
        refine K_icmp_gt (tgt := 28) dX7_isAnyReference_21 (by decide) (fun c2 => ?_) (fun c2 => ?_)
        · refine K_iconst (v := 0) dX7_isAnyReference_28 (by decide) ?_
          exact K_zret dX7_isAnyReference_29 hQ rfl rfl (Nat.le_of_ble_eq_true rfl) (Nat.le_of_ble_eq_true rfl)
        · refine K_iconst (v := 1) dX7_isAnyReference_24 (by decide) ?_
          refine K_goto (tgt := 29) dX7_isAnyReference_25 (by decide) ?_
          exact K_zret dX7_isAnyReference_29 hQ rfl rfl (Nat.le_of_ble_eq_true rfl) (Nat.le_of_ble_eq_true rfl)
def sp_X7_popAnyReference (fu : Nat) (E : Ev) (S : St) (a0 : Nat) : Option (Int32 × St) :=
  (sp_X7_popSlot fu E S a0).bind fun u1 =>
  (sp_X7_isAnyReference fu E u1.2 u1.1).bind fun u2 =>
  (sp_X7_require fu E u2.2 a0 u2.1 4).bind fun u3 =>
  some (u1.1, u3)
set_option maxRecDepth 100000 in
theorem k_X7_popAnyReference {l : Launch} (fu : Nat) {E : Ev} (hE : WE E) {a0 : Nat} (ha0 : E.1 a0 = some (0, 6, 0)) {S : St} {t : (Int32 × St)} (h : sp_X7_popAnyReference fu E S a0 = some t) : Cn l mX7_popAnyReference [.ref a0] (hp E S) (PoI E t) := by
  refine Cn.of (by decide) rfl (Nat.le_of_ble_eq_true rfl) (fun X _ _ hQ => ?_)
  refine (?_ : K mX7_popAnyReference X E 0 [(0, .ref a0)] [] S 0 0 (sp_X7_popAnyReference fu E S a0) t) h
  unfold sp_X7_popAnyReference
  refine K_aload_n dX7_popAnyReference_0 rfl rfl ?_
  refine K_bind (fun u1 hu1 => ?_)
  refine K_callVI (As := []) (k_X7_popSlot fu hE ha0 hu1) dX7_popAnyReference_1 v_X7_104 ha0 rfl rfl rfl rfl (Nat.le_of_ble_eq_true rfl) ⟨Nat.le_of_ble_eq_true rfl, Nat.le_of_ble_eq_true rfl, Nat.le_of_ble_eq_true rfl, Nat.le_of_ble_eq_true rfl⟩ ?_
  refine K_istore_n (ls' := [(0, _), (1, _)]) dX7_popAnyReference_4 rfl (by decide) rfl ?_
  refine K_aload_n dX7_popAnyReference_5 rfl rfl ?_
  refine K_iload_n dX7_popAnyReference_6 rfl rfl ?_
  refine K_bind (fun u2 hu2 => ?_)
  refine K_callSI (As := [.int u1.1]) (k_X7_isAnyReference fu hE hu2) dX7_popAnyReference_7 s_X7_84 rfl rfl (Nat.le_of_ble_eq_true rfl) ⟨Nat.le_of_ble_eq_true rfl, Nat.le_of_ble_eq_true rfl, Nat.le_of_ble_eq_true rfl, Nat.le_of_ble_eq_true rfl⟩ ?_
  refine K_iconst (v := 4) dX7_popAnyReference_10 (by decide) ?_
  refine K_bind (fun u3 hu3 => ?_)
  refine K_callVV (As := [.int u2.1, .int 4]) (k_X7_require fu hE ha0 hu3) dX7_popAnyReference_11 v_X7_80 ha0 rfl rfl rfl rfl (Nat.le_of_ble_eq_true rfl) ⟨Nat.le_of_ble_eq_true rfl, Nat.le_of_ble_eq_true rfl, Nat.le_of_ble_eq_true rfl, Nat.le_of_ble_eq_true rfl⟩ ?_
  refine K_iload_n dX7_popAnyReference_14 rfl rfl ?_
  exact K_iret dX7_popAnyReference_15 hQ rfl (Nat.le_of_ble_eq_true rfl) (Nat.le_of_ble_eq_true rfl)
def jb_X7_breakLong_31 (fu : Nat) (E : Ev) (a0 : Nat) (x1 : Int32) (S : St) : Option St :=
  if E.1 (S.2.2.1 a0 3) = some (0, 2, 0) then
    (
    if inb x1 12 = true then
      (
      if (S.2.1 (E.2 (S.2.2.1 a0 3) 0) x1.toNatClampNeg) = 8 then (
        if 11 ≤ x1 then (
          some S
        ) else (
          if E.1 (S.2.2.1 a0 3) = some (0, 2, 0) then
            (
            if inb (x1 + 1) 12 = true then (
              bnd (sG S (E.2 (S.2.2.1 a0 3) 0) ((x1 + 1).toNatClampNeg) (-2)) fun S10 =>
              some S10
            ) else none
            )
          else none
        )
      ) else (
        some S
      )
      )
    else none
    )
  else none
set_option maxRecDepth 100000 in
theorem kj_X7_breakLong_31 {X : Cx} {E : Ev} {t : St} {a0 : Nat} (hQ : EndR mX7_breakLong X (PoV E t)) (hE : WE E) (fu : Nat) (ha0 : E.1 a0 = some (0, 6, 0)) (x1 : Int32) (S : St) : K mX7_breakLong X E 31 [(0, .ref a0), (1, .int x1)] [] S 0 0 (jb_X7_breakLong_31 fu E a0 x1 S) t := by
  unfold jb_X7_breakLong_31
  refine K_aload_n dX7_breakLong_31 rfl rfl ?_
  refine K_ite (fun h4 => ?_) (fun _ => K_none)
  refine K_getM hE dX7_breakLong_32 f_X7_26_6 ha0 rfl h4 ?_
  refine K_getC hE dX7_breakLong_35 f_X7_77_2 h4 rfl rfl (fun h5 => ?_)
  refine K_iload_n dX7_breakLong_38 rfl rfl ?_
  refine K_chk (fun h6 => ?_)
  refine K_iald dX7_breakLong_39 h5 h6 ?_
  refine K_bipush (v := 8) dX7_breakLong_40 (by decide) ?_
  refine K_icmp_ne (tgt := 64) dX7_breakLong_42 (by decide) (fun c12 => ?_) (fun c12 => ?_)
  · exact K_vret dX7_breakLong_64 hQ rfl (Nat.le_of_ble_eq_true rfl) (Nat.le_of_ble_eq_true rfl)
  · refine K_iload_n dX7_breakLong_45 rfl rfl ?_
    refine K_bipush (v := 11) dX7_breakLong_46 (by decide) ?_
    refine K_icmp_ge (tgt := 64) dX7_breakLong_48 (by decide) (fun c11 => ?_) (fun c11 => ?_)
    · exact K_vret dX7_breakLong_64 hQ rfl (Nat.le_of_ble_eq_true rfl) (Nat.le_of_ble_eq_true rfl)
    · refine K_aload_n dX7_breakLong_51 rfl rfl ?_
      refine K_ite (fun h7 => ?_) (fun _ => K_none)
      refine K_getM hE dX7_breakLong_52 f_X7_26_6 ha0 rfl h7 ?_
      refine K_getC hE dX7_breakLong_55 f_X7_77_2 h7 rfl rfl (fun h8 => ?_)
      refine K_iload_n dX7_breakLong_58 rfl rfl ?_
      refine K_iconst (v := 1) dX7_breakLong_59 (by decide) ?_
      refine K_iadd dX7_breakLong_60 ?_
      refine K_bipush (v := (-2)) dX7_breakLong_61 (by decide) ?_
      refine K_chk (fun h9 => ?_)
      refine K_iast dX7_breakLong_63 h8 h9 ?_
      refine K_nmS (fun S10 => ?_)
      exact K_vret dX7_breakLong_64 hQ rfl (Nat.le_of_ble_eq_true rfl) (Nat.le_of_ble_eq_true rfl)
def sp_X7_breakLong (fu : Nat) (E : Ev) (S : St) (a0 : Nat) (x1 : Int32) : Option St :=
  if E.1 (S.2.2.1 a0 3) = some (0, 2, 0) then
    (
    if inb x1 12 = true then
      (
      if (S.2.1 (E.2 (S.2.2.1 a0 3) 0) x1.toNatClampNeg) = (-3) then (
        if x1 ≤ 0 then (
          jb_X7_breakLong_31 fu E a0 x1 S
        ) else (
          if E.1 (S.2.2.1 a0 3) = some (0, 2, 0) then
            (
            if inb (x1 - 1) 12 = true then (
              bnd (sG S (E.2 (S.2.2.1 a0 3) 0) ((x1 - 1).toNatClampNeg) (-2)) fun S16 =>
              jb_X7_breakLong_31 fu E a0 x1 S16
            ) else none
            )
          else none
        )
      ) else (
        jb_X7_breakLong_31 fu E a0 x1 S
      )
      )
    else none
    )
  else none
set_option maxRecDepth 100000 in
theorem k_X7_breakLong {l : Launch} (fu : Nat) {E : Ev} (hE : WE E) {a0 : Nat} (ha0 : E.1 a0 = some (0, 6, 0)) {x1 : Int32} {S : St} {t : St} (h : sp_X7_breakLong fu E S a0 x1 = some t) : Cn l mX7_breakLong [.ref a0, .int x1] (hp E S) (PoV E t) := by
  refine Cn.of (by decide) rfl (Nat.le_of_ble_eq_true rfl) (fun X _ _ hQ => ?_)
  refine (?_ : K mX7_breakLong X E 0 [(0, .ref a0), (1, .int x1)] [] S 0 0 (sp_X7_breakLong fu E S a0 x1) t) h
  unfold sp_X7_breakLong
  refine K_aload_n dX7_breakLong_0 rfl rfl ?_
  refine K_ite (fun h1 => ?_) (fun _ => K_none)
  refine K_getM hE dX7_breakLong_1 f_X7_26_6 ha0 rfl h1 ?_
  refine K_getC hE dX7_breakLong_4 f_X7_77_2 h1 rfl rfl (fun h2 => ?_)
  refine K_iload_n dX7_breakLong_7 rfl rfl ?_
  refine K_chk (fun h3 => ?_)
  refine K_iald dX7_breakLong_8 h2 h3 ?_
  refine K_bipush (v := (-3)) dX7_breakLong_9 (by decide) ?_
  refine K_icmp_ne (tgt := 31) dX7_breakLong_11 (by decide) (fun c18 => ?_) (fun c18 => ?_)
  · refine K.keep [0, 1] ?_
    exact kj_X7_breakLong_31 hQ hE fu ha0 x1 S
  · refine K_iload_n dX7_breakLong_14 rfl rfl ?_
    refine K_if_le (tgt := 31) dX7_breakLong_15 (by decide) (fun c17 => ?_) (fun c17 => ?_)
    · refine K.keep [0, 1] ?_
      exact kj_X7_breakLong_31 hQ hE fu ha0 x1 S
    · refine K_aload_n dX7_breakLong_18 rfl rfl ?_
      refine K_ite (fun h13 => ?_) (fun _ => K_none)
      refine K_getM hE dX7_breakLong_19 f_X7_26_6 ha0 rfl h13 ?_
      refine K_getC hE dX7_breakLong_22 f_X7_77_2 h13 rfl rfl (fun h14 => ?_)
      refine K_iload_n dX7_breakLong_25 rfl rfl ?_
      refine K_iconst (v := 1) dX7_breakLong_26 (by decide) ?_
      refine K_isub dX7_breakLong_27 ?_
      refine K_bipush (v := (-2)) dX7_breakLong_28 (by decide) ?_
      refine K_chk (fun h15 => ?_)
      refine K_iast dX7_breakLong_30 h14 h15 ?_
      refine K_nmS (fun S16 => ?_)
      refine K.keep [0, 1] ?_
      exact kj_X7_breakLong_31 hQ hE fu ha0 x1 S16
