def bd_X12_declareMethod_145 (fu : Nat) (E : Ev) (a0 : Nat) (rc145 : Int32 → Int32 → St → Option (Int32 × St)) (x4 : Int32) (x6 : Int32) (S : St) : Option (Int32 × St) :=
  if x4 ≤ x6 then (
    bnd (sF S a0 7 ((S.1 a0 7) + 1)) fun S20 =>
    some ((S20.1 a0 7) - 1, S20)
  ) else (
    if inb x6 6 = true then
      (
      if inb ((6 * (S.1 a0 7)) + x6) 180 = true then (
        bnd (sG S (E.2 a0 12) (((6 * (S.1 a0 7)) + x6).toNatClampNeg) (S.2.1 (E.2 a0 14) x6.toNatClampNeg)) fun S25 =>
        rc145 x4 (x6 + 1) S25
      ) else none
      )
    else none
  )
def lp_X12_declareMethod_145 (fu : Nat) (E : Ev) (a0 : Nat) : Nat → Int32 → Int32 → St → Option (Int32 × St)
  | 0, _, _, _ => none
  | f + 1, x4, x6, S => bd_X12_declareMethod_145 fu E a0 (lp_X12_declareMethod_145 fu E a0 f) x4 x6 S
set_option maxRecDepth 100000 in
theorem kl_X12_declareMethod_145 {X : Cx} {E : Ev} {t : (Int32 × St)} {a0 : Nat} (hQ : EndR mX12_declareMethod X (PoI E t)) (hE : WE E) (fu : Nat) (ha0 : E.1 a0 = some (0, 10, 0)) : ∀ (f : Nat) (x4 : Int32) (x6 : Int32) (S : St), K mX12_declareMethod X E 145 [(0, .ref a0), (4, .int x4), (6, .int x6)] [] S 0 0 (lp_X12_declareMethod_145 fu E a0 f x4 x6 S) t := by
  intro f
  induction f with
  | zero => intro x4 x6 S; exact K_none
  | succ f hrc145 =>
    intro x4 x6 S
    show K _ _ _ _ _ _ _ _ _ (bd_X12_declareMethod_145 fu E a0 (lp_X12_declareMethod_145 fu E a0 f) x4 x6 S) t
    unfold bd_X12_declareMethod_145
    refine K_iload dX12_declareMethod_145 rfl ?_
    refine K_iload dX12_declareMethod_147 rfl ?_
    refine K_icmp_ge (tgt := 180) dX12_declareMethod_149 (by decide) (fun c26 => ?_) (fun c26 => ?_)
    · refine K_aload_n dX12_declareMethod_180 rfl rfl ?_
      refine K_dup dX12_declareMethod_181 rfl ?_
      refine K_getI dX12_declareMethod_182 f_X12_149_10 ha0 rfl ?_
      refine K_iconst (v := 1) dX12_declareMethod_185 (by decide) ?_
      refine K_iadd dX12_declareMethod_186 ?_
      refine K_putI dX12_declareMethod_187 p_X12_149_10 ha0 rfl ?_
      refine K_nmS (fun S20 => ?_)
      refine K_aload_n dX12_declareMethod_190 rfl rfl ?_
      refine K_getI dX12_declareMethod_191 f_X12_149_10 ha0 rfl ?_
      refine K_iconst (v := 1) dX12_declareMethod_194 (by decide) ?_
      refine K_isub dX12_declareMethod_195 ?_
      exact K_iret dX12_declareMethod_196 hQ rfl (Nat.le_of_ble_eq_true rfl) (Nat.le_of_ble_eq_true rfl)
    · refine K_aload_n dX12_declareMethod_152 rfl rfl ?_
      refine K_getC hE dX12_declareMethod_153 f_X12_39_10 ha0 rfl rfl (fun h21 => ?_)
      refine K_bipush (v := 6) dX12_declareMethod_156 (by decide) ?_
      refine K_aload_n dX12_declareMethod_158 rfl rfl ?_
      refine K_getI dX12_declareMethod_159 f_X12_149_10 ha0 rfl ?_
      refine K_imul dX12_declareMethod_162 ?_
      refine K_iload dX12_declareMethod_163 rfl ?_
      refine K_iadd dX12_declareMethod_165 ?_
      refine K_aload_n dX12_declareMethod_166 rfl rfl ?_
      refine K_getC hE dX12_declareMethod_167 f_X12_42_10 ha0 rfl rfl (fun h22 => ?_)
      refine K_iload dX12_declareMethod_170 rfl ?_
      refine K_chk (fun h23 => ?_)
      refine K_iald dX12_declareMethod_172 h22 h23 ?_
      refine K_chk (fun h24 => ?_)
      refine K_iast dX12_declareMethod_173 h21 h24 ?_
      refine K_nmS (fun S25 => ?_)
      refine K_iinc (v := (x6 + 1)) (ls' := [(0, _), (4, _), (6, _)]) dX12_declareMethod_174 rfl rfl (by decide) rfl ?_
      refine K_goto (tgt := 145) dX12_declareMethod_177 (by decide) ?_
      refine K.keep [0, 4, 6] ?_
      exact hrc145 x4 (x6 + 1) S25
def jb_X12_declareMethod_86 (fu : Nat) (E : Ev) (a0 : Nat) (x1 : Int32) (x2 : Int32) (x3 : Int32) (x4 : Int32) (S : St) : Option (Int32 × St) :=
  if (S.1 a0 7) = 30 then (
    (sp_X12_no fu E S a0 2).bind fun u27 =>
    some (u27.1, u27.2)
  ) else (
    if inb (S.1 a0 7) 30 = true then (
      bnd (sG S (E.2 a0 8) ((S.1 a0 7).toNatClampNeg) x1) fun S10 =>
      if inb (S10.1 a0 7) 30 = true then (
        bnd (sG S10 (E.2 a0 9) ((S10.1 a0 7).toNatClampNeg) x2) fun S13 =>
        if inb (S13.1 a0 7) 30 = true then (
          bnd (sG S13 (E.2 a0 10) ((S13.1 a0 7).toNatClampNeg) x3) fun S16 =>
          if inb (S16.1 a0 7) 30 = true then (
            bnd (sG S16 (E.2 a0 11) ((S16.1 a0 7).toNatClampNeg) x4) fun S19 =>
            lp_X12_declareMethod_145 fu E a0 fu x4 0 S19
          ) else none
        ) else none
      ) else none
    ) else none
  )
set_option maxRecDepth 100000 in
theorem kj_X12_declareMethod_86 {X : Cx} {E : Ev} {t : (Int32 × St)} {a0 : Nat} (hQ : EndR mX12_declareMethod X (PoI E t)) (hE : WE E) (fu : Nat) (ha0 : E.1 a0 = some (0, 10, 0)) (x1 : Int32) (x2 : Int32) (x3 : Int32) (x4 : Int32) (S : St) : K mX12_declareMethod X E 86 [(0, .ref a0), (1, .int x1), (2, .int x2), (3, .int x3), (4, .int x4)] [] S 0 0 (jb_X12_declareMethod_86 fu E a0 x1 x2 x3 x4 S) t := by
  unfold jb_X12_declareMethod_86
  refine K_aload_n dX12_declareMethod_86 rfl rfl ?_
  refine K_getI dX12_declareMethod_87 f_X12_149_10 ha0 rfl ?_
  refine K_bipush (v := 30) dX12_declareMethod_90 (by decide) ?_
  refine K_icmp_ne (tgt := 101) dX12_declareMethod_92 (by decide) (fun c28 => ?_) (fun c28 => ?_)
  · refine K_aload_n dX12_declareMethod_101 rfl rfl ?_
    refine K_getC hE dX12_declareMethod_102 f_X12_27_10 ha0 rfl rfl (fun h8 => ?_)
    refine K_aload_n dX12_declareMethod_105 rfl rfl ?_
    refine K_getI dX12_declareMethod_106 f_X12_149_10 ha0 rfl ?_
    refine K_iload_n dX12_declareMethod_109 rfl rfl ?_
    refine K_chk (fun h9 => ?_)
    refine K_iast dX12_declareMethod_110 h8 h9 ?_
    refine K_nmS (fun S10 => ?_)
    refine K_aload_n dX12_declareMethod_111 rfl rfl ?_
    refine K_getC hE dX12_declareMethod_112 f_X12_30_10 ha0 rfl rfl (fun h11 => ?_)
    refine K_aload_n dX12_declareMethod_115 rfl rfl ?_
    refine K_getI dX12_declareMethod_116 f_X12_149_10 ha0 rfl ?_
    refine K_iload_n dX12_declareMethod_119 rfl rfl ?_
    refine K_chk (fun h12 => ?_)
    refine K_iast dX12_declareMethod_120 h11 h12 ?_
    refine K_nmS (fun S13 => ?_)
    refine K_aload_n dX12_declareMethod_121 rfl rfl ?_
    refine K_getC hE dX12_declareMethod_122 f_X12_33_10 ha0 rfl rfl (fun h14 => ?_)
    refine K_aload_n dX12_declareMethod_125 rfl rfl ?_
    refine K_getI dX12_declareMethod_126 f_X12_149_10 ha0 rfl ?_
    refine K_iload_n dX12_declareMethod_129 rfl rfl ?_
    refine K_chk (fun h15 => ?_)
    refine K_iast dX12_declareMethod_130 h14 h15 ?_
    refine K_nmS (fun S16 => ?_)
    refine K_aload_n dX12_declareMethod_131 rfl rfl ?_
    refine K_getC hE dX12_declareMethod_132 f_X12_36_10 ha0 rfl rfl (fun h17 => ?_)
    refine K_aload_n dX12_declareMethod_135 rfl rfl ?_
    refine K_getI dX12_declareMethod_136 f_X12_149_10 ha0 rfl ?_
    refine K_iload dX12_declareMethod_139 rfl ?_
    refine K_chk (fun h18 => ?_)
    refine K_iast dX12_declareMethod_141 h17 h18 ?_
    refine K_nmS (fun S19 => ?_)
    refine K_iconst (v := 0) dX12_declareMethod_142 (by decide) ?_
    refine K_istore (ls' := [(0, _), (1, _), (2, _), (3, _), (4, _), (6, _)]) dX12_declareMethod_143 (by decide) rfl ?_
    refine K.keep [0, 4, 6] ?_
    exact kl_X12_declareMethod_145 hQ hE fu ha0 fu x4 0 S19
  · refine K_aload_n dX12_declareMethod_95 rfl rfl ?_
    refine K_iconst (v := 2) dX12_declareMethod_96 (by decide) ?_
    refine K_bind (fun u27 hu27 => ?_)
    refine K_callVI (As := [.int 2]) (k_X12_no fu hE ha0 hu27) dX12_declareMethod_97 v_X12_126 ha0 rfl rfl rfl rfl (Nat.le_of_ble_eq_true rfl) ⟨Nat.le_of_ble_eq_true rfl, Nat.le_of_ble_eq_true rfl, Nat.le_of_ble_eq_true rfl, Nat.le_of_ble_eq_true rfl⟩ ?_
    exact K_iret dX12_declareMethod_100 hQ rfl (Nat.le_of_ble_eq_true rfl) (Nat.le_of_ble_eq_true rfl)
def jb_X12_declareMethod_46 (fu : Nat) (E : Ev) (a0 : Nat) (x1 : Int32) (x2 : Int32) (x3 : Int32) (x4 : Int32) (y0 : Int32) (S : St) : Option (Int32 × St) :=
  if y0 = 0 then (
    (sp_X12_no fu E S a0 1).bind fun u5 =>
    some (u5.1, u5.2)
  ) else (
    if x2 < 0 then (
      (sp_X12_no fu E S a0 1).bind fun u6 =>
      some (u6.1, u6.2)
    ) else (
      if 2 < x2 then (
        (sp_X12_no fu E S a0 1).bind fun u7 =>
        some (u7.1, u7.2)
      ) else (
        if x3 = (-1) then (
          jb_X12_declareMethod_86 fu E a0 x1 x2 x3 x4 S
        ) else (
          (sp_X12_isType fu E S a0 x3).bind fun u29 =>
          if u29.1 = 0 then (
            (sp_X12_no fu E u29.2 a0 1).bind fun u30 =>
            some (u30.1, u30.2)
          ) else (
            if x2 = 2 then (
              (sp_X12_no fu E u29.2 a0 1).bind fun u31 =>
              some (u31.1, u31.2)
            ) else (
              jb_X12_declareMethod_86 fu E a0 x1 x2 x3 x4 u29.2
            )
          )
        )
      )
    )
  )
set_option maxRecDepth 100000 in
theorem kj_X12_declareMethod_46 {X : Cx} {E : Ev} {t : (Int32 × St)} {a0 : Nat} (hQ : EndR mX12_declareMethod X (PoI E t)) (hE : WE E) (fu : Nat) (ha0 : E.1 a0 = some (0, 10, 0)) (x1 : Int32) (x2 : Int32) (x3 : Int32) (x4 : Int32) (y0 : Int32) (S : St) : K mX12_declareMethod X E 46 [(0, .ref a0), (1, .int x1), (2, .int x2), (3, .int x3), (4, .int x4)] [.int y0] S 0 0 (jb_X12_declareMethod_46 fu E a0 x1 x2 x3 x4 y0 S) t := by
  unfold jb_X12_declareMethod_46
  refine K_istore (ls' := [(0, _), (1, _), (2, _), (3, _), (4, _), (5, _)]) dX12_declareMethod_46 (by decide) rfl ?_
  refine K_iload dX12_declareMethod_48 rfl ?_
  refine K_if_eq (tgt := 80) dX12_declareMethod_50 (by decide) (fun c37 => ?_) (fun c37 => ?_)
  · refine K_aload_n dX12_declareMethod_80 rfl rfl ?_
    refine K_iconst (v := 1) dX12_declareMethod_81 (by decide) ?_
    refine K_bind (fun u5 hu5 => ?_)
    refine K_callVI (As := [.int 1]) (k_X12_no fu hE ha0 hu5) dX12_declareMethod_82 v_X12_126 ha0 rfl rfl rfl rfl (Nat.le_of_ble_eq_true rfl) ⟨Nat.le_of_ble_eq_true rfl, Nat.le_of_ble_eq_true rfl, Nat.le_of_ble_eq_true rfl, Nat.le_of_ble_eq_true rfl⟩ ?_
    exact K_iret dX12_declareMethod_85 hQ rfl (Nat.le_of_ble_eq_true rfl) (Nat.le_of_ble_eq_true rfl)
  · refine K_iload_n dX12_declareMethod_53 rfl rfl ?_
    refine K_if_lt (tgt := 80) dX12_declareMethod_54 (by decide) (fun c36 => ?_) (fun c36 => ?_)
    · refine K_aload_n dX12_declareMethod_80 rfl rfl ?_
      refine K_iconst (v := 1) dX12_declareMethod_81 (by decide) ?_
      refine K_bind (fun u6 hu6 => ?_)
      refine K_callVI (As := [.int 1]) (k_X12_no fu hE ha0 hu6) dX12_declareMethod_82 v_X12_126 ha0 rfl rfl rfl rfl (Nat.le_of_ble_eq_true rfl) ⟨Nat.le_of_ble_eq_true rfl, Nat.le_of_ble_eq_true rfl, Nat.le_of_ble_eq_true rfl, Nat.le_of_ble_eq_true rfl⟩ ?_
      exact K_iret dX12_declareMethod_85 hQ rfl (Nat.le_of_ble_eq_true rfl) (Nat.le_of_ble_eq_true rfl)
    · refine K_iload_n dX12_declareMethod_57 rfl rfl ?_
      refine K_iconst (v := 2) dX12_declareMethod_58 (by decide) ?_
      refine K_icmp_gt (tgt := 80) dX12_declareMethod_59 (by decide) (fun c35 => ?_) (fun c35 => ?_)
      · refine K_aload_n dX12_declareMethod_80 rfl rfl ?_
        refine K_iconst (v := 1) dX12_declareMethod_81 (by decide) ?_
        refine K_bind (fun u7 hu7 => ?_)
        refine K_callVI (As := [.int 1]) (k_X12_no fu hE ha0 hu7) dX12_declareMethod_82 v_X12_126 ha0 rfl rfl rfl rfl (Nat.le_of_ble_eq_true rfl) ⟨Nat.le_of_ble_eq_true rfl, Nat.le_of_ble_eq_true rfl, Nat.le_of_ble_eq_true rfl, Nat.le_of_ble_eq_true rfl⟩ ?_
        exact K_iret dX12_declareMethod_85 hQ rfl (Nat.le_of_ble_eq_true rfl) (Nat.le_of_ble_eq_true rfl)
      · refine K_iload_n dX12_declareMethod_62 rfl rfl ?_
        refine K_iconst (v := (-1)) dX12_declareMethod_63 (by decide) ?_
        refine K_icmp_eq (tgt := 86) dX12_declareMethod_64 (by decide) (fun c34 => ?_) (fun c34 => ?_)
        · refine K.keep [0, 1, 2, 3, 4] ?_
          exact kj_X12_declareMethod_86 hQ hE fu ha0 x1 x2 x3 x4 S
        · refine K_aload_n dX12_declareMethod_67 rfl rfl ?_
          refine K_iload_n dX12_declareMethod_68 rfl rfl ?_
          refine K_bind (fun u29 hu29 => ?_)
          refine K_callVI (As := [.int x3]) (k_X12_isType fu hE ha0 hu29) dX12_declareMethod_69 v_X12_93 ha0 rfl rfl rfl rfl (Nat.le_of_ble_eq_true rfl) ⟨Nat.le_of_ble_eq_true rfl, Nat.le_of_ble_eq_true rfl, Nat.le_of_ble_eq_true rfl, Nat.le_of_ble_eq_true rfl⟩ ?_
          refine K_if_eq (tgt := 80) dX12_declareMethod_72 (by decide) (fun c33 => ?_) (fun c33 => ?_)
          · refine K_aload_n dX12_declareMethod_80 rfl rfl ?_
            refine K_iconst (v := 1) dX12_declareMethod_81 (by decide) ?_
            refine K_bind (fun u30 hu30 => ?_)
            refine K_callVI (As := [.int 1]) (k_X12_no fu hE ha0 hu30) dX12_declareMethod_82 v_X12_126 ha0 rfl rfl rfl rfl (Nat.le_of_ble_eq_true rfl) ⟨Nat.le_of_ble_eq_true rfl, Nat.le_of_ble_eq_true rfl, Nat.le_of_ble_eq_true rfl, Nat.le_of_ble_eq_true rfl⟩ ?_
            exact K_iret dX12_declareMethod_85 hQ rfl (Nat.le_of_ble_eq_true rfl) (Nat.le_of_ble_eq_true rfl)
          · refine K_iload_n dX12_declareMethod_75 rfl rfl ?_
            refine K_iconst (v := 2) dX12_declareMethod_76 (by decide) ?_
            refine K_icmp_ne (tgt := 86) dX12_declareMethod_77 (by decide) (fun c32 => ?_) (fun c32 => ?_)
            · refine K.keep [0, 1, 2, 3, 4] ?_
              exact kj_X12_declareMethod_86 hQ hE fu ha0 x1 x2 x3 x4 u29.2
            · refine K_aload_n dX12_declareMethod_80 rfl rfl ?_
              refine K_iconst (v := 1) dX12_declareMethod_81 (by decide) ?_
              refine K_bind (fun u31 hu31 => ?_)
              refine K_callVI (As := [.int 1]) (k_X12_no fu hE ha0 hu31) dX12_declareMethod_82 v_X12_126 ha0 rfl rfl rfl rfl (Nat.le_of_ble_eq_true rfl) ⟨Nat.le_of_ble_eq_true rfl, Nat.le_of_ble_eq_true rfl, Nat.le_of_ble_eq_true rfl, Nat.le_of_ble_eq_true rfl⟩ ?_
              exact K_iret dX12_declareMethod_85 hQ rfl (Nat.le_of_ble_eq_true rfl) (Nat.le_of_ble_eq_true rfl)
def sp_X12_declareMethod (fu : Nat) (E : Ev) (S : St) (a0 : Nat) (x1 : Int32) (x2 : Int32) (x3 : Int32) : Option (Int32 × St) :=
  bnd (sF S a0 0 0) fun S1 =>
  bnd (S1.1 a0 13) fun v2 =>
  bnd (sF S1 a0 13 0) fun S3 =>
  (sp_X12_isClass fu E S3 a0 x1).bind fun u4 =>
  if u4.1 = 0 then (
    if x2 = 0 then (
      if x1 ≤ 2 then (
        jb_X12_declareMethod_46 fu E a0 x1 x2 x3 v2 0 u4.2
      ) else (
        if (u4.2.1 a0 1) ≤ x1 then (
          jb_X12_declareMethod_46 fu E a0 x1 x2 x3 v2 0 u4.2
        ) else (
          jb_X12_declareMethod_46 fu E a0 x1 x2 x3 v2 1 u4.2
        )
      )
    ) else (
      jb_X12_declareMethod_46 fu E a0 x1 x2 x3 v2 0 u4.2
    )
  ) else (
    jb_X12_declareMethod_46 fu E a0 x1 x2 x3 v2 1 u4.2
  )
set_option maxRecDepth 100000 in
theorem k_X12_declareMethod {l : Launch} (fu : Nat) {E : Ev} (hE : WE E) {a0 : Nat} (ha0 : E.1 a0 = some (0, 10, 0)) {x1 : Int32} {x2 : Int32} {x3 : Int32} {S : St} {t : (Int32 × St)} (h : sp_X12_declareMethod fu E S a0 x1 x2 x3 = some t) : Cn l mX12_declareMethod [.ref a0, .int x1, .int x2, .int x3] (hp E S) (PoI E t) := by
  refine Cn.of (by decide) rfl (Nat.le_of_ble_eq_true rfl) (fun X _ _ hQ => ?_)
  refine (?_ : K mX12_declareMethod X E 0 [(0, .ref a0), (1, .int x1), (2, .int x2), (3, .int x3)] [] S 0 0 (sp_X12_declareMethod fu E S a0 x1 x2 x3) t) h
  unfold sp_X12_declareMethod
  refine K_aload_n dX12_declareMethod_0 rfl rfl ?_
  refine K_iconst (v := 0) dX12_declareMethod_1 (by decide) ?_
  refine K_putI dX12_declareMethod_2 p_X12_90_10 ha0 rfl ?_
  refine K_nmS (fun S1 => ?_)
  refine K_aload_n dX12_declareMethod_5 rfl rfl ?_
  refine K_getI dX12_declareMethod_6 f_X12_139_10 ha0 rfl ?_
  refine K_nmI (fun v2 => ?_)
  refine K_istore (ls' := [(0, _), (1, _), (2, _), (3, _), (4, _)]) dX12_declareMethod_9 (by decide) rfl ?_
  refine K_aload_n dX12_declareMethod_11 rfl rfl ?_
  refine K_iconst (v := 0) dX12_declareMethod_12 (by decide) ?_
  refine K_putI dX12_declareMethod_13 p_X12_139_10 ha0 rfl ?_
  refine K_nmS (fun S3 => ?_)
  refine K_aload_n dX12_declareMethod_16 rfl rfl ?_
  refine K_iload_n dX12_declareMethod_17 rfl rfl ?_
  refine K_bind (fun u4 hu4 => ?_)
  refine K_callVI (As := [.int x1]) (k_X12_isClass fu hE ha0 hu4) dX12_declareMethod_18 v_X12_109 ha0 rfl rfl rfl rfl (Nat.le_of_ble_eq_true rfl) ⟨Nat.le_of_ble_eq_true rfl, Nat.le_of_ble_eq_true rfl, Nat.le_of_ble_eq_true rfl, Nat.le_of_ble_eq_true rfl⟩ ?_
  refine K_if_ne (tgt := 41) dX12_declareMethod_21 (by decide) (fun c41 => ?_) (fun c41 => ?_)
  · refine K_iconst (v := 1) dX12_declareMethod_41 (by decide) ?_
    refine K_goto (tgt := 46) dX12_declareMethod_42 (by decide) ?_
    refine K.keep [0, 1, 2, 3, 4] ?_
    exact kj_X12_declareMethod_46 hQ hE fu ha0 x1 x2 x3 v2 1 u4.2
  · refine K_iload_n dX12_declareMethod_24 rfl rfl ?_
    refine K_if_ne (tgt := 45) dX12_declareMethod_25 (by decide) (fun c40 => ?_) (fun c40 => ?_)
    · refine K_iconst (v := 0) dX12_declareMethod_45 (by decide) ?_
      refine K.keep [0, 1, 2, 3, 4] ?_
      exact kj_X12_declareMethod_46 hQ hE fu ha0 x1 x2 x3 v2 0 u4.2
    · refine K_iload_n dX12_declareMethod_28 rfl rfl ?_
      refine K_iconst (v := 2) dX12_declareMethod_29 (by decide) ?_
      refine K_icmp_le (tgt := 45) dX12_declareMethod_30 (by decide) (fun c39 => ?_) (fun c39 => ?_)
      · refine K_iconst (v := 0) dX12_declareMethod_45 (by decide) ?_
        refine K.keep [0, 1, 2, 3, 4] ?_
        exact kj_X12_declareMethod_46 hQ hE fu ha0 x1 x2 x3 v2 0 u4.2
      · refine K_iload_n dX12_declareMethod_33 rfl rfl ?_
        refine K_aload_n dX12_declareMethod_34 rfl rfl ?_
        refine K_getI dX12_declareMethod_35 f_X12_9_10 ha0 rfl ?_
        refine K_icmp_ge (tgt := 45) dX12_declareMethod_38 (by decide) (fun c38 => ?_) (fun c38 => ?_)
        · refine K_iconst (v := 0) dX12_declareMethod_45 (by decide) ?_
          refine K.keep [0, 1, 2, 3, 4] ?_
          exact kj_X12_declareMethod_46 hQ hE fu ha0 x1 x2 x3 v2 0 u4.2
        · refine K_iconst (v := 1) dX12_declareMethod_41 (by decide) ?_
          refine K_goto (tgt := 46) dX12_declareMethod_42 (by decide) ?_
          refine K.keep [0, 1, 2, 3, 4] ?_
          exact kj_X12_declareMethod_46 hQ hE fu ha0 x1 x2 x3 v2 1 u4.2
def bd_X12_needed_18 (fu : Nat) (E : Ev) (a0 : Nat) (rc18 : Int32 → Int32 → Int32 → St → Option (Int32 × St)) (x1 : Int32) (x2 : Int32) (x3 : Int32) (S : St) : Option (Int32 × St) :=
  if inb x1 30 = true then
    (
    if (S.2.1 (E.2 a0 11) x1.toNatClampNeg) ≤ x3 then (
      some (x2, S)
    ) else (
      if inb ((6 * x1) + x3) 180 = true then
        (
        (sp_X12_wide fu E S (S.2.1 (E.2 a0 12) ((6 * x1) + x3).toNatClampNeg)).bind fun u7 =>
        bnd (x2 + u7.1) fun v8 =>
        rc18 x1 v8 (x3 + 1) u7.2
        )
      else none
    )
    )
  else none
def lp_X12_needed_18 (fu : Nat) (E : Ev) (a0 : Nat) : Nat → Int32 → Int32 → Int32 → St → Option (Int32 × St)
  | 0, _, _, _, _ => none
  | f + 1, x1, x2, x3, S => bd_X12_needed_18 fu E a0 (lp_X12_needed_18 fu E a0 f) x1 x2 x3 S
set_option maxRecDepth 100000 in
theorem kl_X12_needed_18 {X : Cx} {E : Ev} {t : (Int32 × St)} {a0 : Nat} (hQ : EndR mX12_needed X (PoI E t)) (hE : WE E) (fu : Nat) (ha0 : E.1 a0 = some (0, 10, 0)) : ∀ (f : Nat) (x1 : Int32) (x2 : Int32) (x3 : Int32) (S : St), K mX12_needed X E 18 [(0, .ref a0), (1, .int x1), (2, .int x2), (3, .int x3)] [] S 0 0 (lp_X12_needed_18 fu E a0 f x1 x2 x3 S) t := by
  intro f
  induction f with
  | zero => intro x1 x2 x3 S; exact K_none
  | succ f hrc18 =>
    intro x1 x2 x3 S
    show K _ _ _ _ _ _ _ _ _ (bd_X12_needed_18 fu E a0 (lp_X12_needed_18 fu E a0 f) x1 x2 x3 S) t
    unfold bd_X12_needed_18
    refine K_iload_n dX12_needed_18 rfl rfl ?_
    refine K_aload_n dX12_needed_19 rfl rfl ?_
    refine K_getC hE dX12_needed_20 f_X12_36_10 ha0 rfl rfl (fun h3 => ?_)
    refine K_iload_n dX12_needed_23 rfl rfl ?_
    refine K_chk (fun h4 => ?_)
    refine K_iald dX12_needed_24 h3 h4 ?_
    refine K_icmp_ge (tgt := 51) dX12_needed_25 (by decide) (fun c9 => ?_) (fun c9 => ?_)
    · refine K_iload_n dX12_needed_51 rfl rfl ?_
      exact K_iret dX12_needed_52 hQ rfl (Nat.le_of_ble_eq_true rfl) (Nat.le_of_ble_eq_true rfl)
    · refine K_iload_n dX12_needed_28 rfl rfl ?_
      refine K_aload_n dX12_needed_29 rfl rfl ?_
      refine K_getC hE dX12_needed_30 f_X12_39_10 ha0 rfl rfl (fun h5 => ?_)
      refine K_bipush (v := 6) dX12_needed_33 (by decide) ?_
      refine K_iload_n dX12_needed_35 rfl rfl ?_
      refine K_imul dX12_needed_36 ?_
      refine K_iload_n dX12_needed_37 rfl rfl ?_
      refine K_iadd dX12_needed_38 ?_
      refine K_chk (fun h6 => ?_)
      refine K_iald dX12_needed_39 h5 h6 ?_
      refine K_bind (fun u7 hu7 => ?_)
      refine K_callSI (As := [.int (S.2.1 (E.2 a0 12) ((6 * x1) + x3).toNatClampNeg)]) (k_X12_wide fu hE hu7) dX12_needed_40 s_X12_142 rfl rfl (Nat.le_of_ble_eq_true rfl) ⟨Nat.le_of_ble_eq_true rfl, Nat.le_of_ble_eq_true rfl, Nat.le_of_ble_eq_true rfl, Nat.le_of_ble_eq_true rfl⟩ ?_
      refine K_iadd dX12_needed_43 ?_
      refine K_nmI (fun v8 => ?_)
      refine K_istore_n (ls' := [(0, _), (1, _), (2, _), (3, _)]) dX12_needed_44 rfl (by decide) rfl ?_
      refine K_iinc (v := (x3 + 1)) (ls' := [(0, _), (1, _), (2, _), (3, _)]) dX12_needed_45 rfl rfl (by decide) rfl ?_
      refine K_goto (tgt := 18) dX12_needed_48 (by decide) ?_
      refine K.keep [0, 1, 2, 3] ?_
      exact hrc18 x1 v8 (x3 + 1) u7.2
def sp_X12_needed (fu : Nat) (E : Ev) (S : St) (a0 : Nat) (x1 : Int32) : Option (Int32 × St) :=
  if inb x1 30 = true then
    (
    if (S.2.1 (E.2 a0 9) x1.toNatClampNeg) = 1 then (
      lp_X12_needed_18 fu E a0 fu x1 0 0 S
    ) else (
      lp_X12_needed_18 fu E a0 fu x1 1 0 S
    )
    )
  else none
set_option maxRecDepth 100000 in
theorem k_X12_needed {l : Launch} (fu : Nat) {E : Ev} (hE : WE E) {a0 : Nat} (ha0 : E.1 a0 = some (0, 10, 0)) {x1 : Int32} {S : St} {t : (Int32 × St)} (h : sp_X12_needed fu E S a0 x1 = some t) : Cn l mX12_needed [.ref a0, .int x1] (hp E S) (PoI E t) := by
  refine Cn.of (by decide) rfl (Nat.le_of_ble_eq_true rfl) (fun X _ _ hQ => ?_)
  refine (?_ : K mX12_needed X E 0 [(0, .ref a0), (1, .int x1)] [] S 0 0 (sp_X12_needed fu E S a0 x1) t) h
  unfold sp_X12_needed
  refine K_aload_n dX12_needed_0 rfl rfl ?_
  refine K_getC hE dX12_needed_1 f_X12_30_10 ha0 rfl rfl (fun h1 => ?_)
  refine K_iload_n dX12_needed_4 rfl rfl ?_
  refine K_chk (fun h2 => ?_)
  refine K_iald dX12_needed_5 h1 h2 ?_
  refine K_iconst (v := 1) dX12_needed_6 (by decide) ?_
  refine K_icmp_ne (tgt := 14) dX12_needed_7 (by decide) (fun c10 => ?_) (fun c10 => ?_)
  · refine K_iconst (v := 1) dX12_needed_14 (by decide) ?_
    refine K_istore_n (ls' := [(0, _), (1, _), (2, _)]) dX12_needed_15 rfl (by decide) rfl ?_
    refine K_iconst (v := 0) dX12_needed_16 (by decide) ?_
    refine K_istore_n (ls' := [(0, _), (1, _), (2, _), (3, _)]) dX12_needed_17 rfl (by decide) rfl ?_
    refine K.keep [0, 1, 2, 3] ?_
    exact kl_X12_needed_18 hQ hE fu ha0 fu x1 1 0 S
  · refine K_iconst (v := 0) dX12_needed_10 (by decide) ?_
    refine K_goto (tgt := 15) dX12_needed_11 (by decide) ?_
    refine K_istore_n (ls' := [(0, _), (1, _), (2, _)]) dX12_needed_15 rfl (by decide) rfl ?_
    refine K_iconst (v := 0) dX12_needed_16 (by decide) ?_
    refine K_istore_n (ls' := [(0, _), (1, _), (2, _), (3, _)]) dX12_needed_17 rfl (by decide) rfl ?_
    refine K.keep [0, 1, 2, 3] ?_
    exact kl_X12_needed_18 hQ hE fu ha0 fu x1 0 0 S
def bd_X12_discard_7 (fu : Nat) (E : Ev) (a0 : Nat) (rc7 : Int32 → St → Option St) (x1 : Int32) (S : St) : Option St :=
  if 100 ≤ x1 then (
    some S
  ) else (
    if inb x1 100 = true then (
      bnd (sG S (E.2 a0 28) (x1.toNatClampNeg) 0) fun S4 =>
      rc7 (x1 + 1) S4
    ) else none
  )
def lp_X12_discard_7 (fu : Nat) (E : Ev) (a0 : Nat) : Nat → Int32 → St → Option St
  | 0, _, _ => none
  | f + 1, x1, S => bd_X12_discard_7 fu E a0 (lp_X12_discard_7 fu E a0 f) x1 S
set_option maxRecDepth 100000 in
theorem kl_X12_discard_7 {X : Cx} {E : Ev} {t : St} {a0 : Nat} (hQ : EndR mX12_discard X (PoV E t)) (hE : WE E) (fu : Nat) (ha0 : E.1 a0 = some (0, 10, 0)) : ∀ (f : Nat) (x1 : Int32) (S : St), K mX12_discard X E 7 [(0, .ref a0), (1, .int x1)] [] S 0 0 (lp_X12_discard_7 fu E a0 f x1 S) t := by
  intro f
  induction f with
  | zero => intro x1 S; exact K_none
  | succ f hrc7 =>
    intro x1 S
    show K _ _ _ _ _ _ _ _ _ (bd_X12_discard_7 fu E a0 (lp_X12_discard_7 fu E a0 f) x1 S) t
    unfold bd_X12_discard_7
    refine K_iload_n dX12_discard_7 rfl rfl ?_
    refine K_bipush (v := 100) dX12_discard_8 (by decide) ?_
    refine K_icmp_ge (tgt := 26) dX12_discard_10 (by decide) (fun c5 => ?_) (fun c5 => ?_)
    · exact K_vret dX12_discard_26 hQ rfl (Nat.le_of_ble_eq_true rfl) (Nat.le_of_ble_eq_true rfl)
    · refine K_aload_n dX12_discard_13 rfl rfl ?_
      refine K_getC hE dX12_discard_14 f_X12_63_10 ha0 rfl rfl (fun h2 => ?_)
      refine K_iload_n dX12_discard_17 rfl rfl ?_
      refine K_iconst (v := 0) dX12_discard_18 (by decide) ?_
      refine K_chk (fun h3 => ?_)
      refine K_zast dX12_discard_19 h2 h3 rfl ?_
      refine K_nmS (fun S4 => ?_)
      refine K_iinc (v := (x1 + 1)) (ls' := [(0, _), (1, _)]) dX12_discard_20 rfl rfl (by decide) rfl ?_
      refine K_goto (tgt := 7) dX12_discard_23 (by decide) ?_
      refine K.keep [0, 1] ?_
      exact hrc7 (x1 + 1) S4
def sp_X12_discard (fu : Nat) (E : Ev) (S : St) (a0 : Nat) : Option St :=
  bnd (sF S a0 27 0) fun S1 =>
  lp_X12_discard_7 fu E a0 fu 0 S1
set_option maxRecDepth 100000 in
theorem k_X12_discard {l : Launch} (fu : Nat) {E : Ev} (hE : WE E) {a0 : Nat} (ha0 : E.1 a0 = some (0, 10, 0)) {S : St} {t : St} (h : sp_X12_discard fu E S a0 = some t) : Cn l mX12_discard [.ref a0] (hp E S) (PoV E t) := by
  refine Cn.of (by decide) rfl (Nat.le_of_ble_eq_true rfl) (fun X _ _ hQ => ?_)
  refine (?_ : K mX12_discard X E 0 [(0, .ref a0)] [] S 0 0 (sp_X12_discard fu E S a0) t) h
  unfold sp_X12_discard
  refine K_aload_n dX12_discard_0 rfl rfl ?_
  refine K_iconst (v := 0) dX12_discard_1 (by decide) ?_
  refine K_putZ dX12_discard_2 p_X12_177_10 ha0 rfl rfl ?_
  refine K_nmS (fun S1 => ?_)
  refine K_iconst (v := 0) dX12_discard_5 (by decide) ?_
  refine K_istore_n (ls' := [(0, _), (1, _)]) dX12_discard_6 rfl (by decide) rfl ?_
  refine K.keep [0, 1] ?_
  exact kl_X12_discard_7 hQ hE fu ha0 fu 0 S1
def bd_X12_begin_100 (fu : Nat) (E : Ev) (a0 : Nat) (rc100 : Int32 → St → Option (Int32 × St)) (x4 : Int32) (S : St) : Option (Int32 × St) :=
  if 100 ≤ x4 then (
    (sp_X12_needed fu E S a0 (S.1 a0 16)).bind fun u18 =>
    some (u18.1, u18.2)
  ) else (
    if inb x4 100 = true then (
      bnd (sG S (E.2 a0 30) (x4.toNatClampNeg) 0) fun S21 =>
      rc100 (x4 + 1) S21
    ) else none
  )
def lp_X12_begin_100 (fu : Nat) (E : Ev) (a0 : Nat) : Nat → Int32 → St → Option (Int32 × St)
  | 0, _, _ => none
  | f + 1, x4, S => bd_X12_begin_100 fu E a0 (lp_X12_begin_100 fu E a0 f) x4 S
set_option maxRecDepth 100000 in
theorem kl_X12_begin_100 {X : Cx} {E : Ev} {t : (Int32 × St)} {a0 : Nat} (hQ : EndR mX12_begin X (PoI E t)) (hE : WE E) (fu : Nat) (ha0 : E.1 a0 = some (0, 10, 0)) : ∀ (f : Nat) (x4 : Int32) (S : St), K mX12_begin X E 100 [(0, .ref a0), (4, .int x4)] [] S 0 0 (lp_X12_begin_100 fu E a0 f x4 S) t := by
  intro f
  induction f with
  | zero => intro x4 S; exact K_none
  | succ f hrc100 =>
    intro x4 S
    show K _ _ _ _ _ _ _ _ _ (bd_X12_begin_100 fu E a0 (lp_X12_begin_100 fu E a0 f) x4 S) t
    unfold bd_X12_begin_100
    refine K_iload dX12_begin_100 rfl ?_
    refine K_bipush (v := 100) dX12_begin_102 (by decide) ?_
    refine K_icmp_ge (tgt := 121) dX12_begin_104 (by decide) (fun c22 => ?_) (fun c22 => ?_)
    · refine K_aload_n dX12_begin_121 rfl rfl ?_
      refine K_aload_n dX12_begin_122 rfl rfl ?_
      refine K_getI dX12_begin_123 f_X12_156_10 ha0 rfl ?_
      refine K_bind (fun u18 hu18 => ?_)
      refine K_callVI (As := [.int (S.1 a0 16)]) (k_X12_needed fu hE ha0 hu18) dX12_begin_126 v_X12_174 ha0 rfl rfl rfl rfl (Nat.le_of_ble_eq_true rfl) ⟨Nat.le_of_ble_eq_true rfl, Nat.le_of_ble_eq_true rfl, Nat.le_of_ble_eq_true rfl, Nat.le_of_ble_eq_true rfl⟩ ?_
      exact K_iret dX12_begin_129 hQ rfl (Nat.le_of_ble_eq_true rfl) (Nat.le_of_ble_eq_true rfl)
    · refine K_aload_n dX12_begin_107 rfl rfl ?_
      refine K_getC hE dX12_begin_108 f_X12_69_10 ha0 rfl rfl (fun h19 => ?_)
      refine K_iload dX12_begin_111 rfl ?_
      refine K_iconst (v := 0) dX12_begin_113 (by decide) ?_
      refine K_chk (fun h20 => ?_)
      refine K_zast dX12_begin_114 h19 h20 rfl ?_
      refine K_nmS (fun S21 => ?_)
      refine K_iinc (v := (x4 + 1)) (ls' := [(0, _), (4, _)]) dX12_begin_115 rfl rfl (by decide) rfl ?_
      refine K_goto (tgt := 100) dX12_begin_118 (by decide) ?_
      refine K.keep [0, 4] ?_
      exact hrc100 (x4 + 1) S21
def sp_X12_begin (fu : Nat) (E : Ev) (S : St) (a0 : Nat) (x1 : Int32) (x2 : Int32) (x3 : Int32) : Option (Int32 × St) :=
  bnd (sF S a0 0 0) fun S1 =>
  if x1 < 0 then (
    (sp_X12_no fu E S1 a0 1).bind fun u2 =>
    some (u2.1, u2.2)
  ) else (
    if x1 < (S1.1 a0 7) then (
      if x2 < 0 then (
        (sp_X12_no fu E S1 a0 2).bind fun u3 =>
        some (u3.1, u3.2)
      ) else (
        if 12 < x2 then (
          (sp_X12_no fu E S1 a0 2).bind fun u4 =>
          some (u4.1, u4.2)
        ) else (
          if x3 < 0 then (
            (sp_X12_no fu E S1 a0 2).bind fun u5 =>
            some (u5.1, u5.2)
          ) else (
            if 12 < x3 then (
              (sp_X12_no fu E S1 a0 2).bind fun u6 =>
              some (u6.1, u6.2)
            ) else (
              if inb x1 30 = true then
                (
                if inb (S1.2.1 (E.2 a0 8) x1.toNatClampNeg) 20 = true then
                  (
                  if (S1.2.1 (E.2 a0 3) (S1.2.1 (E.2 a0 8) x1.toNatClampNeg).toNatClampNeg) = 0 then (
                    bnd (sF S1 a0 15 1) fun S11 =>
                    bnd (sF S11 a0 16 x1) fun S12 =>
                    bnd (sF S12 a0 17 x2) fun S13 =>
                    bnd (sF S13 a0 18 x3) fun S14 =>
                    bnd (sF S14 a0 19 0) fun S15 =>
                    bnd (sF S15 a0 22 0) fun S16 =>
                    (sp_X12_discard fu E S16 a0).bind fun u17 =>
                    lp_X12_begin_100 fu E a0 fu 0 u17
                  ) else (
                    (sp_X12_no fu E S1 a0 2).bind fun u23 =>
                    some (u23.1, u23.2)
                  )
                  )
                else none
                )
              else none
            )
          )
        )
      )
    ) else (
      (sp_X12_no fu E S1 a0 1).bind fun u29 =>
      some (u29.1, u29.2)
    )
  )
set_option maxRecDepth 100000 in
theorem k_X12_begin {l : Launch} (fu : Nat) {E : Ev} (hE : WE E) {a0 : Nat} (ha0 : E.1 a0 = some (0, 10, 0)) {x1 : Int32} {x2 : Int32} {x3 : Int32} {S : St} {t : (Int32 × St)} (h : sp_X12_begin fu E S a0 x1 x2 x3 = some t) : Cn l mX12_begin [.ref a0, .int x1, .int x2, .int x3] (hp E S) (PoI E t) := by
  refine Cn.of (by decide) rfl (Nat.le_of_ble_eq_true rfl) (fun X _ _ hQ => ?_)
  refine (?_ : K mX12_begin X E 0 [(0, .ref a0), (1, .int x1), (2, .int x2), (3, .int x3)] [] S 0 0 (sp_X12_begin fu E S a0 x1 x2 x3) t) h
  unfold sp_X12_begin
  refine K_aload_n dX12_begin_0 rfl rfl ?_
  refine K_iconst (v := 0) dX12_begin_1 (by decide) ?_
  refine K_putI dX12_begin_2 p_X12_90_10 ha0 rfl ?_
  refine K_nmS (fun S1 => ?_)
  refine K_iload_n dX12_begin_5 rfl rfl ?_
  refine K_if_lt (tgt := 17) dX12_begin_6 (by decide) (fun c31 => ?_) (fun c31 => ?_)
  · refine K_aload_n dX12_begin_17 rfl rfl ?_
    refine K_iconst (v := 1) dX12_begin_18 (by decide) ?_
    refine K_bind (fun u2 hu2 => ?_)
    refine K_callVI (As := [.int 1]) (k_X12_no fu hE ha0 hu2) dX12_begin_19 v_X12_126 ha0 rfl rfl rfl rfl (Nat.le_of_ble_eq_true rfl) ⟨Nat.le_of_ble_eq_true rfl, Nat.le_of_ble_eq_true rfl, Nat.le_of_ble_eq_true rfl, Nat.le_of_ble_eq_true rfl⟩ ?_
    exact K_iret dX12_begin_22 hQ rfl (Nat.le_of_ble_eq_true rfl) (Nat.le_of_ble_eq_true rfl)
  · refine K_iload_n dX12_begin_9 rfl rfl ?_
    refine K_aload_n dX12_begin_10 rfl rfl ?_
    refine K_getI dX12_begin_11 f_X12_149_10 ha0 rfl ?_
    refine K_icmp_lt (tgt := 23) dX12_begin_14 (by decide) (fun c30 => ?_) (fun c30 => ?_)
    · refine K_iload_n dX12_begin_23 rfl rfl ?_
      refine K_if_lt (tgt := 57) dX12_begin_24 (by decide) (fun c28 => ?_) (fun c28 => ?_)
      · refine K_aload_n dX12_begin_57 rfl rfl ?_
        refine K_iconst (v := 2) dX12_begin_58 (by decide) ?_
        refine K_bind (fun u3 hu3 => ?_)
        refine K_callVI (As := [.int 2]) (k_X12_no fu hE ha0 hu3) dX12_begin_59 v_X12_126 ha0 rfl rfl rfl rfl (Nat.le_of_ble_eq_true rfl) ⟨Nat.le_of_ble_eq_true rfl, Nat.le_of_ble_eq_true rfl, Nat.le_of_ble_eq_true rfl, Nat.le_of_ble_eq_true rfl⟩ ?_
        exact K_iret dX12_begin_62 hQ rfl (Nat.le_of_ble_eq_true rfl) (Nat.le_of_ble_eq_true rfl)
      · refine K_iload_n dX12_begin_27 rfl rfl ?_
        refine K_bipush (v := 12) dX12_begin_28 (by decide) ?_
        refine K_icmp_gt (tgt := 57) dX12_begin_30 (by decide) (fun c27 => ?_) (fun c27 => ?_)
        · refine K_aload_n dX12_begin_57 rfl rfl ?_
          refine K_iconst (v := 2) dX12_begin_58 (by decide) ?_
          refine K_bind (fun u4 hu4 => ?_)
          refine K_callVI (As := [.int 2]) (k_X12_no fu hE ha0 hu4) dX12_begin_59 v_X12_126 ha0 rfl rfl rfl rfl (Nat.le_of_ble_eq_true rfl) ⟨Nat.le_of_ble_eq_true rfl, Nat.le_of_ble_eq_true rfl, Nat.le_of_ble_eq_true rfl, Nat.le_of_ble_eq_true rfl⟩ ?_
          exact K_iret dX12_begin_62 hQ rfl (Nat.le_of_ble_eq_true rfl) (Nat.le_of_ble_eq_true rfl)
        · refine K_iload_n dX12_begin_33 rfl rfl ?_
          refine K_if_lt (tgt := 57) dX12_begin_34 (by decide) (fun c26 => ?_) (fun c26 => ?_)
          · refine K_aload_n dX12_begin_57 rfl rfl ?_
            refine K_iconst (v := 2) dX12_begin_58 (by decide) ?_
            refine K_bind (fun u5 hu5 => ?_)
            refine K_callVI (As := [.int 2]) (k_X12_no fu hE ha0 hu5) dX12_begin_59 v_X12_126 ha0 rfl rfl rfl rfl (Nat.le_of_ble_eq_true rfl) ⟨Nat.le_of_ble_eq_true rfl, Nat.le_of_ble_eq_true rfl, Nat.le_of_ble_eq_true rfl, Nat.le_of_ble_eq_true rfl⟩ ?_
            exact K_iret dX12_begin_62 hQ rfl (Nat.le_of_ble_eq_true rfl) (Nat.le_of_ble_eq_true rfl)
          · refine K_iload_n dX12_begin_37 rfl rfl ?_
            refine K_bipush (v := 12) dX12_begin_38 (by decide) ?_
            refine K_icmp_gt (tgt := 57) dX12_begin_40 (by decide) (fun c25 => ?_) (fun c25 => ?_)
            · refine K_aload_n dX12_begin_57 rfl rfl ?_
              refine K_iconst (v := 2) dX12_begin_58 (by decide) ?_
              refine K_bind (fun u6 hu6 => ?_)
              refine K_callVI (As := [.int 2]) (k_X12_no fu hE ha0 hu6) dX12_begin_59 v_X12_126 ha0 rfl rfl rfl rfl (Nat.le_of_ble_eq_true rfl) ⟨Nat.le_of_ble_eq_true rfl, Nat.le_of_ble_eq_true rfl, Nat.le_of_ble_eq_true rfl, Nat.le_of_ble_eq_true rfl⟩ ?_
              exact K_iret dX12_begin_62 hQ rfl (Nat.le_of_ble_eq_true rfl) (Nat.le_of_ble_eq_true rfl)
            · refine K_aload_n dX12_begin_43 rfl rfl ?_
              refine K_getC hE dX12_begin_44 f_X12_17_10 ha0 rfl rfl (fun h7 => ?_)
              refine K_aload_n dX12_begin_47 rfl rfl ?_
              refine K_getC hE dX12_begin_48 f_X12_27_10 ha0 rfl rfl (fun h8 => ?_)
              refine K_iload_n dX12_begin_51 rfl rfl ?_
              refine K_chk (fun h9 => ?_)
              refine K_iald dX12_begin_52 h8 h9 ?_
              refine K_chk (fun h10 => ?_)
              refine K_zald dX12_begin_53 h7 h10 ?_
              refine K_if_eq (tgt := 63) dX12_begin_54 (by decide) (fun c24 => ?_) (fun c24 => ?_)
              · refine K_aload_n dX12_begin_63 rfl rfl ?_
                refine K_iconst (v := 1) dX12_begin_64 (by decide) ?_
                refine K_putZ dX12_begin_65 p_X12_152_10 ha0 rfl rfl ?_
                refine K_nmS (fun S11 => ?_)
                refine K_aload_n dX12_begin_68 rfl rfl ?_
                refine K_iload_n dX12_begin_69 rfl rfl ?_
                refine K_putI dX12_begin_70 p_X12_156_10 ha0 rfl ?_
                refine K_nmS (fun S12 => ?_)
                refine K_aload_n dX12_begin_73 rfl rfl ?_
                refine K_iload_n dX12_begin_74 rfl rfl ?_
                refine K_putI dX12_begin_75 p_X12_159_10 ha0 rfl ?_
                refine K_nmS (fun S13 => ?_)
                refine K_aload_n dX12_begin_78 rfl rfl ?_
                refine K_iload_n dX12_begin_79 rfl rfl ?_
                refine K_putI dX12_begin_80 p_X12_162_10 ha0 rfl ?_
                refine K_nmS (fun S14 => ?_)
                refine K_aload_n dX12_begin_83 rfl rfl ?_
                refine K_iconst (v := 0) dX12_begin_84 (by decide) ?_
                refine K_putI dX12_begin_85 p_X12_165_10 ha0 rfl ?_
                refine K_nmS (fun S15 => ?_)
                refine K_aload_n dX12_begin_88 rfl rfl ?_
                refine K_iconst (v := 0) dX12_begin_89 (by decide) ?_
                refine K_putI dX12_begin_90 p_X12_168_10 ha0 rfl ?_
                refine K_nmS (fun S16 => ?_)
                refine K_aload_n dX12_begin_93 rfl rfl ?_
                refine K_bind (fun u17 hu17 => ?_)
                refine K_callVV (As := []) (k_X12_discard fu hE ha0 hu17) dX12_begin_94 v_X12_171 ha0 rfl rfl rfl rfl (Nat.le_of_ble_eq_true rfl) ⟨Nat.le_of_ble_eq_true rfl, Nat.le_of_ble_eq_true rfl, Nat.le_of_ble_eq_true rfl, Nat.le_of_ble_eq_true rfl⟩ ?_
                refine K_iconst (v := 0) dX12_begin_97 (by decide) ?_
                refine K_istore (ls' := [(0, _), (1, _), (2, _), (3, _), (4, _)]) dX12_begin_98 (by decide) rfl ?_
                refine K.keep [0, 4] ?_
                exact kl_X12_begin_100 hQ hE fu ha0 fu 0 u17
              · refine K_aload_n dX12_begin_57 rfl rfl ?_
                refine K_iconst (v := 2) dX12_begin_58 (by decide) ?_
                refine K_bind (fun u23 hu23 => ?_)
                refine K_callVI (As := [.int 2]) (k_X12_no fu hE ha0 hu23) dX12_begin_59 v_X12_126 ha0 rfl rfl rfl rfl (Nat.le_of_ble_eq_true rfl) ⟨Nat.le_of_ble_eq_true rfl, Nat.le_of_ble_eq_true rfl, Nat.le_of_ble_eq_true rfl, Nat.le_of_ble_eq_true rfl⟩ ?_
                exact K_iret dX12_begin_62 hQ rfl (Nat.le_of_ble_eq_true rfl) (Nat.le_of_ble_eq_true rfl)
    · refine K_aload_n dX12_begin_17 rfl rfl ?_
      refine K_iconst (v := 1) dX12_begin_18 (by decide) ?_
      refine K_bind (fun u29 hu29 => ?_)
      refine K_callVI (As := [.int 1]) (k_X12_no fu hE ha0 hu29) dX12_begin_19 v_X12_126 ha0 rfl rfl rfl rfl (Nat.le_of_ble_eq_true rfl) ⟨Nat.le_of_ble_eq_true rfl, Nat.le_of_ble_eq_true rfl, Nat.le_of_ble_eq_true rfl, Nat.le_of_ble_eq_true rfl⟩ ?_
      exact K_iret dX12_begin_22 hQ rfl (Nat.le_of_ble_eq_true rfl) (Nat.le_of_ble_eq_true rfl)
def sp_X12_emit (fu : Nat) (E : Ev) (S : St) (a0 : Nat) (x1 : Int32) (x2 : Int32) : Option (Int32 × St) :=
  bnd (sF S a0 0 0) fun S1 =>
  if x1 < 0 then (
    (sp_X12_no fu E S1 a0 1).bind fun u2 =>
    some (u2.1, u2.2)
  ) else (
    if x1 ≤ 45 then (
      if (S1.1 a0 15) = 0 then (
        (sp_X12_no fu E S1 a0 2).bind fun u3 =>
        some (u3.1, u3.2)
      ) else (
        if (S1.1 a0 19) = 100 then (
          (sp_X12_no fu E S1 a0 2).bind fun u12 =>
          some (u12.1, u12.2)
        ) else (
          if inb (S1.1 a0 19) 100 = true then (
            bnd (sG S1 (E.2 a0 20) ((S1.1 a0 19).toNatClampNeg) x1) fun S6 =>
            if inb (S6.1 a0 19) 100 = true then (
              bnd (sG S6 (E.2 a0 21) ((S6.1 a0 19).toNatClampNeg) x2) fun S9 =>
              bnd (sF S9 a0 19 ((S9.1 a0 19) + 1)) fun S10 =>
              (sp_X12_discard fu E S10 a0).bind fun u11 =>
              some ((u11.1 a0 19) - 1, u11)
            ) else none
          ) else none
        )
      )
    ) else (
      (sp_X12_no fu E S1 a0 1).bind fun u15 =>
      some (u15.1, u15.2)
    )
  )
set_option maxRecDepth 100000 in
theorem k_X12_emit {l : Launch} (fu : Nat) {E : Ev} (hE : WE E) {a0 : Nat} (ha0 : E.1 a0 = some (0, 10, 0)) {x1 : Int32} {x2 : Int32} {S : St} {t : (Int32 × St)} (h : sp_X12_emit fu E S a0 x1 x2 = some t) : Cn l mX12_emit [.ref a0, .int x1, .int x2] (hp E S) (PoI E t) := by
  refine Cn.of (by decide) rfl (Nat.le_of_ble_eq_true rfl) (fun X _ _ hQ => ?_)
  refine (?_ : K mX12_emit X E 0 [(0, .ref a0), (1, .int x1), (2, .int x2)] [] S 0 0 (sp_X12_emit fu E S a0 x1 x2) t) h
  unfold sp_X12_emit
  refine K_aload_n dX12_emit_0 rfl rfl ?_
  refine K_iconst (v := 0) dX12_emit_1 (by decide) ?_
  refine K_putI dX12_emit_2 p_X12_90_10 ha0 rfl ?_
  refine K_nmS (fun S1 => ?_)
  refine K_iload_n dX12_emit_5 rfl rfl ?_
  refine K_if_lt (tgt := 15) dX12_emit_6 (by decide) (fun c17 => ?_) (fun c17 => ?_)
  · refine K_aload_n dX12_emit_15 rfl rfl ?_
    refine K_iconst (v := 1) dX12_emit_16 (by decide) ?_
    refine K_bind (fun u2 hu2 => ?_)
    refine K_callVI (As := [.int 1]) (k_X12_no fu hE ha0 hu2) dX12_emit_17 v_X12_126 ha0 rfl rfl rfl rfl (Nat.le_of_ble_eq_true rfl) ⟨Nat.le_of_ble_eq_true rfl, Nat.le_of_ble_eq_true rfl, Nat.le_of_ble_eq_true rfl, Nat.le_of_ble_eq_true rfl⟩ ?_
    exact K_iret dX12_emit_20 hQ rfl (Nat.le_of_ble_eq_true rfl) (Nat.le_of_ble_eq_true rfl)
  · refine K_iload_n dX12_emit_9 rfl rfl ?_
    refine K_bipush (v := 45) dX12_emit_10 (by decide) ?_
    refine K_icmp_le (tgt := 21) dX12_emit_12 (by decide) (fun c16 => ?_) (fun c16 => ?_)
    · refine K_aload_n dX12_emit_21 rfl rfl ?_
      refine K_getI dX12_emit_22 f_X12_152_10 ha0 rfl ?_
      refine K_if_eq (tgt := 37) dX12_emit_25 (by decide) (fun c14 => ?_) (fun c14 => ?_)
      · refine K_aload_n dX12_emit_37 rfl rfl ?_
        refine K_iconst (v := 2) dX12_emit_38 (by decide) ?_
        refine K_bind (fun u3 hu3 => ?_)
        refine K_callVI (As := [.int 2]) (k_X12_no fu hE ha0 hu3) dX12_emit_39 v_X12_126 ha0 rfl rfl rfl rfl (Nat.le_of_ble_eq_true rfl) ⟨Nat.le_of_ble_eq_true rfl, Nat.le_of_ble_eq_true rfl, Nat.le_of_ble_eq_true rfl, Nat.le_of_ble_eq_true rfl⟩ ?_
        exact K_iret dX12_emit_42 hQ rfl (Nat.le_of_ble_eq_true rfl) (Nat.le_of_ble_eq_true rfl)
      · refine K_aload_n dX12_emit_28 rfl rfl ?_
        refine K_getI dX12_emit_29 f_X12_165_10 ha0 rfl ?_
        refine K_bipush (v := 100) dX12_emit_32 (by decide) ?_
        refine K_icmp_ne (tgt := 43) dX12_emit_34 (by decide) (fun c13 => ?_) (fun c13 => ?_)
        · refine K_aload_n dX12_emit_43 rfl rfl ?_
          refine K_getC hE dX12_emit_44 f_X12_45_10 ha0 rfl rfl (fun h4 => ?_)
          refine K_aload_n dX12_emit_47 rfl rfl ?_
          refine K_getI dX12_emit_48 f_X12_165_10 ha0 rfl ?_
          refine K_iload_n dX12_emit_51 rfl rfl ?_
          refine K_chk (fun h5 => ?_)
          refine K_iast dX12_emit_52 h4 h5 ?_
          refine K_nmS (fun S6 => ?_)
          refine K_aload_n dX12_emit_53 rfl rfl ?_
          refine K_getC hE dX12_emit_54 f_X12_48_10 ha0 rfl rfl (fun h7 => ?_)
          refine K_aload_n dX12_emit_57 rfl rfl ?_
          refine K_getI dX12_emit_58 f_X12_165_10 ha0 rfl ?_
          refine K_iload_n dX12_emit_61 rfl rfl ?_
          refine K_chk (fun h8 => ?_)
          refine K_iast dX12_emit_62 h7 h8 ?_
          refine K_nmS (fun S9 => ?_)
          refine K_aload_n dX12_emit_63 rfl rfl ?_
          refine K_dup dX12_emit_64 rfl ?_
          refine K_getI dX12_emit_65 f_X12_165_10 ha0 rfl ?_
          refine K_iconst (v := 1) dX12_emit_68 (by decide) ?_
          refine K_iadd dX12_emit_69 ?_
          refine K_putI dX12_emit_70 p_X12_165_10 ha0 rfl ?_
          refine K_nmS (fun S10 => ?_)
          refine K_aload_n dX12_emit_73 rfl rfl ?_
          refine K_bind (fun u11 hu11 => ?_)
          refine K_callVV (As := []) (k_X12_discard fu hE ha0 hu11) dX12_emit_74 v_X12_171 ha0 rfl rfl rfl rfl (Nat.le_of_ble_eq_true rfl) ⟨Nat.le_of_ble_eq_true rfl, Nat.le_of_ble_eq_true rfl, Nat.le_of_ble_eq_true rfl, Nat.le_of_ble_eq_true rfl⟩ ?_
          refine K_aload_n dX12_emit_77 rfl rfl ?_
          refine K_getI dX12_emit_78 f_X12_165_10 ha0 rfl ?_
          refine K_iconst (v := 1) dX12_emit_81 (by decide) ?_
          refine K_isub dX12_emit_82 ?_
          exact K_iret dX12_emit_83 hQ rfl (Nat.le_of_ble_eq_true rfl) (Nat.le_of_ble_eq_true rfl)
        · refine K_aload_n dX12_emit_37 rfl rfl ?_
          refine K_iconst (v := 2) dX12_emit_38 (by decide) ?_
          refine K_bind (fun u12 hu12 => ?_)
          refine K_callVI (As := [.int 2]) (k_X12_no fu hE ha0 hu12) dX12_emit_39 v_X12_126 ha0 rfl rfl rfl rfl (Nat.le_of_ble_eq_true rfl) ⟨Nat.le_of_ble_eq_true rfl, Nat.le_of_ble_eq_true rfl, Nat.le_of_ble_eq_true rfl, Nat.le_of_ble_eq_true rfl⟩ ?_
          exact K_iret dX12_emit_42 hQ rfl (Nat.le_of_ble_eq_true rfl) (Nat.le_of_ble_eq_true rfl)
    · refine K_aload_n dX12_emit_15 rfl rfl ?_
      refine K_iconst (v := 1) dX12_emit_16 (by decide) ?_
      refine K_bind (fun u15 hu15 => ?_)
      refine K_callVI (As := [.int 1]) (k_X12_no fu hE ha0 hu15) dX12_emit_17 v_X12_126 ha0 rfl rfl rfl rfl (Nat.le_of_ble_eq_true rfl) ⟨Nat.le_of_ble_eq_true rfl, Nat.le_of_ble_eq_true rfl, Nat.le_of_ble_eq_true rfl, Nat.le_of_ble_eq_true rfl⟩ ?_
      exact K_iret dX12_emit_20 hQ rfl (Nat.le_of_ble_eq_true rfl) (Nat.le_of_ble_eq_true rfl)
def sp_X12_addHandler (fu : Nat) (E : Ev) (S : St) (a0 : Nat) (x1 : Int32) (x2 : Int32) (x3 : Int32) (x4 : Int32) : Option (Int32 × St) :=
  bnd (sF S a0 0 0) fun S1 =>
  (sp_X12_isClass fu E S1 a0 x4).bind fun u2 =>
  if u2.1 = 0 then (
    (sp_X12_no fu E u2.2 a0 1).bind fun u21 =>
    some (u21.1, u21.2)
  ) else (
    if (u2.2.1 a0 15) = 0 then (
      (sp_X12_no fu E u2.2 a0 2).bind fun u3 =>
      some (u3.1, u3.2)
    ) else (
      if (u2.2.1 a0 22) = 10 then (
        (sp_X12_no fu E u2.2 a0 2).bind fun u18 =>
        some (u18.1, u18.2)
      ) else (
        if inb (u2.2.1 a0 22) 10 = true then (
          bnd (sG u2.2 (E.2 a0 23) ((u2.2.1 a0 22).toNatClampNeg) x1) fun S6 =>
          if inb (S6.1 a0 22) 10 = true then (
            bnd (sG S6 (E.2 a0 24) ((S6.1 a0 22).toNatClampNeg) x2) fun S9 =>
            if inb (S9.1 a0 22) 10 = true then (
              bnd (sG S9 (E.2 a0 25) ((S9.1 a0 22).toNatClampNeg) x3) fun S12 =>
              if inb (S12.1 a0 22) 10 = true then (
                bnd (sG S12 (E.2 a0 26) ((S12.1 a0 22).toNatClampNeg) x4) fun S15 =>
                bnd (sF S15 a0 22 ((S15.1 a0 22) + 1)) fun S16 =>
                (sp_X12_discard fu E S16 a0).bind fun u17 =>
                some ((u17.1 a0 22) - 1, u17)
              ) else none
            ) else none
          ) else none
        ) else none
      )
    )
  )
set_option maxRecDepth 100000 in
theorem k_X12_addHandler {l : Launch} (fu : Nat) {E : Ev} (hE : WE E) {a0 : Nat} (ha0 : E.1 a0 = some (0, 10, 0)) {x1 : Int32} {x2 : Int32} {x3 : Int32} {x4 : Int32} {S : St} {t : (Int32 × St)} (h : sp_X12_addHandler fu E S a0 x1 x2 x3 x4 = some t) : Cn l mX12_addHandler [.ref a0, .int x1, .int x2, .int x3, .int x4] (hp E S) (PoI E t) := by
  refine Cn.of (by decide) rfl (Nat.le_of_ble_eq_true rfl) (fun X _ _ hQ => ?_)
  refine (?_ : K mX12_addHandler X E 0 [(0, .ref a0), (1, .int x1), (2, .int x2), (3, .int x3), (4, .int x4)] [] S 0 0 (sp_X12_addHandler fu E S a0 x1 x2 x3 x4) t) h
  unfold sp_X12_addHandler
  refine K_aload_n dX12_addHandler_0 rfl rfl ?_
  refine K_iconst (v := 0) dX12_addHandler_1 (by decide) ?_
  refine K_putI dX12_addHandler_2 p_X12_90_10 ha0 rfl ?_
  refine K_nmS (fun S1 => ?_)
  refine K_aload_n dX12_addHandler_5 rfl rfl ?_
  refine K_iload dX12_addHandler_6 rfl ?_
  refine K_bind (fun u2 hu2 => ?_)
  refine K_callVI (As := [.int x4]) (k_X12_isClass fu hE ha0 hu2) dX12_addHandler_8 v_X12_109 ha0 rfl rfl rfl rfl (Nat.le_of_ble_eq_true rfl) ⟨Nat.le_of_ble_eq_true rfl, Nat.le_of_ble_eq_true rfl, Nat.le_of_ble_eq_true rfl, Nat.le_of_ble_eq_true rfl⟩ ?_
  refine K_if_ne (tgt := 20) dX12_addHandler_11 (by decide) (fun c22 => ?_) (fun c22 => ?_)
  · refine K_aload_n dX12_addHandler_20 rfl rfl ?_
    refine K_getI dX12_addHandler_21 f_X12_152_10 ha0 rfl ?_
    refine K_if_eq (tgt := 36) dX12_addHandler_24 (by decide) (fun c20 => ?_) (fun c20 => ?_)
    · refine K_aload_n dX12_addHandler_36 rfl rfl ?_
      refine K_iconst (v := 2) dX12_addHandler_37 (by decide) ?_
      refine K_bind (fun u3 hu3 => ?_)
      refine K_callVI (As := [.int 2]) (k_X12_no fu hE ha0 hu3) dX12_addHandler_38 v_X12_126 ha0 rfl rfl rfl rfl (Nat.le_of_ble_eq_true rfl) ⟨Nat.le_of_ble_eq_true rfl, Nat.le_of_ble_eq_true rfl, Nat.le_of_ble_eq_true rfl, Nat.le_of_ble_eq_true rfl⟩ ?_
      exact K_iret dX12_addHandler_41 hQ rfl (Nat.le_of_ble_eq_true rfl) (Nat.le_of_ble_eq_true rfl)
    · refine K_aload_n dX12_addHandler_27 rfl rfl ?_
      refine K_getI dX12_addHandler_28 f_X12_168_10 ha0 rfl ?_
      refine K_bipush (v := 10) dX12_addHandler_31 (by decide) ?_
      refine K_icmp_ne (tgt := 42) dX12_addHandler_33 (by decide) (fun c19 => ?_) (fun c19 => ?_)
      · refine K_aload_n dX12_addHandler_42 rfl rfl ?_
        refine K_getC hE dX12_addHandler_43 f_X12_51_10 ha0 rfl rfl (fun h4 => ?_)
        refine K_aload_n dX12_addHandler_46 rfl rfl ?_
        refine K_getI dX12_addHandler_47 f_X12_168_10 ha0 rfl ?_
        refine K_iload_n dX12_addHandler_50 rfl rfl ?_
        refine K_chk (fun h5 => ?_)
        refine K_iast dX12_addHandler_51 h4 h5 ?_
        refine K_nmS (fun S6 => ?_)
        refine K_aload_n dX12_addHandler_52 rfl rfl ?_
        refine K_getC hE dX12_addHandler_53 f_X12_54_10 ha0 rfl rfl (fun h7 => ?_)
        refine K_aload_n dX12_addHandler_56 rfl rfl ?_
        refine K_getI dX12_addHandler_57 f_X12_168_10 ha0 rfl ?_
        refine K_iload_n dX12_addHandler_60 rfl rfl ?_
        refine K_chk (fun h8 => ?_)
        refine K_iast dX12_addHandler_61 h7 h8 ?_
        refine K_nmS (fun S9 => ?_)
        refine K_aload_n dX12_addHandler_62 rfl rfl ?_
        refine K_getC hE dX12_addHandler_63 f_X12_57_10 ha0 rfl rfl (fun h10 => ?_)
        refine K_aload_n dX12_addHandler_66 rfl rfl ?_
        refine K_getI dX12_addHandler_67 f_X12_168_10 ha0 rfl ?_
        refine K_iload_n dX12_addHandler_70 rfl rfl ?_
        refine K_chk (fun h11 => ?_)
        refine K_iast dX12_addHandler_71 h10 h11 ?_
        refine K_nmS (fun S12 => ?_)
        refine K_aload_n dX12_addHandler_72 rfl rfl ?_
        refine K_getC hE dX12_addHandler_73 f_X12_60_10 ha0 rfl rfl (fun h13 => ?_)
        refine K_aload_n dX12_addHandler_76 rfl rfl ?_
        refine K_getI dX12_addHandler_77 f_X12_168_10 ha0 rfl ?_
        refine K_iload dX12_addHandler_80 rfl ?_
        refine K_chk (fun h14 => ?_)
        refine K_iast dX12_addHandler_82 h13 h14 ?_
        refine K_nmS (fun S15 => ?_)
        refine K_aload_n dX12_addHandler_83 rfl rfl ?_
        refine K_dup dX12_addHandler_84 rfl ?_
        refine K_getI dX12_addHandler_85 f_X12_168_10 ha0 rfl ?_
        refine K_iconst (v := 1) dX12_addHandler_88 (by decide) ?_
        refine K_iadd dX12_addHandler_89 ?_
        refine K_putI dX12_addHandler_90 p_X12_168_10 ha0 rfl ?_
        refine K_nmS (fun S16 => ?_)
        refine K_aload_n dX12_addHandler_93 rfl rfl ?_
        refine K_bind (fun u17 hu17 => ?_)
        refine K_callVV (As := []) (k_X12_discard fu hE ha0 hu17) dX12_addHandler_94 v_X12_171 ha0 rfl rfl rfl rfl (Nat.le_of_ble_eq_true rfl) ⟨Nat.le_of_ble_eq_true rfl, Nat.le_of_ble_eq_true rfl, Nat.le_of_ble_eq_true rfl, Nat.le_of_ble_eq_true rfl⟩ ?_
        refine K_aload_n dX12_addHandler_97 rfl rfl ?_
        refine K_getI dX12_addHandler_98 f_X12_168_10 ha0 rfl ?_
        refine K_iconst (v := 1) dX12_addHandler_101 (by decide) ?_
        refine K_isub dX12_addHandler_102 ?_
        exact K_iret dX12_addHandler_103 hQ rfl (Nat.le_of_ble_eq_true rfl) (Nat.le_of_ble_eq_true rfl)
      · refine K_aload_n dX12_addHandler_36 rfl rfl ?_
        refine K_iconst (v := 2) dX12_addHandler_37 (by decide) ?_
        refine K_bind (fun u18 hu18 => ?_)
        refine K_callVI (As := [.int 2]) (k_X12_no fu hE ha0 hu18) dX12_addHandler_38 v_X12_126 ha0 rfl rfl rfl rfl (Nat.le_of_ble_eq_true rfl) ⟨Nat.le_of_ble_eq_true rfl, Nat.le_of_ble_eq_true rfl, Nat.le_of_ble_eq_true rfl, Nat.le_of_ble_eq_true rfl⟩ ?_
        exact K_iret dX12_addHandler_41 hQ rfl (Nat.le_of_ble_eq_true rfl) (Nat.le_of_ble_eq_true rfl)
  · refine K_aload_n dX12_addHandler_14 rfl rfl ?_
    refine K_iconst (v := 1) dX12_addHandler_15 (by decide) ?_
    refine K_bind (fun u21 hu21 => ?_)
    refine K_callVI (As := [.int 1]) (k_X12_no fu hE ha0 hu21) dX12_addHandler_16 v_X12_126 ha0 rfl rfl rfl rfl (Nat.le_of_ble_eq_true rfl) ⟨Nat.le_of_ble_eq_true rfl, Nat.le_of_ble_eq_true rfl, Nat.le_of_ble_eq_true rfl, Nat.le_of_ble_eq_true rfl⟩ ?_
    exact K_iret dX12_addHandler_19 hQ rfl (Nat.le_of_ble_eq_true rfl) (Nat.le_of_ble_eq_true rfl)
def sp_X12_instructionCount (fu : Nat) (E : Ev) (S : St) (a0 : Nat) : Option (Int32 × St) :=
  bnd (sF S a0 0 0) fun S1 =>
  some (S1.1 a0 19, S1)
set_option maxRecDepth 100000 in
theorem k_X12_instructionCount {l : Launch} (fu : Nat) {E : Ev} (hE : WE E) {a0 : Nat} (ha0 : E.1 a0 = some (0, 10, 0)) {S : St} {t : (Int32 × St)} (h : sp_X12_instructionCount fu E S a0 = some t) : Cn l mX12_instructionCount [.ref a0] (hp E S) (PoI E t) := by
  refine Cn.of (by decide) rfl (Nat.le_of_ble_eq_true rfl) (fun X _ _ hQ => ?_)
  refine (?_ : K mX12_instructionCount X E 0 [(0, .ref a0)] [] S 0 0 (sp_X12_instructionCount fu E S a0) t) h
  unfold sp_X12_instructionCount
  refine K_aload_n dX12_instructionCount_0 rfl rfl ?_
  refine K_iconst (v := 0) dX12_instructionCount_1 (by decide) ?_
  refine K_putI dX12_instructionCount_2 p_X12_90_10 ha0 rfl ?_
  refine K_nmS (fun S1 => ?_)
  refine K_aload_n dX12_instructionCount_5 rfl rfl ?_
  refine K_getI dX12_instructionCount_6 f_X12_165_10 ha0 rfl ?_
  exact K_iret dX12_instructionCount_9 hQ rfl (Nat.le_of_ble_eq_true rfl) (Nat.le_of_ble_eq_true rfl)
def sp_X12_pushLocal (fu : Nat) (E : Ev) (S : St) (a0 : Nat) (x1 : Int32) : Option (Int32 × St) :=
  bnd (sF S a0 0 0) fun S1 =>
  (sp_X12_isSlotValue fu E S1 a0 x1).bind fun u2 =>
  if u2.1 = 0 then (
    (sp_X12_no fu E u2.2 a0 1).bind fun u9 =>
    some (u9.1, u9.2)
  ) else (
    if (u2.2.1 a0 32) = 12 then (
      (sp_X12_no fu E u2.2 a0 2).bind fun u7 =>
      some (u7.1, u7.2)
    ) else (
      if inb (u2.2.1 a0 32) 24 = true then (
        bnd (sG u2.2 (E.2 a0 34) ((u2.2.1 a0 32).toNatClampNeg) x1) fun S5 =>
        bnd (sF S5 a0 32 ((S5.1 a0 32) + 1)) fun S6 =>
        some (S6.1 a0 32, S6)
      ) else none
    )
  )
set_option maxRecDepth 100000 in
theorem k_X12_pushLocal {l : Launch} (fu : Nat) {E : Ev} (hE : WE E) {a0 : Nat} (ha0 : E.1 a0 = some (0, 10, 0)) {x1 : Int32} {S : St} {t : (Int32 × St)} (h : sp_X12_pushLocal fu E S a0 x1 = some t) : Cn l mX12_pushLocal [.ref a0, .int x1] (hp E S) (PoI E t) := by
  refine Cn.of (by decide) rfl (Nat.le_of_ble_eq_true rfl) (fun X _ _ hQ => ?_)
  refine (?_ : K mX12_pushLocal X E 0 [(0, .ref a0), (1, .int x1)] [] S 0 0 (sp_X12_pushLocal fu E S a0 x1) t) h
  unfold sp_X12_pushLocal
  refine K_aload_n dX12_pushLocal_0 rfl rfl ?_
  refine K_iconst (v := 0) dX12_pushLocal_1 (by decide) ?_
  refine K_putI dX12_pushLocal_2 p_X12_90_10 ha0 rfl ?_
  refine K_nmS (fun S1 => ?_)
  refine K_aload_n dX12_pushLocal_5 rfl rfl ?_
  refine K_iload_n dX12_pushLocal_6 rfl rfl ?_
  refine K_bind (fun u2 hu2 => ?_)
  refine K_callVI (As := [.int x1]) (k_X12_isSlotValue fu hE ha0 hu2) dX12_pushLocal_7 v_X12_123 ha0 rfl rfl rfl rfl (Nat.le_of_ble_eq_true rfl) ⟨Nat.le_of_ble_eq_true rfl, Nat.le_of_ble_eq_true rfl, Nat.le_of_ble_eq_true rfl, Nat.le_of_ble_eq_true rfl⟩ ?_
  refine K_if_ne (tgt := 19) dX12_pushLocal_10 (by decide) (fun c10 => ?_) (fun c10 => ?_)
  · refine K_aload_n dX12_pushLocal_19 rfl rfl ?_
    refine K_getI dX12_pushLocal_20 f_X12_180_10 ha0 rfl ?_
    refine K_bipush (v := 12) dX12_pushLocal_23 (by decide) ?_
    refine K_icmp_ne (tgt := 34) dX12_pushLocal_25 (by decide) (fun c8 => ?_) (fun c8 => ?_)
    · refine K_aload_n dX12_pushLocal_34 rfl rfl ?_
      refine K_getC hE dX12_pushLocal_35 f_X12_75_10 ha0 rfl rfl (fun h3 => ?_)
      refine K_aload_n dX12_pushLocal_38 rfl rfl ?_
      refine K_getI dX12_pushLocal_39 f_X12_180_10 ha0 rfl ?_
      refine K_iload_n dX12_pushLocal_42 rfl rfl ?_
      refine K_chk (fun h4 => ?_)
      refine K_iast dX12_pushLocal_43 h3 h4 ?_
      refine K_nmS (fun S5 => ?_)
      refine K_aload_n dX12_pushLocal_44 rfl rfl ?_
      refine K_dup dX12_pushLocal_45 rfl ?_
      refine K_getI dX12_pushLocal_46 f_X12_180_10 ha0 rfl ?_
      refine K_iconst (v := 1) dX12_pushLocal_49 (by decide) ?_
      refine K_iadd dX12_pushLocal_50 ?_
      refine K_putI dX12_pushLocal_51 p_X12_180_10 ha0 rfl ?_
      refine K_nmS (fun S6 => ?_)
      refine K_aload_n dX12_pushLocal_54 rfl rfl ?_
      refine K_getI dX12_pushLocal_55 f_X12_180_10 ha0 rfl ?_
      exact K_iret dX12_pushLocal_58 hQ rfl (Nat.le_of_ble_eq_true rfl) (Nat.le_of_ble_eq_true rfl)
    · refine K_aload_n dX12_pushLocal_28 rfl rfl ?_
      refine K_iconst (v := 2) dX12_pushLocal_29 (by decide) ?_
      refine K_bind (fun u7 hu7 => ?_)
      refine K_callVI (As := [.int 2]) (k_X12_no fu hE ha0 hu7) dX12_pushLocal_30 v_X12_126 ha0 rfl rfl rfl rfl (Nat.le_of_ble_eq_true rfl) ⟨Nat.le_of_ble_eq_true rfl, Nat.le_of_ble_eq_true rfl, Nat.le_of_ble_eq_true rfl, Nat.le_of_ble_eq_true rfl⟩ ?_
      exact K_iret dX12_pushLocal_33 hQ rfl (Nat.le_of_ble_eq_true rfl) (Nat.le_of_ble_eq_true rfl)
  · refine K_aload_n dX12_pushLocal_13 rfl rfl ?_
    refine K_iconst (v := 1) dX12_pushLocal_14 (by decide) ?_
    refine K_bind (fun u9 hu9 => ?_)
    refine K_callVI (As := [.int 1]) (k_X12_no fu hE ha0 hu9) dX12_pushLocal_15 v_X12_126 ha0 rfl rfl rfl rfl (Nat.le_of_ble_eq_true rfl) ⟨Nat.le_of_ble_eq_true rfl, Nat.le_of_ble_eq_true rfl, Nat.le_of_ble_eq_true rfl, Nat.le_of_ble_eq_true rfl⟩ ?_
    exact K_iret dX12_pushLocal_18 hQ rfl (Nat.le_of_ble_eq_true rfl) (Nat.le_of_ble_eq_true rfl)
def sp_X12_pushStack (fu : Nat) (E : Ev) (S : St) (a0 : Nat) (x1 : Int32) : Option (Int32 × St) :=
  bnd (sF S a0 0 0) fun S1 =>
  (sp_X12_isSlotValue fu E S1 a0 x1).bind fun u2 =>
  if u2.1 = 0 then (
    (sp_X12_no fu E u2.2 a0 1).bind fun u9 =>
    some (u9.1, u9.2)
  ) else (
    if (u2.2.1 a0 33) = 12 then (
      (sp_X12_no fu E u2.2 a0 2).bind fun u7 =>
      some (u7.1, u7.2)
    ) else (
      if inb (12 + (u2.2.1 a0 33)) 24 = true then (
        bnd (sG u2.2 (E.2 a0 34) ((12 + (u2.2.1 a0 33)).toNatClampNeg) x1) fun S5 =>
        bnd (sF S5 a0 33 ((S5.1 a0 33) + 1)) fun S6 =>
        some (S6.1 a0 33, S6)
      ) else none
    )
  )
set_option maxRecDepth 100000 in
theorem k_X12_pushStack {l : Launch} (fu : Nat) {E : Ev} (hE : WE E) {a0 : Nat} (ha0 : E.1 a0 = some (0, 10, 0)) {x1 : Int32} {S : St} {t : (Int32 × St)} (h : sp_X12_pushStack fu E S a0 x1 = some t) : Cn l mX12_pushStack [.ref a0, .int x1] (hp E S) (PoI E t) := by
  refine Cn.of (by decide) rfl (Nat.le_of_ble_eq_true rfl) (fun X _ _ hQ => ?_)
  refine (?_ : K mX12_pushStack X E 0 [(0, .ref a0), (1, .int x1)] [] S 0 0 (sp_X12_pushStack fu E S a0 x1) t) h
  unfold sp_X12_pushStack
  refine K_aload_n dX12_pushStack_0 rfl rfl ?_
  refine K_iconst (v := 0) dX12_pushStack_1 (by decide) ?_
  refine K_putI dX12_pushStack_2 p_X12_90_10 ha0 rfl ?_
  refine K_nmS (fun S1 => ?_)
  refine K_aload_n dX12_pushStack_5 rfl rfl ?_
  refine K_iload_n dX12_pushStack_6 rfl rfl ?_
  refine K_bind (fun u2 hu2 => ?_)
  refine K_callVI (As := [.int x1]) (k_X12_isSlotValue fu hE ha0 hu2) dX12_pushStack_7 v_X12_123 ha0 rfl rfl rfl rfl (Nat.le_of_ble_eq_true rfl) ⟨Nat.le_of_ble_eq_true rfl, Nat.le_of_ble_eq_true rfl, Nat.le_of_ble_eq_true rfl, Nat.le_of_ble_eq_true rfl⟩ ?_
  refine K_if_ne (tgt := 19) dX12_pushStack_10 (by decide) (fun c10 => ?_) (fun c10 => ?_)
  · refine K_aload_n dX12_pushStack_19 rfl rfl ?_
    refine K_getI dX12_pushStack_20 f_X12_183_10 ha0 rfl ?_
    refine K_bipush (v := 12) dX12_pushStack_23 (by decide) ?_
    refine K_icmp_ne (tgt := 34) dX12_pushStack_25 (by decide) (fun c8 => ?_) (fun c8 => ?_)
    · refine K_aload_n dX12_pushStack_34 rfl rfl ?_
      refine K_getC hE dX12_pushStack_35 f_X12_75_10 ha0 rfl rfl (fun h3 => ?_)
      refine K_bipush (v := 12) dX12_pushStack_38 (by decide) ?_
      refine K_aload_n dX12_pushStack_40 rfl rfl ?_
      refine K_getI dX12_pushStack_41 f_X12_183_10 ha0 rfl ?_
      refine K_iadd dX12_pushStack_44 ?_
      refine K_iload_n dX12_pushStack_45 rfl rfl ?_
      refine K_chk (fun h4 => ?_)
      refine K_iast dX12_pushStack_46 h3 h4 ?_
      refine K_nmS (fun S5 => ?_)
      refine K_aload_n dX12_pushStack_47 rfl rfl ?_
      refine K_dup dX12_pushStack_48 rfl ?_
      refine K_getI dX12_pushStack_49 f_X12_183_10 ha0 rfl ?_
      refine K_iconst (v := 1) dX12_pushStack_52 (by decide) ?_
      refine K_iadd dX12_pushStack_53 ?_
      refine K_putI dX12_pushStack_54 p_X12_183_10 ha0 rfl ?_
      refine K_nmS (fun S6 => ?_)
      refine K_aload_n dX12_pushStack_57 rfl rfl ?_
      refine K_getI dX12_pushStack_58 f_X12_183_10 ha0 rfl ?_
      exact K_iret dX12_pushStack_61 hQ rfl (Nat.le_of_ble_eq_true rfl) (Nat.le_of_ble_eq_true rfl)
    · refine K_aload_n dX12_pushStack_28 rfl rfl ?_
      refine K_iconst (v := 2) dX12_pushStack_29 (by decide) ?_
      refine K_bind (fun u7 hu7 => ?_)
      refine K_callVI (As := [.int 2]) (k_X12_no fu hE ha0 hu7) dX12_pushStack_30 v_X12_126 ha0 rfl rfl rfl rfl (Nat.le_of_ble_eq_true rfl) ⟨Nat.le_of_ble_eq_true rfl, Nat.le_of_ble_eq_true rfl, Nat.le_of_ble_eq_true rfl, Nat.le_of_ble_eq_true rfl⟩ ?_
      exact K_iret dX12_pushStack_33 hQ rfl (Nat.le_of_ble_eq_true rfl) (Nat.le_of_ble_eq_true rfl)
  · refine K_aload_n dX12_pushStack_13 rfl rfl ?_
    refine K_iconst (v := 1) dX12_pushStack_14 (by decide) ?_
    refine K_bind (fun u9 hu9 => ?_)
    refine K_callVI (As := [.int 1]) (k_X12_no fu hE ha0 hu9) dX12_pushStack_15 v_X12_126 ha0 rfl rfl rfl rfl (Nat.le_of_ble_eq_true rfl) ⟨Nat.le_of_ble_eq_true rfl, Nat.le_of_ble_eq_true rfl, Nat.le_of_ble_eq_true rfl, Nat.le_of_ble_eq_true rfl⟩ ?_
    exact K_iret dX12_pushStack_18 hQ rfl (Nat.le_of_ble_eq_true rfl) (Nat.le_of_ble_eq_true rfl)
def bd_X12_declaredCount_4 (fu : Nat) (E : Ev) (a0 : Nat) (rc4 : Int32 → Int32 → St → Option (Int32 × St)) (x1 : Int32) (x2 : Int32) (S : St) : Option (Int32 × St) :=
  if (S.1 a0 19) ≤ x2 then (
    some (x1, S)
  ) else (
    if inb x2 100 = true then
      (
      if (S.2.1 (E.2 a0 30) x2.toNatClampNeg) = 0 then (
        bnd (x1 + 0) fun v3 =>
        rc4 v3 (x2 + 1) S
      ) else (
        bnd (x1 + 1) fun v4 =>
        rc4 v4 (x2 + 1) S
      )
      )
    else none
  )
def lp_X12_declaredCount_4 (fu : Nat) (E : Ev) (a0 : Nat) : Nat → Int32 → Int32 → St → Option (Int32 × St)
  | 0, _, _, _ => none
  | f + 1, x1, x2, S => bd_X12_declaredCount_4 fu E a0 (lp_X12_declaredCount_4 fu E a0 f) x1 x2 S
set_option maxRecDepth 100000 in
theorem kl_X12_declaredCount_4 {X : Cx} {E : Ev} {t : (Int32 × St)} {a0 : Nat} (hQ : EndR mX12_declaredCount X (PoI E t)) (hE : WE E) (fu : Nat) (ha0 : E.1 a0 = some (0, 10, 0)) : ∀ (f : Nat) (x1 : Int32) (x2 : Int32) (S : St), K mX12_declaredCount X E 4 [(0, .ref a0), (1, .int x1), (2, .int x2)] [] S 0 0 (lp_X12_declaredCount_4 fu E a0 f x1 x2 S) t := by
  intro f
  induction f with
  | zero => intro x1 x2 S; exact K_none
  | succ f hrc4 =>
    intro x1 x2 S
    show K _ _ _ _ _ _ _ _ _ (bd_X12_declaredCount_4 fu E a0 (lp_X12_declaredCount_4 fu E a0 f) x1 x2 S) t
    unfold bd_X12_declaredCount_4
    refine K_iload_n dX12_declaredCount_4 rfl rfl ?_
    refine K_aload_n dX12_declaredCount_5 rfl rfl ?_
    refine K_getI dX12_declaredCount_6 f_X12_165_10 ha0 rfl ?_
    refine K_icmp_ge (tgt := 35) dX12_declaredCount_9 (by decide) (fun c6 => ?_) (fun c6 => ?_)
    · refine K_iload_n dX12_declaredCount_35 rfl rfl ?_
      exact K_iret dX12_declaredCount_36 hQ rfl (Nat.le_of_ble_eq_true rfl) (Nat.le_of_ble_eq_true rfl)
    · refine K_iload_n dX12_declaredCount_12 rfl rfl ?_
      refine K_aload_n dX12_declaredCount_13 rfl rfl ?_
      refine K_getC hE dX12_declaredCount_14 f_X12_69_10 ha0 rfl rfl (fun h1 => ?_)
      refine K_iload_n dX12_declaredCount_17 rfl rfl ?_
      refine K_chk (fun h2 => ?_)
      refine K_zald dX12_declaredCount_18 h1 h2 ?_
      refine K_if_eq (tgt := 26) dX12_declaredCount_19 (by decide) (fun c5 => ?_) (fun c5 => ?_)
      · refine K_iconst (v := 0) dX12_declaredCount_26 (by decide) ?_
        refine K_iadd dX12_declaredCount_27 ?_
        refine K_nmI (fun v3 => ?_)
        refine K_istore_n (ls' := [(0, _), (1, _), (2, _)]) dX12_declaredCount_28 rfl (by decide) rfl ?_
        refine K_iinc (v := (x2 + 1)) (ls' := [(0, _), (1, _), (2, _)]) dX12_declaredCount_29 rfl rfl (by decide) rfl ?_
        refine K_goto (tgt := 4) dX12_declaredCount_32 (by decide) ?_
        refine K.keep [0, 1, 2] ?_
        exact hrc4 v3 (x2 + 1) S
      · refine K_iconst (v := 1) dX12_declaredCount_22 (by decide) ?_
        refine K_goto (tgt := 27) dX12_declaredCount_23 (by decide) ?_
        refine K_iadd dX12_declaredCount_27 ?_
        refine K_nmI (fun v4 => ?_)
        refine K_istore_n (ls' := [(0, _), (1, _), (2, _)]) dX12_declaredCount_28 rfl (by decide) rfl ?_
        refine K_iinc (v := (x2 + 1)) (ls' := [(0, _), (1, _), (2, _)]) dX12_declaredCount_29 rfl rfl (by decide) rfl ?_
        refine K_goto (tgt := 4) dX12_declaredCount_32 (by decide) ?_
        refine K.keep [0, 1, 2] ?_
        exact hrc4 v4 (x2 + 1) S
def sp_X12_declaredCount (fu : Nat) (E : Ev) (S : St) (a0 : Nat) : Option (Int32 × St) :=
  lp_X12_declaredCount_4 fu E a0 fu 0 0 S
set_option maxRecDepth 100000 in
theorem k_X12_declaredCount {l : Launch} (fu : Nat) {E : Ev} (hE : WE E) {a0 : Nat} (ha0 : E.1 a0 = some (0, 10, 0)) {S : St} {t : (Int32 × St)} (h : sp_X12_declaredCount fu E S a0 = some t) : Cn l mX12_declaredCount [.ref a0] (hp E S) (PoI E t) := by
  refine Cn.of (by decide) rfl (Nat.le_of_ble_eq_true rfl) (fun X _ _ hQ => ?_)
  refine (?_ : K mX12_declaredCount X E 0 [(0, .ref a0)] [] S 0 0 (sp_X12_declaredCount fu E S a0) t) h
  unfold sp_X12_declaredCount
  refine K_iconst (v := 0) dX12_declaredCount_0 (by decide) ?_
  refine K_istore_n (ls' := [(0, _), (1, _)]) dX12_declaredCount_1 rfl (by decide) rfl ?_
  refine K_iconst (v := 0) dX12_declaredCount_2 (by decide) ?_
  refine K_istore_n (ls' := [(0, _), (1, _), (2, _)]) dX12_declaredCount_3 rfl (by decide) rfl ?_
  refine K.keep [0, 1, 2] ?_
  exact kl_X12_declaredCount_4 hQ hE fu ha0 fu 0 0 S
def jb_X12_isPaired_61 (fu : Nat) (E : Ev) (a0 : Nat) (rc5 : Int32 → Int32 → Int32 → Int32 → St → Option (Int32 × St)) (x1 : Int32) (x2 : Int32) (x3 : Int32) (x4 : Int32) (x5 : Int32) (y0 : Int32) (S : St) : Option (Int32 × St) :=
  if x5 = y0 then (
    if 0 < x4 then (
      bnd (x3 &&& 1) fun v5 =>
      rc5 x1 x2 v5 (x4 + 1) S
    ) else (
      if inb x1 24 = true then
        (
        if (S.2.1 (E.2 a0 34) x1.toNatClampNeg) = (-3) then (
          bnd (x3 &&& 0) fun v8 =>
          rc5 x1 x2 v8 (x4 + 1) S
        ) else (
          bnd (x3 &&& 1) fun v9 =>
          rc5 x1 x2 v9 (x4 + 1) S
        )
        )
      else none
    )
  ) else (
    bnd (x3 &&& 0) fun v4 =>
    rc5 x1 x2 v4 (x4 + 1) S
  )
set_option maxRecDepth 100000 in
theorem kj_X12_isPaired_61 {X : Cx} {E : Ev} {t : (Int32 × St)} {a0 : Nat} {rc5 : Int32 → Int32 → Int32 → Int32 → St → Option (Int32 × St)} (hQ : EndR mX12_isPaired X (PoI E t)) (hE : WE E) (fu : Nat) (ha0 : E.1 a0 = some (0, 10, 0)) (hrc5 : ∀ (x1 : Int32) (x2 : Int32) (x3 : Int32) (x4 : Int32) (S : St), K mX12_isPaired X E 5 [(0, .ref a0), (1, .int x1), (2, .int x2), (3, .int x3), (4, .int x4)] [] S 0 0 (rc5 x1 x2 x3 x4 S) t) (x1 : Int32) (x2 : Int32) (x3 : Int32) (x4 : Int32) (x5 : Int32) (y0 : Int32) (S : St) : K mX12_isPaired X E 61 [(0, .ref a0), (1, .int x1), (2, .int x2), (3, .int x3), (4, .int x4), (5, .int x5)] [.int y0] S 0 0 (jb_X12_isPaired_61 fu E a0 rc5 x1 x2 x3 x4 x5 y0 S) t := by
  unfold jb_X12_isPaired_61
  refine K_istore (ls' := [(0, _), (1, _), (2, _), (3, _), (4, _), (5, _), (6, _)]) dX12_isPaired_61 (by decide) rfl ?_
  refine K_iload_n dX12_isPaired_63 rfl rfl ?_
  refine K_iload dX12_isPaired_64 rfl ?_
  refine K_iload dX12_isPaired_66 rfl ?_
  refine K_icmp_ne (tgt := 91) dX12_isPaired_68 (by decide) (fun c12 => ?_) (fun c12 => ?_)
  · refine K_iconst (v := 0) dX12_isPaired_91 (by decide) ?_
    refine K_iand dX12_isPaired_92 ?_
    refine K_nmI (fun v4 => ?_)
    refine K_istore_n (ls' := [(0, _), (1, _), (2, _), (3, _), (4, _), (5, _), (6, _)]) dX12_isPaired_93 rfl (by decide) rfl ?_
    refine K_iinc (v := (x4 + 1)) (ls' := [(0, _), (1, _), (2, _), (3, _), (4, _), (5, _), (6, _)]) dX12_isPaired_94 rfl rfl (by decide) rfl ?_
    refine K_goto (tgt := 5) dX12_isPaired_97 (by decide) ?_
    refine K.keep [0, 1, 2, 3, 4] ?_
    exact hrc5 x1 x2 v4 (x4 + 1) S
  · refine K_iload dX12_isPaired_71 rfl ?_
    refine K_if_gt (tgt := 87) dX12_isPaired_73 (by decide) (fun c11 => ?_) (fun c11 => ?_)
    · refine K_iconst (v := 1) dX12_isPaired_87 (by decide) ?_
      refine K_goto (tgt := 92) dX12_isPaired_88 (by decide) ?_
      refine K_iand dX12_isPaired_92 ?_
      refine K_nmI (fun v5 => ?_)
      refine K_istore_n (ls' := [(0, _), (1, _), (2, _), (3, _), (4, _), (5, _), (6, _)]) dX12_isPaired_93 rfl (by decide) rfl ?_
      refine K_iinc (v := (x4 + 1)) (ls' := [(0, _), (1, _), (2, _), (3, _), (4, _), (5, _), (6, _)]) dX12_isPaired_94 rfl rfl (by decide) rfl ?_
      refine K_goto (tgt := 5) dX12_isPaired_97 (by decide) ?_
      refine K.keep [0, 1, 2, 3, 4] ?_
      exact hrc5 x1 x2 v5 (x4 + 1) S
    · refine K_aload_n dX12_isPaired_76 rfl rfl ?_
      refine K_getC hE dX12_isPaired_77 f_X12_75_10 ha0 rfl rfl (fun h6 => ?_)
      refine K_iload_n dX12_isPaired_80 rfl rfl ?_
      refine K_chk (fun h7 => ?_)
      refine K_iald dX12_isPaired_81 h6 h7 ?_
      refine K_bipush (v := (-3)) dX12_isPaired_82 (by decide) ?_
      refine K_icmp_eq (tgt := 91) dX12_isPaired_84 (by decide) (fun c10 => ?_) (fun c10 => ?_)
      · refine K_iconst (v := 0) dX12_isPaired_91 (by decide) ?_
        refine K_iand dX12_isPaired_92 ?_
        refine K_nmI (fun v8 => ?_)
        refine K_istore_n (ls' := [(0, _), (1, _), (2, _), (3, _), (4, _), (5, _), (6, _)]) dX12_isPaired_93 rfl (by decide) rfl ?_
        refine K_iinc (v := (x4 + 1)) (ls' := [(0, _), (1, _), (2, _), (3, _), (4, _), (5, _), (6, _)]) dX12_isPaired_94 rfl rfl (by decide) rfl ?_
        refine K_goto (tgt := 5) dX12_isPaired_97 (by decide) ?_
        refine K.keep [0, 1, 2, 3, 4] ?_
        exact hrc5 x1 x2 v8 (x4 + 1) S
      · refine K_iconst (v := 1) dX12_isPaired_87 (by decide) ?_
        refine K_goto (tgt := 92) dX12_isPaired_88 (by decide) ?_
        refine K_iand dX12_isPaired_92 ?_
        refine K_nmI (fun v9 => ?_)
        refine K_istore_n (ls' := [(0, _), (1, _), (2, _), (3, _), (4, _), (5, _), (6, _)]) dX12_isPaired_93 rfl (by decide) rfl ?_
        refine K_iinc (v := (x4 + 1)) (ls' := [(0, _), (1, _), (2, _), (3, _), (4, _), (5, _), (6, _)]) dX12_isPaired_94 rfl rfl (by decide) rfl ?_
        refine K_goto (tgt := 5) dX12_isPaired_97 (by decide) ?_
        refine K.keep [0, 1, 2, 3, 4] ?_
        exact hrc5 x1 x2 v9 (x4 + 1) S
def jb_X12_isPaired_30 (fu : Nat) (E : Ev) (a0 : Nat) (rc5 : Int32 → Int32 → Int32 → Int32 → St → Option (Int32 × St)) (x1 : Int32) (x2 : Int32) (x3 : Int32) (x4 : Int32) (y0 : Int32) (S : St) : Option (Int32 × St) :=
  if x2 ≤ (x4 + 1) then (
    jb_X12_isPaired_61 fu E a0 rc5 x1 x2 x3 x4 y0 0 S
  ) else (
    if inb ((x1 + x4) + 1) 24 = true then
      (
      if (S.2.1 (E.2 a0 34) ((x1 + x4) + 1).toNatClampNeg) = (-3) then (
        jb_X12_isPaired_61 fu E a0 rc5 x1 x2 x3 x4 y0 1 S
      ) else (
        jb_X12_isPaired_61 fu E a0 rc5 x1 x2 x3 x4 y0 0 S
      )
      )
    else none
  )
set_option maxRecDepth 100000 in
theorem kj_X12_isPaired_30 {X : Cx} {E : Ev} {t : (Int32 × St)} {a0 : Nat} {rc5 : Int32 → Int32 → Int32 → Int32 → St → Option (Int32 × St)} (hQ : EndR mX12_isPaired X (PoI E t)) (hE : WE E) (fu : Nat) (ha0 : E.1 a0 = some (0, 10, 0)) (hrc5 : ∀ (x1 : Int32) (x2 : Int32) (x3 : Int32) (x4 : Int32) (S : St), K mX12_isPaired X E 5 [(0, .ref a0), (1, .int x1), (2, .int x2), (3, .int x3), (4, .int x4)] [] S 0 0 (rc5 x1 x2 x3 x4 S) t) (x1 : Int32) (x2 : Int32) (x3 : Int32) (x4 : Int32) (y0 : Int32) (S : St) : K mX12_isPaired X E 30 [(0, .ref a0), (1, .int x1), (2, .int x2), (3, .int x3), (4, .int x4)] [.int y0] S 0 0 (jb_X12_isPaired_30 fu E a0 rc5 x1 x2 x3 x4 y0 S) t := by
  unfold jb_X12_isPaired_30
  refine K_istore (ls' := [(0, _), (1, _), (2, _), (3, _), (4, _), (5, _)]) dX12_isPaired_30 (by decide) rfl ?_
  refine K_iload dX12_isPaired_32 rfl ?_
  refine K_iconst (v := 1) dX12_isPaired_34 (by decide) ?_
  refine K_iadd dX12_isPaired_35 ?_
  refine K_iload_n dX12_isPaired_36 rfl rfl ?_
  refine K_icmp_ge (tgt := 60) dX12_isPaired_37 (by decide) (fun c16 => ?_) (fun c16 => ?_)
  · refine K_iconst (v := 0) dX12_isPaired_60 (by decide) ?_
    refine K.keep [0, 1, 2, 3, 4, 5] ?_
    exact kj_X12_isPaired_61 hQ hE fu ha0 hrc5 x1 x2 x3 x4 y0 0 S
  · refine K_aload_n dX12_isPaired_40 rfl rfl ?_
    refine K_getC hE dX12_isPaired_41 f_X12_75_10 ha0 rfl rfl (fun h13 => ?_)
    refine K_iload_n dX12_isPaired_44 rfl rfl ?_
    refine K_iload dX12_isPaired_45 rfl ?_
    refine K_iadd dX12_isPaired_47 ?_
    refine K_iconst (v := 1) dX12_isPaired_48 (by decide) ?_
    refine K_iadd dX12_isPaired_49 ?_
    refine K_chk (fun h14 => ?_)
    refine K_iald dX12_isPaired_50 h13 h14 ?_
    refine K_bipush (v := (-3)) dX12_isPaired_51 (by decide) ?_
    refine K_icmp_ne (tgt := 60) dX12_isPaired_53 (by decide) (fun c15 => ?_) (fun c15 => ?_)
    · refine K_iconst (v := 0) dX12_isPaired_60 (by decide) ?_
      refine K.keep [0, 1, 2, 3, 4, 5] ?_
      exact kj_X12_isPaired_61 hQ hE fu ha0 hrc5 x1 x2 x3 x4 y0 0 S
    · refine K_iconst (v := 1) dX12_isPaired_56 (by decide) ?_
      refine K_goto (tgt := 61) dX12_isPaired_57 (by decide) ?_
      refine K.keep [0, 1, 2, 3, 4, 5] ?_
      exact kj_X12_isPaired_61 hQ hE fu ha0 hrc5 x1 x2 x3 x4 y0 1 S
def bd_X12_isPaired_5 (fu : Nat) (E : Ev) (a0 : Nat) (rc5 : Int32 → Int32 → Int32 → Int32 → St → Option (Int32 × St)) (x1 : Int32) (x2 : Int32) (x3 : Int32) (x4 : Int32) (S : St) : Option (Int32 × St) :=
  if x2 ≤ x4 then (
    if isB x3 = true then some (x3, S) else none
  ) else (
    if inb (x1 + x4) 24 = true then
      (
      if (S.2.1 (E.2 a0 34) (x1 + x4).toNatClampNeg) = 8 then (
        jb_X12_isPaired_30 fu E a0 rc5 x1 x2 x3 x4 1 S
      ) else (
        jb_X12_isPaired_30 fu E a0 rc5 x1 x2 x3 x4 0 S
      )
      )
    else none
  )
def lp_X12_isPaired_5 (fu : Nat) (E : Ev) (a0 : Nat) : Nat → Int32 → Int32 → Int32 → Int32 → St → Option (Int32 × St)
  | 0, _, _, _, _, _ => none
  | f + 1, x1, x2, x3, x4, S => bd_X12_isPaired_5 fu E a0 (lp_X12_isPaired_5 fu E a0 f) x1 x2 x3 x4 S
set_option maxRecDepth 100000 in
theorem kl_X12_isPaired_5 {X : Cx} {E : Ev} {t : (Int32 × St)} {a0 : Nat} (hQ : EndR mX12_isPaired X (PoI E t)) (hE : WE E) (fu : Nat) (ha0 : E.1 a0 = some (0, 10, 0)) : ∀ (f : Nat) (x1 : Int32) (x2 : Int32) (x3 : Int32) (x4 : Int32) (S : St), K mX12_isPaired X E 5 [(0, .ref a0), (1, .int x1), (2, .int x2), (3, .int x3), (4, .int x4)] [] S 0 0 (lp_X12_isPaired_5 fu E a0 f x1 x2 x3 x4 S) t := by
  intro f
  induction f with
  | zero => intro x1 x2 x3 x4 S; exact K_none
  | succ f hrc5 =>
    intro x1 x2 x3 x4 S
    show K _ _ _ _ _ _ _ _ _ (bd_X12_isPaired_5 fu E a0 (lp_X12_isPaired_5 fu E a0 f) x1 x2 x3 x4 S) t
    unfold bd_X12_isPaired_5
    refine K_iload dX12_isPaired_5 rfl ?_
    refine K_iload_n dX12_isPaired_7 rfl rfl ?_
    refine K_icmp_ge (tgt := 100) dX12_isPaired_8 (by decide) (fun c18 => ?_) (fun c18 => ?_)
    · refine K_iload_n dX12_isPaired_100 rfl rfl ?_
      refine K_chk (fun h1 => ?_)
      exact K_zret dX12_isPaired_101 hQ rfl h1 (Nat.le_of_ble_eq_true rfl) (Nat.le_of_ble_eq_true rfl)
    · refine K_aload_n dX12_isPaired_11 rfl rfl ?_
      refine K_getC hE dX12_isPaired_12 f_X12_75_10 ha0 rfl rfl (fun h2 => ?_)
      refine K_iload_n dX12_isPaired_15 rfl rfl ?_
      refine K_iload dX12_isPaired_16 rfl ?_
      refine K_iadd dX12_isPaired_18 ?_
      refine K_chk (fun h3 => ?_)
      refine K_iald dX12_isPaired_19 h2 h3 ?_
      refine K_bipush (v := 8) dX12_isPaired_20 (by decide) ?_
      refine K_icmp_ne (tgt := 29) dX12_isPaired_22 (by decide) (fun c17 => ?_) (fun c17 => ?_)
      · refine K_iconst (v := 0) dX12_isPaired_29 (by decide) ?_
        refine K.keep [0, 1, 2, 3, 4] ?_
        exact kj_X12_isPaired_30 hQ hE fu ha0 hrc5 x1 x2 x3 x4 0 S
      · refine K_iconst (v := 1) dX12_isPaired_25 (by decide) ?_
        refine K_goto (tgt := 30) dX12_isPaired_26 (by decide) ?_
        refine K.keep [0, 1, 2, 3, 4] ?_
        exact kj_X12_isPaired_30 hQ hE fu ha0 hrc5 x1 x2 x3 x4 1 S
def sp_X12_isPaired (fu : Nat) (E : Ev) (S : St) (a0 : Nat) (x1 : Int32) (x2 : Int32) : Option (Int32 × St) :=
  lp_X12_isPaired_5 fu E a0 fu x1 x2 1 0 S
set_option maxRecDepth 100000 in
theorem k_X12_isPaired {l : Launch} (fu : Nat) {E : Ev} (hE : WE E) {a0 : Nat} (ha0 : E.1 a0 = some (0, 10, 0)) {x1 : Int32} {x2 : Int32} {S : St} {t : (Int32 × St)} (h : sp_X12_isPaired fu E S a0 x1 x2 = some t) : Cn l mX12_isPaired [.ref a0, .int x1, .int x2] (hp E S) (PoI E t) := by
  refine Cn.of (by decide) rfl (Nat.le_of_ble_eq_true rfl) (fun X _ _ hQ => ?_)
  refine (?_ : K mX12_isPaired X E 0 [(0, .ref a0), (1, .int x1), (2, .int x2)] [] S 0 0 (sp_X12_isPaired fu E S a0 x1 x2) t) h
  unfold sp_X12_isPaired
  refine K_iconst (v := 1) dX12_isPaired_0 (by decide) ?_
  refine K_istore_n (ls' := [(0, _), (1, _), (2, _), (3, _)]) dX12_isPaired_1 rfl (by decide) rfl ?_
  refine K_iconst (v := 0) dX12_isPaired_2 (by decide) ?_
  refine K_istore (ls' := [(0, _), (1, _), (2, _), (3, _), (4, _)]) dX12_isPaired_3 (by decide) rfl ?_
  refine K.keep [0, 1, 2, 3, 4] ?_
  exact kl_X12_isPaired_5 hQ hE fu ha0 fu x1 x2 1 0 S
def jb_X12_declareFrame_204 (fu : Nat) (E : Ev) (a0 b0 : Nat) (x1 : Int32) (y1 : Int32) (y2 : Int32) (S : St) : Option (Int32 × St) :=
  if inb y1 2600 = true then (
    bnd (sG S b0 (y1.toNatClampNeg) y2) fun S17 =>
    if inb x1 100 = true then (
      bnd (sG S17 (E.2 a0 30) (x1.toNatClampNeg) 1) fun S20 =>
      (sp_X12_declaredCount fu E S20 a0).bind fun u21 =>
      some (u21.1, u21.2)
    ) else none
  ) else none
set_option maxRecDepth 100000 in
theorem kj_X12_declareFrame_204 {X : Cx} {E : Ev} {t : (Int32 × St)} {a0 b0 : Nat} (hQ : EndR mX12_declareFrame X (PoI E t)) (hE : WE E) (fu : Nat) (ha0 : E.1 a0 = some (0, 10, 0)) (hb0 : E.1 b0 = some (1, 0, 2600)) (x1 : Int32) (y1 : Int32) (y2 : Int32) (S : St) : K mX12_declareFrame X E 204 [(0, .ref a0), (1, .int x1)] [.int y2, .int y1, .ref b0] S 0 0 (jb_X12_declareFrame_204 fu E a0 b0 x1 y1 y2 S) t := by
  unfold jb_X12_declareFrame_204
  refine K_chk (fun h16 => ?_)
  refine K_iast dX12_declareFrame_204 hb0 h16 ?_
  refine K_nmS (fun S17 => ?_)
  refine K_aload_n dX12_declareFrame_205 rfl rfl ?_
  refine K_getC hE dX12_declareFrame_206 f_X12_69_10 ha0 rfl rfl (fun h18 => ?_)
  refine K_iload_n dX12_declareFrame_209 rfl rfl ?_
  refine K_iconst (v := 1) dX12_declareFrame_210 (by decide) ?_
  refine K_chk (fun h19 => ?_)
  refine K_zast dX12_declareFrame_211 h18 h19 rfl ?_
  refine K_nmS (fun S20 => ?_)
  refine K_aload_n dX12_declareFrame_212 rfl rfl ?_
  refine K_bind (fun u21 hu21 => ?_)
  refine K_callVI (As := []) (k_X12_declaredCount fu hE ha0 hu21) dX12_declareFrame_213 v_X12_189 ha0 rfl rfl rfl rfl (Nat.le_of_ble_eq_true rfl) ⟨Nat.le_of_ble_eq_true rfl, Nat.le_of_ble_eq_true rfl, Nat.le_of_ble_eq_true rfl, Nat.le_of_ble_eq_true rfl⟩ ?_
  exact K_iret dX12_declareFrame_216 hQ rfl (Nat.le_of_ble_eq_true rfl) (Nat.le_of_ble_eq_true rfl)
def jb_X12_declareFrame_126 (fu : Nat) (E : Ev) (a0 b0 : Nat) (rc90 : Int32 → Int32 → Int32 → Int32 → Int32 → St → Option (Int32 × St)) (x1 : Int32) (x2 : Int32) (x3 : Int32) (x4 : Int32) (x5 : Int32) (y1 : Int32) (y2 : Int32) (S : St) : Option (Int32 × St) :=
  if inb y1 2600 = true then (
    bnd (sG S b0 (y1.toNatClampNeg) y2) fun S25 =>
    if x4 ≤ x5 then (
      if inb (((26 * x1) + 12) + x5) 2600 = true then (
        bnd (sG S25 (E.2 a0 31) ((((26 * x1) + 12) + x5).toNatClampNeg) (-2)) fun S28 =>
        rc90 x1 x2 x3 x4 (x5 + 1) S28
      ) else none
    ) else (
      if inb (12 + x5) 24 = true then
        (
        if inb (((26 * x1) + 12) + x5) 2600 = true then (
          bnd (sG S25 (E.2 a0 31) ((((26 * x1) + 12) + x5).toNatClampNeg) (S25.2.1 (E.2 a0 34) (12 + x5).toNatClampNeg)) fun S32 =>
          rc90 x1 x2 x3 x4 (x5 + 1) S32
        ) else none
        )
      else none
    )
  ) else none
set_option maxRecDepth 100000 in
theorem kj_X12_declareFrame_126 {X : Cx} {E : Ev} {t : (Int32 × St)} {a0 b0 : Nat} {rc90 : Int32 → Int32 → Int32 → Int32 → Int32 → St → Option (Int32 × St)} (hQ : EndR mX12_declareFrame X (PoI E t)) (hE : WE E) (fu : Nat) (ha0 : E.1 a0 = some (0, 10, 0)) (hb0 : E.1 b0 = some (1, 0, 2600)) (hrc90 : ∀ (x1 : Int32) (x2 : Int32) (x3 : Int32) (x4 : Int32) (x5 : Int32) (S : St), K mX12_declareFrame X E 90 [(0, .ref a0), (1, .int x1), (2, .int x2), (3, .int x3), (4, .int x4), (5, .int x5)] [] S 0 0 (rc90 x1 x2 x3 x4 x5 S) t) (x1 : Int32) (x2 : Int32) (x3 : Int32) (x4 : Int32) (x5 : Int32) (y1 : Int32) (y2 : Int32) (S : St) : K mX12_declareFrame X E 126 [(0, .ref a0), (1, .int x1), (2, .int x2), (3, .int x3), (4, .int x4), (5, .int x5)] [.int y2, .int y1, .ref b0] S 0 0 (jb_X12_declareFrame_126 fu E a0 b0 rc90 x1 x2 x3 x4 x5 y1 y2 S) t := by
  unfold jb_X12_declareFrame_126
  refine K_chk (fun h24 => ?_)
  refine K_iast dX12_declareFrame_126 hb0 h24 ?_
  refine K_nmS (fun S25 => ?_)
  refine K_aload_n dX12_declareFrame_127 rfl rfl ?_
  refine K_getC hE dX12_declareFrame_128 f_X12_72_10 ha0 rfl rfl (fun h26 => ?_)
  refine K_bipush (v := 26) dX12_declareFrame_131 (by decide) ?_
  refine K_iload_n dX12_declareFrame_133 rfl rfl ?_
  refine K_imul dX12_declareFrame_134 ?_
  refine K_bipush (v := 12) dX12_declareFrame_135 (by decide) ?_
  refine K_iadd dX12_declareFrame_137 ?_
  refine K_iload dX12_declareFrame_138 rfl ?_
  refine K_iadd dX12_declareFrame_140 ?_
  refine K_iload dX12_declareFrame_141 rfl ?_
  refine K_iload dX12_declareFrame_143 rfl ?_
  refine K_icmp_ge (tgt := 161) dX12_declareFrame_145 (by decide) (fun c33 => ?_) (fun c33 => ?_)
  · refine K_bipush (v := (-2)) dX12_declareFrame_161 (by decide) ?_
    refine K_chk (fun h27 => ?_)
    refine K_iast dX12_declareFrame_163 h26 h27 ?_
    refine K_nmS (fun S28 => ?_)
    refine K_iinc (v := (x5 + 1)) (ls' := [(0, _), (1, _), (2, _), (3, _), (4, _), (5, _)]) dX12_declareFrame_164 rfl rfl (by decide) rfl ?_
    refine K_goto (tgt := 90) dX12_declareFrame_167 (by decide) ?_
    refine K.keep [0, 1, 2, 3, 4, 5] ?_
    exact hrc90 x1 x2 x3 x4 (x5 + 1) S28
  · refine K_aload_n dX12_declareFrame_148 rfl rfl ?_
    refine K_getC hE dX12_declareFrame_149 f_X12_75_10 ha0 rfl rfl (fun h29 => ?_)
    refine K_bipush (v := 12) dX12_declareFrame_152 (by decide) ?_
    refine K_iload dX12_declareFrame_154 rfl ?_
    refine K_iadd dX12_declareFrame_156 ?_
    refine K_chk (fun h30 => ?_)
    refine K_iald dX12_declareFrame_157 h29 h30 ?_
    refine K_goto (tgt := 163) dX12_declareFrame_158 (by decide) ?_
    refine K_chk (fun h31 => ?_)
    refine K_iast dX12_declareFrame_163 h26 h31 ?_
    refine K_nmS (fun S32 => ?_)
    refine K_iinc (v := (x5 + 1)) (ls' := [(0, _), (1, _), (2, _), (3, _), (4, _), (5, _)]) dX12_declareFrame_164 rfl rfl (by decide) rfl ?_
    refine K_goto (tgt := 90) dX12_declareFrame_167 (by decide) ?_
    refine K.keep [0, 1, 2, 3, 4, 5] ?_
    exact hrc90 x1 x2 x3 x4 (x5 + 1) S32
def bd_X12_declareFrame_90 (fu : Nat) (E : Ev) (a0 : Nat) (rc90 : Int32 → Int32 → Int32 → Int32 → Int32 → St → Option (Int32 × St)) (x1 : Int32) (x2 : Int32) (x3 : Int32) (x4 : Int32) (x5 : Int32) (S : St) : Option (Int32 × St) :=
  if 12 ≤ x5 then (
    if inb ((26 * x1) + 24) 2600 = true then (
      bnd (sG S (E.2 a0 31) (((26 * x1) + 24).toNatClampNeg) x4) fun S14 =>
      if x2 = 0 then (
        jb_X12_declareFrame_204 fu E a0 (E.2 a0 31) x1 ((26 * x1) + 25) 0 S14
      ) else (
        jb_X12_declareFrame_204 fu E a0 (E.2 a0 31) x1 ((26 * x1) + 25) 1 S14
      )
    ) else none
  ) else (
    if x3 ≤ x5 then (
      jb_X12_declareFrame_126 fu E a0 (E.2 a0 31) rc90 x1 x2 x3 x4 x5 ((26 * x1) + x5) (-2) S
    ) else (
      if inb x5 24 = true then
        (
        jb_X12_declareFrame_126 fu E a0 (E.2 a0 31) rc90 x1 x2 x3 x4 x5 ((26 * x1) + x5) (S.2.1 (E.2 a0 34) x5.toNatClampNeg) S
        )
      else none
    )
  )
def lp_X12_declareFrame_90 (fu : Nat) (E : Ev) (a0 : Nat) : Nat → Int32 → Int32 → Int32 → Int32 → Int32 → St → Option (Int32 × St)
  | 0, _, _, _, _, _, _ => none
  | f + 1, x1, x2, x3, x4, x5, S => bd_X12_declareFrame_90 fu E a0 (lp_X12_declareFrame_90 fu E a0 f) x1 x2 x3 x4 x5 S
set_option maxRecDepth 100000 in
theorem kl_X12_declareFrame_90 {X : Cx} {E : Ev} {t : (Int32 × St)} {a0 : Nat} (hQ : EndR mX12_declareFrame X (PoI E t)) (hE : WE E) (fu : Nat) (ha0 : E.1 a0 = some (0, 10, 0)) : ∀ (f : Nat) (x1 : Int32) (x2 : Int32) (x3 : Int32) (x4 : Int32) (x5 : Int32) (S : St), K mX12_declareFrame X E 90 [(0, .ref a0), (1, .int x1), (2, .int x2), (3, .int x3), (4, .int x4), (5, .int x5)] [] S 0 0 (lp_X12_declareFrame_90 fu E a0 f x1 x2 x3 x4 x5 S) t := by
  intro f
  induction f with
  | zero => intro x1 x2 x3 x4 x5 S; exact K_none
  | succ f hrc90 =>
    intro x1 x2 x3 x4 x5 S
    show K _ _ _ _ _ _ _ _ _ (bd_X12_declareFrame_90 fu E a0 (lp_X12_declareFrame_90 fu E a0 f) x1 x2 x3 x4 x5 S) t
    unfold bd_X12_declareFrame_90
    refine K_iload dX12_declareFrame_90 rfl ?_
    refine K_bipush (v := 12) dX12_declareFrame_92 (by decide) ?_
    refine K_icmp_ge (tgt := 170) dX12_declareFrame_94 (by decide) (fun c37 => ?_) (fun c37 => ?_)
    · refine K_aload_n dX12_declareFrame_170 rfl rfl ?_
      refine K_getC hE dX12_declareFrame_171 f_X12_72_10 ha0 rfl rfl (fun h12 => ?_)
      refine K_bipush (v := 26) dX12_declareFrame_174 (by decide) ?_
      refine K_iload_n dX12_declareFrame_176 rfl rfl ?_
      refine K_imul dX12_declareFrame_177 ?_
      refine K_bipush (v := 24) dX12_declareFrame_178 (by decide) ?_
      refine K_iadd dX12_declareFrame_180 ?_
      refine K_iload dX12_declareFrame_181 rfl ?_
      refine K_chk (fun h13 => ?_)
      refine K_iast dX12_declareFrame_183 h12 h13 ?_
      refine K_nmS (fun S14 => ?_)
      refine K_aload_n dX12_declareFrame_184 rfl rfl ?_
      refine K_getC hE dX12_declareFrame_185 f_X12_72_10 ha0 rfl rfl (fun h15 => ?_)
      refine K_bipush (v := 26) dX12_declareFrame_188 (by decide) ?_
      refine K_iload_n dX12_declareFrame_190 rfl rfl ?_
      refine K_imul dX12_declareFrame_191 ?_
      refine K_bipush (v := 25) dX12_declareFrame_192 (by decide) ?_
      refine K_iadd dX12_declareFrame_194 ?_
      refine K_iload_n dX12_declareFrame_195 rfl rfl ?_
      refine K_if_eq (tgt := 203) dX12_declareFrame_196 (by decide) (fun c22 => ?_) (fun c22 => ?_)
      · refine K_iconst (v := 0) dX12_declareFrame_203 (by decide) ?_
        refine K.keep [0, 1] ?_
        exact kj_X12_declareFrame_204 hQ hE fu ha0 h15 x1 ((26 * x1) + 25) 0 S14
      · refine K_iconst (v := 1) dX12_declareFrame_199 (by decide) ?_
        refine K_goto (tgt := 204) dX12_declareFrame_200 (by decide) ?_
        refine K.keep [0, 1] ?_
        exact kj_X12_declareFrame_204 hQ hE fu ha0 h15 x1 ((26 * x1) + 25) 1 S14
    · refine K_aload_n dX12_declareFrame_97 rfl rfl ?_
      refine K_getC hE dX12_declareFrame_98 f_X12_72_10 ha0 rfl rfl (fun h23 => ?_)
      refine K_bipush (v := 26) dX12_declareFrame_101 (by decide) ?_
      refine K_iload_n dX12_declareFrame_103 rfl rfl ?_
      refine K_imul dX12_declareFrame_104 ?_
      refine K_iload dX12_declareFrame_105 rfl ?_
      refine K_iadd dX12_declareFrame_107 ?_
      refine K_iload dX12_declareFrame_108 rfl ?_
      refine K_iload_n dX12_declareFrame_110 rfl rfl ?_
      refine K_icmp_ge (tgt := 124) dX12_declareFrame_111 (by decide) (fun c36 => ?_) (fun c36 => ?_)
      · refine K_bipush (v := (-2)) dX12_declareFrame_124 (by decide) ?_
        refine K.keep [0, 1, 2, 3, 4, 5] ?_
        exact kj_X12_declareFrame_126 hQ hE fu ha0 h23 hrc90 x1 x2 x3 x4 x5 ((26 * x1) + x5) (-2) S
      · refine K_aload_n dX12_declareFrame_114 rfl rfl ?_
        refine K_getC hE dX12_declareFrame_115 f_X12_75_10 ha0 rfl rfl (fun h34 => ?_)
        refine K_iload dX12_declareFrame_118 rfl ?_
        refine K_chk (fun h35 => ?_)
        refine K_iald dX12_declareFrame_120 h34 h35 ?_
        refine K_goto (tgt := 126) dX12_declareFrame_121 (by decide) ?_
        refine K.keep [0, 1, 2, 3, 4, 5] ?_
        exact kj_X12_declareFrame_126 hQ hE fu ha0 h23 hrc90 x1 x2 x3 x4 x5 ((26 * x1) + x5) (S.2.1 (E.2 a0 34) x5.toNatClampNeg) S
def sp_X12_declareFrame (fu : Nat) (E : Ev) (S : St) (a0 : Nat) (x1 : Int32) (x2 : Int32) : Option (Int32 × St) :=
  bnd (sF S a0 0 0) fun S1 =>
  bnd (S1.1 a0 32) fun v2 =>
  bnd (S1.1 a0 33) fun v3 =>
  bnd (sF S1 a0 32 0) fun S4 =>
  bnd (sF S4 a0 33 0) fun S5 =>
  if x1 < 0 then (
    (sp_X12_no fu E S5 a0 1).bind fun u6 =>
    some (u6.1, u6.2)
  ) else (
    if x1 < (S5.1 a0 19) then (
      if (S5.1 a0 18) < v2 then (
        (sp_X12_no fu E S5 a0 2).bind fun u7 =>
        some (u7.1, u7.2)
      ) else (
        if (S5.1 a0 17) < v3 then (
          (sp_X12_no fu E S5 a0 2).bind fun u8 =>
          some (u8.1, u8.2)
        ) else (
          (sp_X12_isPaired fu E S5 a0 0 v2).bind fun u9 =>
          if u9.1 = 0 then (
            (sp_X12_no fu E u9.2 a0 2).bind fun u10 =>
            some (u10.1, u10.2)
          ) else (
            (sp_X12_isPaired fu E u9.2 a0 12 v3).bind fun u11 =>
            if u11.1 = 0 then (
              (sp_X12_no fu E u11.2 a0 2).bind fun u38 =>
              some (u38.1, u38.2)
            ) else (
              lp_X12_declareFrame_90 fu E a0 fu x1 x2 v2 v3 0 u11.2
            )
          )
        )
      )
    ) else (
      (sp_X12_no fu E S5 a0 1).bind fun u43 =>
      some (u43.1, u43.2)
    )
  )
set_option maxRecDepth 100000 in
theorem k_X12_declareFrame {l : Launch} (fu : Nat) {E : Ev} (hE : WE E) {a0 : Nat} (ha0 : E.1 a0 = some (0, 10, 0)) {x1 : Int32} {x2 : Int32} {S : St} {t : (Int32 × St)} (h : sp_X12_declareFrame fu E S a0 x1 x2 = some t) : Cn l mX12_declareFrame [.ref a0, .int x1, .int x2] (hp E S) (PoI E t) := by
  refine Cn.of (by decide) rfl (Nat.le_of_ble_eq_true rfl) (fun X _ _ hQ => ?_)
  refine (?_ : K mX12_declareFrame X E 0 [(0, .ref a0), (1, .int x1), (2, .int x2)] [] S 0 0 (sp_X12_declareFrame fu E S a0 x1 x2) t) h
  unfold sp_X12_declareFrame
  refine K_aload_n dX12_declareFrame_0 rfl rfl ?_
  refine K_iconst (v := 0) dX12_declareFrame_1 (by decide) ?_
  refine K_putI dX12_declareFrame_2 p_X12_90_10 ha0 rfl ?_
  refine K_nmS (fun S1 => ?_)
  refine K_aload_n dX12_declareFrame_5 rfl rfl ?_
  refine K_getI dX12_declareFrame_6 f_X12_180_10 ha0 rfl ?_
  refine K_nmI (fun v2 => ?_)
  refine K_istore_n (ls' := [(0, _), (1, _), (2, _), (3, _)]) dX12_declareFrame_9 rfl (by decide) rfl ?_
  refine K_aload_n dX12_declareFrame_10 rfl rfl ?_
  refine K_getI dX12_declareFrame_11 f_X12_183_10 ha0 rfl ?_
  refine K_nmI (fun v3 => ?_)
  refine K_istore (ls' := [(0, _), (1, _), (2, _), (3, _), (4, _)]) dX12_declareFrame_14 (by decide) rfl ?_
  refine K_aload_n dX12_declareFrame_16 rfl rfl ?_
  refine K_iconst (v := 0) dX12_declareFrame_17 (by decide) ?_
  refine K_putI dX12_declareFrame_18 p_X12_180_10 ha0 rfl ?_
  refine K_nmS (fun S4 => ?_)
  refine K_aload_n dX12_declareFrame_21 rfl rfl ?_
  refine K_iconst (v := 0) dX12_declareFrame_22 (by decide) ?_
  refine K_putI dX12_declareFrame_23 p_X12_183_10 ha0 rfl ?_
  refine K_nmS (fun S5 => ?_)
  refine K_iload_n dX12_declareFrame_26 rfl rfl ?_
  refine K_if_lt (tgt := 38) dX12_declareFrame_27 (by decide) (fun c45 => ?_) (fun c45 => ?_)
  · refine K_aload_n dX12_declareFrame_38 rfl rfl ?_
    refine K_iconst (v := 1) dX12_declareFrame_39 (by decide) ?_
    refine K_bind (fun u6 hu6 => ?_)
    refine K_callVI (As := [.int 1]) (k_X12_no fu hE ha0 hu6) dX12_declareFrame_40 v_X12_126 ha0 rfl rfl rfl rfl (Nat.le_of_ble_eq_true rfl) ⟨Nat.le_of_ble_eq_true rfl, Nat.le_of_ble_eq_true rfl, Nat.le_of_ble_eq_true rfl, Nat.le_of_ble_eq_true rfl⟩ ?_
    exact K_iret dX12_declareFrame_43 hQ rfl (Nat.le_of_ble_eq_true rfl) (Nat.le_of_ble_eq_true rfl)
  · refine K_iload_n dX12_declareFrame_30 rfl rfl ?_
    refine K_aload_n dX12_declareFrame_31 rfl rfl ?_
    refine K_getI dX12_declareFrame_32 f_X12_165_10 ha0 rfl ?_
    refine K_icmp_lt (tgt := 44) dX12_declareFrame_35 (by decide) (fun c44 => ?_) (fun c44 => ?_)
    · refine K_iload_n dX12_declareFrame_44 rfl rfl ?_
      refine K_aload_n dX12_declareFrame_45 rfl rfl ?_
      refine K_getI dX12_declareFrame_46 f_X12_162_10 ha0 rfl ?_
      refine K_icmp_gt (tgt := 81) dX12_declareFrame_49 (by decide) (fun c42 => ?_) (fun c42 => ?_)
      · refine K_aload_n dX12_declareFrame_81 rfl rfl ?_
        refine K_iconst (v := 2) dX12_declareFrame_82 (by decide) ?_
        refine K_bind (fun u7 hu7 => ?_)
        refine K_callVI (As := [.int 2]) (k_X12_no fu hE ha0 hu7) dX12_declareFrame_83 v_X12_126 ha0 rfl rfl rfl rfl (Nat.le_of_ble_eq_true rfl) ⟨Nat.le_of_ble_eq_true rfl, Nat.le_of_ble_eq_true rfl, Nat.le_of_ble_eq_true rfl, Nat.le_of_ble_eq_true rfl⟩ ?_
        exact K_iret dX12_declareFrame_86 hQ rfl (Nat.le_of_ble_eq_true rfl) (Nat.le_of_ble_eq_true rfl)
      · refine K_iload dX12_declareFrame_52 rfl ?_
        refine K_aload_n dX12_declareFrame_54 rfl rfl ?_
        refine K_getI dX12_declareFrame_55 f_X12_159_10 ha0 rfl ?_
        refine K_icmp_gt (tgt := 81) dX12_declareFrame_58 (by decide) (fun c41 => ?_) (fun c41 => ?_)
        · refine K_aload_n dX12_declareFrame_81 rfl rfl ?_
          refine K_iconst (v := 2) dX12_declareFrame_82 (by decide) ?_
          refine K_bind (fun u8 hu8 => ?_)
          refine K_callVI (As := [.int 2]) (k_X12_no fu hE ha0 hu8) dX12_declareFrame_83 v_X12_126 ha0 rfl rfl rfl rfl (Nat.le_of_ble_eq_true rfl) ⟨Nat.le_of_ble_eq_true rfl, Nat.le_of_ble_eq_true rfl, Nat.le_of_ble_eq_true rfl, Nat.le_of_ble_eq_true rfl⟩ ?_
          exact K_iret dX12_declareFrame_86 hQ rfl (Nat.le_of_ble_eq_true rfl) (Nat.le_of_ble_eq_true rfl)
        · refine K_aload_n dX12_declareFrame_61 rfl rfl ?_
          refine K_iconst (v := 0) dX12_declareFrame_62 (by decide) ?_
          refine K_iload_n dX12_declareFrame_63 rfl rfl ?_
          refine K_bind (fun u9 hu9 => ?_)
          refine K_callVI (As := [.int 0, .int v2]) (k_X12_isPaired fu hE ha0 hu9) dX12_declareFrame_64 v_X12_186 ha0 rfl rfl rfl rfl (Nat.le_of_ble_eq_true rfl) ⟨Nat.le_of_ble_eq_true rfl, Nat.le_of_ble_eq_true rfl, Nat.le_of_ble_eq_true rfl, Nat.le_of_ble_eq_true rfl⟩ ?_
          refine K_if_eq (tgt := 81) dX12_declareFrame_67 (by decide) (fun c40 => ?_) (fun c40 => ?_)
          · refine K_aload_n dX12_declareFrame_81 rfl rfl ?_
            refine K_iconst (v := 2) dX12_declareFrame_82 (by decide) ?_
            refine K_bind (fun u10 hu10 => ?_)
            refine K_callVI (As := [.int 2]) (k_X12_no fu hE ha0 hu10) dX12_declareFrame_83 v_X12_126 ha0 rfl rfl rfl rfl (Nat.le_of_ble_eq_true rfl) ⟨Nat.le_of_ble_eq_true rfl, Nat.le_of_ble_eq_true rfl, Nat.le_of_ble_eq_true rfl, Nat.le_of_ble_eq_true rfl⟩ ?_
            exact K_iret dX12_declareFrame_86 hQ rfl (Nat.le_of_ble_eq_true rfl) (Nat.le_of_ble_eq_true rfl)
          · refine K_aload_n dX12_declareFrame_70 rfl rfl ?_
            refine K_bipush (v := 12) dX12_declareFrame_71 (by decide) ?_
            refine K_iload dX12_declareFrame_73 rfl ?_
            refine K_bind (fun u11 hu11 => ?_)
            refine K_callVI (As := [.int 12, .int v3]) (k_X12_isPaired fu hE ha0 hu11) dX12_declareFrame_75 v_X12_186 ha0 rfl rfl rfl rfl (Nat.le_of_ble_eq_true rfl) ⟨Nat.le_of_ble_eq_true rfl, Nat.le_of_ble_eq_true rfl, Nat.le_of_ble_eq_true rfl, Nat.le_of_ble_eq_true rfl⟩ ?_
            refine K_if_ne (tgt := 87) dX12_declareFrame_78 (by decide) (fun c39 => ?_) (fun c39 => ?_)
            · refine K_iconst (v := 0) dX12_declareFrame_87 (by decide) ?_
              refine K_istore (ls' := [(0, _), (1, _), (2, _), (3, _), (4, _), (5, _)]) dX12_declareFrame_88 (by decide) rfl ?_
              refine K.keep [0, 1, 2, 3, 4, 5] ?_
              exact kl_X12_declareFrame_90 hQ hE fu ha0 fu x1 x2 v2 v3 0 u11.2
            · refine K_aload_n dX12_declareFrame_81 rfl rfl ?_
              refine K_iconst (v := 2) dX12_declareFrame_82 (by decide) ?_
              refine K_bind (fun u38 hu38 => ?_)
              refine K_callVI (As := [.int 2]) (k_X12_no fu hE ha0 hu38) dX12_declareFrame_83 v_X12_126 ha0 rfl rfl rfl rfl (Nat.le_of_ble_eq_true rfl) ⟨Nat.le_of_ble_eq_true rfl, Nat.le_of_ble_eq_true rfl, Nat.le_of_ble_eq_true rfl, Nat.le_of_ble_eq_true rfl⟩ ?_
              exact K_iret dX12_declareFrame_86 hQ rfl (Nat.le_of_ble_eq_true rfl) (Nat.le_of_ble_eq_true rfl)
    · refine K_aload_n dX12_declareFrame_38 rfl rfl ?_
      refine K_iconst (v := 1) dX12_declareFrame_39 (by decide) ?_
      refine K_bind (fun u43 hu43 => ?_)
      refine K_callVI (As := [.int 1]) (k_X12_no fu hE ha0 hu43) dX12_declareFrame_40 v_X12_126 ha0 rfl rfl rfl rfl (Nat.le_of_ble_eq_true rfl) ⟨Nat.le_of_ble_eq_true rfl, Nat.le_of_ble_eq_true rfl, Nat.le_of_ble_eq_true rfl, Nat.le_of_ble_eq_true rfl⟩ ?_
      exact K_iret dX12_declareFrame_43 hQ rfl (Nat.le_of_ble_eq_true rfl) (Nat.le_of_ble_eq_true rfl)
