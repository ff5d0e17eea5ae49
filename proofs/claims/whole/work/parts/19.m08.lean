def bd_X12_adopt_9 (fu : Nat) (E : Ev) (a0 : Nat) (rc9 : Int32 → Int32 → St → Option St) (x1 : Int32) (x2 : Int32) (S : St) : Option St :=
  if 26 ≤ x2 then (
    some S
  ) else (
    if inb ((26 * x1) + x2) 2600 = true then
      (
      if inb ((26 * x1) + x2) 2600 = true then (
        bnd (sG S (E.2 a0 31) (((26 * x1) + x2).toNatClampNeg) (S.2.1 (E.2 a0 29) ((26 * x1) + x2).toNatClampNeg)) fun S8 =>
        rc9 x1 (x2 + 1) S8
      ) else none
      )
    else none
  )
def lp_X12_adopt_9 (fu : Nat) (E : Ev) (a0 : Nat) : Nat → Int32 → Int32 → St → Option St
  | 0, _, _, _ => none
  | f + 1, x1, x2, S => bd_X12_adopt_9 fu E a0 (lp_X12_adopt_9 fu E a0 f) x1 x2 S
set_option maxRecDepth 100000 in
theorem kl_X12_adopt_9 {X : Cx} {E : Ev} {t : St} {a0 : Nat} (hQ : EndR mX12_adopt X (PoV E t)) (hE : WE E) (fu : Nat) (ha0 : E.1 a0 = some (0, 10, 0)) : ∀ (f : Nat) (x1 : Int32) (x2 : Int32) (S : St), K mX12_adopt X E 9 [(0, .ref a0), (1, .int x1), (2, .int x2)] [] S 0 0 (lp_X12_adopt_9 fu E a0 f x1 x2 S) t := by
  intro f
  induction f with
  | zero => intro x1 x2 S; exact K_none
  | succ f hrc9 =>
    intro x1 x2 S
    show K _ _ _ _ _ _ _ _ _ (bd_X12_adopt_9 fu E a0 (lp_X12_adopt_9 fu E a0 f) x1 x2 S) t
    unfold bd_X12_adopt_9
    refine K_iload_n dX12_adopt_9 rfl rfl ?_
    refine K_bipush (v := 26) dX12_adopt_10 (by decide) ?_
    refine K_icmp_ge (tgt := 43) dX12_adopt_12 (by decide) (fun c9 => ?_) (fun c9 => ?_)
    · exact K_vret dX12_adopt_43 hQ rfl (Nat.le_of_ble_eq_true rfl) (Nat.le_of_ble_eq_true rfl)
    · refine K_aload_n dX12_adopt_15 rfl rfl ?_
      refine K_getC hE dX12_adopt_16 f_X12_72_10 ha0 rfl rfl (fun h4 => ?_)
      refine K_bipush (v := 26) dX12_adopt_19 (by decide) ?_
      refine K_iload_n dX12_adopt_21 rfl rfl ?_
      refine K_imul dX12_adopt_22 ?_
      refine K_iload_n dX12_adopt_23 rfl rfl ?_
      refine K_iadd dX12_adopt_24 ?_
      refine K_aload_n dX12_adopt_25 rfl rfl ?_
      refine K_getC hE dX12_adopt_26 f_X12_66_10 ha0 rfl rfl (fun h5 => ?_)
      refine K_bipush (v := 26) dX12_adopt_29 (by decide) ?_
      refine K_iload_n dX12_adopt_31 rfl rfl ?_
      refine K_imul dX12_adopt_32 ?_
      refine K_iload_n dX12_adopt_33 rfl rfl ?_
      refine K_iadd dX12_adopt_34 ?_
      refine K_chk (fun h6 => ?_)
      refine K_iald dX12_adopt_35 h5 h6 ?_
      refine K_chk (fun h7 => ?_)
      refine K_iast dX12_adopt_36 h4 h7 ?_
      refine K_nmS (fun S8 => ?_)
      refine K_iinc (v := (x2 + 1)) (ls' := [(0, _), (1, _), (2, _)]) dX12_adopt_37 rfl rfl (by decide) rfl ?_
      refine K_goto (tgt := 9) dX12_adopt_40 (by decide) ?_
      refine K.keep [0, 1, 2] ?_
      exact hrc9 x1 (x2 + 1) S8
def sp_X12_adopt (fu : Nat) (E : Ev) (S : St) (a0 : Nat) (x1 : Int32) : Option St :=
  if inb x1 100 = true then (
    bnd (sG S (E.2 a0 30) (x1.toNatClampNeg) 1) fun S3 =>
    lp_X12_adopt_9 fu E a0 fu x1 0 S3
  ) else none
set_option maxRecDepth 100000 in
theorem k_X12_adopt {l : Launch} (fu : Nat) {E : Ev} (hE : WE E) {a0 : Nat} (ha0 : E.1 a0 = some (0, 10, 0)) {x1 : Int32} {S : St} {t : St} (h : sp_X12_adopt fu E S a0 x1 = some t) : Cn l mX12_adopt [.ref a0, .int x1] (hp E S) (PoV E t) := by
  refine Cn.of (by decide) rfl (Nat.le_of_ble_eq_true rfl) (fun X _ _ hQ => ?_)
  refine (?_ : K mX12_adopt X E 0 [(0, .ref a0), (1, .int x1)] [] S 0 0 (sp_X12_adopt fu E S a0 x1) t) h
  unfold sp_X12_adopt
  refine K_aload_n dX12_adopt_0 rfl rfl ?_
  refine K_getC hE dX12_adopt_1 f_X12_69_10 ha0 rfl rfl (fun h1 => ?_)
  refine K_iload_n dX12_adopt_4 rfl rfl ?_
  refine K_iconst (v := 1) dX12_adopt_5 (by decide) ?_
  refine K_chk (fun h2 => ?_)
  refine K_zast dX12_adopt_6 h1 h2 rfl ?_
  refine K_nmS (fun S3 => ?_)
  refine K_iconst (v := 0) dX12_adopt_7 (by decide) ?_
  refine K_istore_n (ls' := [(0, _), (1, _), (2, _)]) dX12_adopt_8 rfl (by decide) rfl ?_
  refine K.keep [0, 1, 2] ?_
  exact kl_X12_adopt_9 hQ hE fu ha0 fu x1 0 S3
def sp_X12_goesOn (fu : Nat) (E : Ev) (S : St) (x0 : Int32) : Option (Int32 × St) :=
  if x0 = 22 then (
    some (0, S)
  ) else (
    if x0 < 27 then (
      some (1, S)
    ) else (
      if x0 ≤ 31 then (
        some (0, S)
      ) else (
        some (1, S)
      )
    )
  )
set_option maxRecDepth 100000 in
theorem k_X12_goesOn {l : Launch} (fu : Nat) {E : Ev} (hE : WE E) {x0 : Int32} {S : St} {t : (Int32 × St)} (h : sp_X12_goesOn fu E S x0 = some t) : Cn l mX12_goesOn [.int x0] (hp E S) (PoI E t) := by
  refine Cn.of (by decide) rfl (Nat.le_of_ble_eq_true rfl) (fun X _ _ hQ => ?_)
  refine (?_ : K mX12_goesOn X E 0 [(0, .int x0)] [] S 0 0 (sp_X12_goesOn fu E S x0) t) h
  unfold sp_X12_goesOn
  refine K_iload_n dX12_goesOn_0 rfl rfl ?_
  refine K_bipush (v := 22) dX12_goesOn_1 (by decide) ?_
  refine K_icmp_eq (tgt := 22) dX12_goesOn_3 (by decide) (fun c3 => ?_) (fun c3 => ?_)
  · refine K_iconst (v := 0) dX12_goesOn_22 (by decide) ?_
    exact K_zret dX12_goesOn_23 hQ rfl rfl (Nat.le_of_ble_eq_true rfl) (Nat.le_of_ble_eq_true rfl)
  · refine K_iload_n dX12_goesOn_6 rfl rfl ?_
    refine K_bipush (v := 27) dX12_goesOn_7 (by decide) ?_
    refine K_icmp_lt (tgt := 18) dX12_goesOn_9 (by decide) (fun c2 => ?_) (fun c2 => ?_)
    · refine K_iconst (v := 1) dX12_goesOn_18 (by decide) ?_
      refine K_goto (tgt := 23) dX12_goesOn_19 (by decide) ?_
      exact K_zret dX12_goesOn_23 hQ rfl rfl (Nat.le_of_ble_eq_true rfl) (Nat.le_of_ble_eq_true rfl)
    · refine K_iload_n dX12_goesOn_12 rfl rfl ?_
      refine K_bipush (v := 31) dX12_goesOn_13 (by decide) ?_
      refine K_icmp_le (tgt := 22) dX12_goesOn_15 (by decide) (fun c1 => ?_) (fun c1 => ?_)
      · refine K_iconst (v := 0) dX12_goesOn_22 (by decide) ?_
        exact K_zret dX12_goesOn_23 hQ rfl rfl (Nat.le_of_ble_eq_true rfl) (Nat.le_of_ble_eq_true rfl)
      · refine K_iconst (v := 1) dX12_goesOn_18 (by decide) ?_
        refine K_goto (tgt := 23) dX12_goesOn_19 (by decide) ?_
        exact K_zret dX12_goesOn_23 hQ rfl rfl (Nat.le_of_ble_eq_true rfl) (Nat.le_of_ble_eq_true rfl)
def sp_X12_isJump (fu : Nat) (E : Ev) (S : St) (x0 : Int32) : Option (Int32 × St) :=
  if x0 < 22 then (
    some (0, S)
  ) else (
    if 26 < x0 then (
      some (0, S)
    ) else (
      some (1, S)
    )
  )
set_option maxRecDepth 100000 in
theorem k_X12_isJump {l : Launch} (fu : Nat) {E : Ev} (hE : WE E) {x0 : Int32} {S : St} {t : (Int32 × St)} (h : sp_X12_isJump fu E S x0 = some t) : Cn l mX12_isJump [.int x0] (hp E S) (PoI E t) := by
  refine Cn.of (by decide) rfl (Nat.le_of_ble_eq_true rfl) (fun X _ _ hQ => ?_)
  refine (?_ : K mX12_isJump X E 0 [(0, .int x0)] [] S 0 0 (sp_X12_isJump fu E S x0) t) h
  unfold sp_X12_isJump
  refine K_iload_n dX12_isJump_0 rfl rfl ?_
  refine K_bipush (v := 22) dX12_isJump_1 (by decide) ?_
  refine K_icmp_lt (tgt := 16) dX12_isJump_3 (by decide) (fun c2 => ?_) (fun c2 => ?_)
  · refine K_iconst (v := 0) dX12_isJump_16 (by decide) ?_
    exact K_zret dX12_isJump_17 hQ rfl rfl (Nat.le_of_ble_eq_true rfl) (Nat.le_of_ble_eq_true rfl)
  · refine K_iload_n dX12_isJump_6 rfl rfl ?_
    refine K_bipush (v := 26) dX12_isJump_7 (by decide) ?_
    refine K_icmp_gt (tgt := 16) dX12_isJump_9 (by decide) (fun c1 => ?_) (fun c1 => ?_)
    · refine K_iconst (v := 0) dX12_isJump_16 (by decide) ?_
      exact K_zret dX12_isJump_17 hQ rfl rfl (Nat.le_of_ble_eq_true rfl) (Nat.le_of_ble_eq_true rfl)
    · refine K_iconst (v := 1) dX12_isJump_12 (by decide) ?_
      refine K_goto (tgt := 17) dX12_isJump_13 (by decide) ?_
      exact K_zret dX12_isJump_17 hQ rfl rfl (Nat.le_of_ble_eq_true rfl) (Nat.le_of_ble_eq_true rfl)
def bd_X12_adoptFrames_114 (fu : Nat) (E : Ev) (a0 : Nat) (rc41 : Int32 → St → Option (Int32 × St)) (rc114 : Int32 → Int32 → St → Option (Int32 × St)) (x1 : Int32) (x2 : Int32) (S : St) : Option (Int32 × St) :=
  if (S.1 a0 22) ≤ x2 then (
    rc41 (x1 + 1) S
  ) else (
    if inb x1 100 = true then
      (
      if (S.2.1 (E.2 a0 28) x1.toNatClampNeg) = 0 then (
        rc114 x1 (x2 + 1) S
      ) else (
        if inb x2 10 = true then
          (
          if x1 < (S.2.1 (E.2 a0 23) x2.toNatClampNeg) then (
            rc114 x1 (x2 + 1) S
          ) else (
            if inb x2 10 = true then
              (
              if (S.2.1 (E.2 a0 24) x2.toNatClampNeg) ≤ x1 then (
                rc114 x1 (x2 + 1) S
              ) else (
                if inb x2 10 = true then
                  (
                  (sp_X12_adopt fu E S a0 (S.2.1 (E.2 a0 25) x2.toNatClampNeg)).bind fun u15 =>
                  rc114 x1 (x2 + 1) u15
                  )
                else none
              )
              )
            else none
          )
          )
        else none
      )
      )
    else none
  )
def lp_X12_adoptFrames_114 (fu : Nat) (E : Ev) (a0 : Nat) (rc41 : Int32 → St → Option (Int32 × St)) : Nat → Int32 → Int32 → St → Option (Int32 × St)
  | 0, _, _, _ => none
  | f + 1, x1, x2, S => bd_X12_adoptFrames_114 fu E a0 rc41 (lp_X12_adoptFrames_114 fu E a0 rc41 f) x1 x2 S
set_option maxRecDepth 100000 in
theorem kl_X12_adoptFrames_114 {X : Cx} {E : Ev} {t : (Int32 × St)} {a0 : Nat} {rc41 : Int32 → St → Option (Int32 × St)} (hQ : EndR mX12_adoptFrames X (PoI E t)) (hE : WE E) (fu : Nat) (ha0 : E.1 a0 = some (0, 10, 0)) (hrc41 : ∀ (x1 : Int32) (S : St), K mX12_adoptFrames X E 41 [(0, .ref a0), (1, .int x1)] [] S 0 0 (rc41 x1 S) t) : ∀ (f : Nat) (x1 : Int32) (x2 : Int32) (S : St), K mX12_adoptFrames X E 114 [(0, .ref a0), (1, .int x1), (2, .int x2)] [] S 0 0 (lp_X12_adoptFrames_114 fu E a0 rc41 f x1 x2 S) t := by
  intro f
  induction f with
  | zero => intro x1 x2 S; exact K_none
  | succ f hrc114 =>
    intro x1 x2 S
    show K _ _ _ _ _ _ _ _ _ (bd_X12_adoptFrames_114 fu E a0 rc41 (lp_X12_adoptFrames_114 fu E a0 rc41 f) x1 x2 S) t
    unfold bd_X12_adoptFrames_114
    refine K_iload_n dX12_adoptFrames_114 rfl rfl ?_
    refine K_aload_n dX12_adoptFrames_115 rfl rfl ?_
    refine K_getI dX12_adoptFrames_116 f_X12_168_10 ha0 rfl ?_
    refine K_icmp_ge (tgt := 167) dX12_adoptFrames_119 (by decide) (fun c19 => ?_) (fun c19 => ?_)
    · refine K_iinc (v := (x1 + 1)) (ls' := [(0, _), (1, _), (2, _)]) dX12_adoptFrames_167 rfl rfl (by decide) rfl ?_
      refine K_goto (tgt := 41) dX12_adoptFrames_170 (by decide) ?_
      refine K.keep [0, 1] ?_
      exact hrc41 (x1 + 1) S
    · refine K_aload_n dX12_adoptFrames_122 rfl rfl ?_
      refine K_getC hE dX12_adoptFrames_123 f_X12_63_10 ha0 rfl rfl (fun h7 => ?_)
      refine K_iload_n dX12_adoptFrames_126 rfl rfl ?_
      refine K_chk (fun h8 => ?_)
      refine K_zald dX12_adoptFrames_127 h7 h8 ?_
      refine K_if_eq (tgt := 161) dX12_adoptFrames_128 (by decide) (fun c18 => ?_) (fun c18 => ?_)
      · refine K_iinc (v := (x2 + 1)) (ls' := [(0, _), (1, _), (2, _)]) dX12_adoptFrames_161 rfl rfl (by decide) rfl ?_
        refine K_goto (tgt := 114) dX12_adoptFrames_164 (by decide) ?_
        refine K.keep [0, 1, 2] ?_
        exact hrc114 x1 (x2 + 1) S
      · refine K_aload_n dX12_adoptFrames_131 rfl rfl ?_
        refine K_getC hE dX12_adoptFrames_132 f_X12_51_10 ha0 rfl rfl (fun h9 => ?_)
        refine K_iload_n dX12_adoptFrames_135 rfl rfl ?_
        refine K_chk (fun h10 => ?_)
        refine K_iald dX12_adoptFrames_136 h9 h10 ?_
        refine K_iload_n dX12_adoptFrames_137 rfl rfl ?_
        refine K_icmp_gt (tgt := 161) dX12_adoptFrames_138 (by decide) (fun c17 => ?_) (fun c17 => ?_)
        · refine K_iinc (v := (x2 + 1)) (ls' := [(0, _), (1, _), (2, _)]) dX12_adoptFrames_161 rfl rfl (by decide) rfl ?_
          refine K_goto (tgt := 114) dX12_adoptFrames_164 (by decide) ?_
          refine K.keep [0, 1, 2] ?_
          exact hrc114 x1 (x2 + 1) S
        · refine K_iload_n dX12_adoptFrames_141 rfl rfl ?_
          refine K_aload_n dX12_adoptFrames_142 rfl rfl ?_
          refine K_getC hE dX12_adoptFrames_143 f_X12_54_10 ha0 rfl rfl (fun h11 => ?_)
          refine K_iload_n dX12_adoptFrames_146 rfl rfl ?_
          refine K_chk (fun h12 => ?_)
          refine K_iald dX12_adoptFrames_147 h11 h12 ?_
          refine K_icmp_ge (tgt := 161) dX12_adoptFrames_148 (by decide) (fun c16 => ?_) (fun c16 => ?_)
          · refine K_iinc (v := (x2 + 1)) (ls' := [(0, _), (1, _), (2, _)]) dX12_adoptFrames_161 rfl rfl (by decide) rfl ?_
            refine K_goto (tgt := 114) dX12_adoptFrames_164 (by decide) ?_
            refine K.keep [0, 1, 2] ?_
            exact hrc114 x1 (x2 + 1) S
          · refine K_aload_n dX12_adoptFrames_151 rfl rfl ?_
            refine K_aload_n dX12_adoptFrames_152 rfl rfl ?_
            refine K_getC hE dX12_adoptFrames_153 f_X12_57_10 ha0 rfl rfl (fun h13 => ?_)
            refine K_iload_n dX12_adoptFrames_156 rfl rfl ?_
            refine K_chk (fun h14 => ?_)
            refine K_iald dX12_adoptFrames_157 h13 h14 ?_
            refine K_bind (fun u15 hu15 => ?_)
            refine K_callVV (As := [.int (S.2.1 (E.2 a0 25) x2.toNatClampNeg)]) (k_X12_adopt fu hE ha0 hu15) dX12_adoptFrames_158 v_X12_195 ha0 rfl rfl rfl rfl (Nat.le_of_ble_eq_true rfl) ⟨Nat.le_of_ble_eq_true rfl, Nat.le_of_ble_eq_true rfl, Nat.le_of_ble_eq_true rfl, Nat.le_of_ble_eq_true rfl⟩ ?_
            refine K_iinc (v := (x2 + 1)) (ls' := [(0, _), (1, _), (2, _)]) dX12_adoptFrames_161 rfl rfl (by decide) rfl ?_
            refine K_goto (tgt := 114) dX12_adoptFrames_164 (by decide) ?_
            refine K.keep [0, 1, 2] ?_
            exact hrc114 x1 (x2 + 1) u15
def jb_X12_adoptFrames_80 (fu : Nat) (E : Ev) (a0 : Nat) (rc41 : Int32 → St → Option (Int32 × St)) (x1 : Int32) (S : St) : Option (Int32 × St) :=
  if inb x1 100 = true then
    (
    if (S.2.1 (E.2 a0 28) x1.toNatClampNeg) = 0 then (
      lp_X12_adoptFrames_114 fu E a0 rc41 fu x1 0 S
    ) else (
      if x1 ≤ 0 then (
        lp_X12_adoptFrames_114 fu E a0 rc41 fu x1 0 S
      ) else (
        if inb (x1 - 1) 100 = true then
          (
          (sp_X12_goesOn fu E S (S.2.1 (E.2 a0 20) (x1 - 1).toNatClampNeg)).bind fun u22 =>
          if u22.1 = 0 then (
            (sp_X12_adopt fu E u22.2 a0 x1).bind fun u23 =>
            lp_X12_adoptFrames_114 fu E a0 rc41 fu x1 0 u23
          ) else (
            lp_X12_adoptFrames_114 fu E a0 rc41 fu x1 0 u22.2
          )
          )
        else none
      )
    )
    )
  else none
set_option maxRecDepth 100000 in
theorem kj_X12_adoptFrames_80 {X : Cx} {E : Ev} {t : (Int32 × St)} {a0 : Nat} {rc41 : Int32 → St → Option (Int32 × St)} (hQ : EndR mX12_adoptFrames X (PoI E t)) (hE : WE E) (fu : Nat) (ha0 : E.1 a0 = some (0, 10, 0)) (hrc41 : ∀ (x1 : Int32) (S : St), K mX12_adoptFrames X E 41 [(0, .ref a0), (1, .int x1)] [] S 0 0 (rc41 x1 S) t) (x1 : Int32) (S : St) : K mX12_adoptFrames X E 80 [(0, .ref a0), (1, .int x1)] [] S 0 0 (jb_X12_adoptFrames_80 fu E a0 rc41 x1 S) t := by
  unfold jb_X12_adoptFrames_80
  refine K_aload_n dX12_adoptFrames_80 rfl rfl ?_
  refine K_getC hE dX12_adoptFrames_81 f_X12_63_10 ha0 rfl rfl (fun h5 => ?_)
  refine K_iload_n dX12_adoptFrames_84 rfl rfl ?_
  refine K_chk (fun h6 => ?_)
  refine K_zald dX12_adoptFrames_85 h5 h6 ?_
  refine K_if_eq (tgt := 112) dX12_adoptFrames_86 (by decide) (fun c26 => ?_) (fun c26 => ?_)
  · refine K_iconst (v := 0) dX12_adoptFrames_112 (by decide) ?_
    refine K_istore_n (ls' := [(0, _), (1, _), (2, _)]) dX12_adoptFrames_113 rfl (by decide) rfl ?_
    refine K.keep [0, 1, 2] ?_
    exact kl_X12_adoptFrames_114 hQ hE fu ha0 hrc41 fu x1 0 S
  · refine K_iload_n dX12_adoptFrames_89 rfl rfl ?_
    refine K_if_le (tgt := 112) dX12_adoptFrames_90 (by decide) (fun c25 => ?_) (fun c25 => ?_)
    · refine K_iconst (v := 0) dX12_adoptFrames_112 (by decide) ?_
      refine K_istore_n (ls' := [(0, _), (1, _), (2, _)]) dX12_adoptFrames_113 rfl (by decide) rfl ?_
      refine K.keep [0, 1, 2] ?_
      exact kl_X12_adoptFrames_114 hQ hE fu ha0 hrc41 fu x1 0 S
    · refine K_aload_n dX12_adoptFrames_93 rfl rfl ?_
      refine K_getC hE dX12_adoptFrames_94 f_X12_45_10 ha0 rfl rfl (fun h20 => ?_)
      refine K_iload_n dX12_adoptFrames_97 rfl rfl ?_
      refine K_iconst (v := 1) dX12_adoptFrames_98 (by decide) ?_
      refine K_isub dX12_adoptFrames_99 ?_
      refine K_chk (fun h21 => ?_)
      refine K_iald dX12_adoptFrames_100 h20 h21 ?_
      refine K_bind (fun u22 hu22 => ?_)
      refine K_callSI (As := [.int (S.2.1 (E.2 a0 20) (x1 - 1).toNatClampNeg)]) (k_X12_goesOn fu hE hu22) dX12_adoptFrames_101 s_X12_199 rfl rfl (Nat.le_of_ble_eq_true rfl) ⟨Nat.le_of_ble_eq_true rfl, Nat.le_of_ble_eq_true rfl, Nat.le_of_ble_eq_true rfl, Nat.le_of_ble_eq_true rfl⟩ ?_
      refine K_if_ne (tgt := 112) dX12_adoptFrames_104 (by decide) (fun c24 => ?_) (fun c24 => ?_)
      · refine K_iconst (v := 0) dX12_adoptFrames_112 (by decide) ?_
        refine K_istore_n (ls' := [(0, _), (1, _), (2, _)]) dX12_adoptFrames_113 rfl (by decide) rfl ?_
        refine K.keep [0, 1, 2] ?_
        exact kl_X12_adoptFrames_114 hQ hE fu ha0 hrc41 fu x1 0 u22.2
      · refine K_aload_n dX12_adoptFrames_107 rfl rfl ?_
        refine K_iload_n dX12_adoptFrames_108 rfl rfl ?_
        refine K_bind (fun u23 hu23 => ?_)
        refine K_callVV (As := [.int x1]) (k_X12_adopt fu hE ha0 hu23) dX12_adoptFrames_109 v_X12_195 ha0 rfl rfl rfl rfl (Nat.le_of_ble_eq_true rfl) ⟨Nat.le_of_ble_eq_true rfl, Nat.le_of_ble_eq_true rfl, Nat.le_of_ble_eq_true rfl, Nat.le_of_ble_eq_true rfl⟩ ?_
        refine K_iconst (v := 0) dX12_adoptFrames_112 (by decide) ?_
        refine K_istore_n (ls' := [(0, _), (1, _), (2, _)]) dX12_adoptFrames_113 rfl (by decide) rfl ?_
        refine K.keep [0, 1, 2] ?_
        exact kl_X12_adoptFrames_114 hQ hE fu ha0 hrc41 fu x1 0 u23
def bd_X12_adoptFrames_41 (fu : Nat) (E : Ev) (a0 : Nat) (rc41 : Int32 → St → Option (Int32 × St)) (x1 : Int32) (S : St) : Option (Int32 × St) :=
  if (S.1 a0 19) ≤ x1 then (
    (sp_X12_declaredCount fu E S a0).bind fun u2 =>
    some (u2.1, u2.2)
  ) else (
    if inb x1 100 = true then
      (
      if (S.2.1 (E.2 a0 28) x1.toNatClampNeg) = 0 then (
        jb_X12_adoptFrames_80 fu E a0 rc41 x1 S
      ) else (
        if inb x1 100 = true then
          (
          (sp_X12_isJump fu E S (S.2.1 (E.2 a0 20) x1.toNatClampNeg)).bind fun u29 =>
          if u29.1 = 0 then (
            jb_X12_adoptFrames_80 fu E a0 rc41 x1 u29.2
          ) else (
            if inb x1 100 = true then
              (
              (sp_X12_adopt fu E u29.2 a0 (u29.2.2.1 (E.2 a0 21) x1.toNatClampNeg)).bind fun u32 =>
              jb_X12_adoptFrames_80 fu E a0 rc41 x1 u32
              )
            else none
          )
          )
        else none
      )
      )
    else none
  )
def lp_X12_adoptFrames_41 (fu : Nat) (E : Ev) (a0 : Nat) : Nat → Int32 → St → Option (Int32 × St)
  | 0, _, _ => none
  | f + 1, x1, S => bd_X12_adoptFrames_41 fu E a0 (lp_X12_adoptFrames_41 fu E a0 f) x1 S
set_option maxRecDepth 100000 in
theorem kl_X12_adoptFrames_41 {X : Cx} {E : Ev} {t : (Int32 × St)} {a0 : Nat} (hQ : EndR mX12_adoptFrames X (PoI E t)) (hE : WE E) (fu : Nat) (ha0 : E.1 a0 = some (0, 10, 0)) : ∀ (f : Nat) (x1 : Int32) (S : St), K mX12_adoptFrames X E 41 [(0, .ref a0), (1, .int x1)] [] S 0 0 (lp_X12_adoptFrames_41 fu E a0 f x1 S) t := by
  intro f
  induction f with
  | zero => intro x1 S; exact K_none
  | succ f hrc41 =>
    intro x1 S
    show K _ _ _ _ _ _ _ _ _ (bd_X12_adoptFrames_41 fu E a0 (lp_X12_adoptFrames_41 fu E a0 f) x1 S) t
    unfold bd_X12_adoptFrames_41
    refine K_iload_n dX12_adoptFrames_41 rfl rfl ?_
    refine K_aload_n dX12_adoptFrames_42 rfl rfl ?_
    refine K_getI dX12_adoptFrames_43 f_X12_165_10 ha0 rfl ?_
    refine K_icmp_ge (tgt := 173) dX12_adoptFrames_46 (by decide) (fun c35 => ?_) (fun c35 => ?_)
    · refine K_aload_n dX12_adoptFrames_173 rfl rfl ?_
      refine K_bind (fun u2 hu2 => ?_)
      refine K_callVI (As := []) (k_X12_declaredCount fu hE ha0 hu2) dX12_adoptFrames_174 v_X12_189 ha0 rfl rfl rfl rfl (Nat.le_of_ble_eq_true rfl) ⟨Nat.le_of_ble_eq_true rfl, Nat.le_of_ble_eq_true rfl, Nat.le_of_ble_eq_true rfl, Nat.le_of_ble_eq_true rfl⟩ ?_
      exact K_iret dX12_adoptFrames_177 hQ rfl (Nat.le_of_ble_eq_true rfl) (Nat.le_of_ble_eq_true rfl)
    · refine K_aload_n dX12_adoptFrames_49 rfl rfl ?_
      refine K_getC hE dX12_adoptFrames_50 f_X12_63_10 ha0 rfl rfl (fun h3 => ?_)
      refine K_iload_n dX12_adoptFrames_53 rfl rfl ?_
      refine K_chk (fun h4 => ?_)
      refine K_zald dX12_adoptFrames_54 h3 h4 ?_
      refine K_if_eq (tgt := 80) dX12_adoptFrames_55 (by decide) (fun c34 => ?_) (fun c34 => ?_)
      · refine K.keep [0, 1] ?_
        exact kj_X12_adoptFrames_80 hQ hE fu ha0 hrc41 x1 S
      · refine K_aload_n dX12_adoptFrames_58 rfl rfl ?_
        refine K_getC hE dX12_adoptFrames_59 f_X12_45_10 ha0 rfl rfl (fun h27 => ?_)
        refine K_iload_n dX12_adoptFrames_62 rfl rfl ?_
        refine K_chk (fun h28 => ?_)
        refine K_iald dX12_adoptFrames_63 h27 h28 ?_
        refine K_bind (fun u29 hu29 => ?_)
        refine K_callSI (As := [.int (S.2.1 (E.2 a0 20) x1.toNatClampNeg)]) (k_X12_isJump fu hE hu29) dX12_adoptFrames_64 s_X12_192 rfl rfl (Nat.le_of_ble_eq_true rfl) ⟨Nat.le_of_ble_eq_true rfl, Nat.le_of_ble_eq_true rfl, Nat.le_of_ble_eq_true rfl, Nat.le_of_ble_eq_true rfl⟩ ?_
        refine K_if_eq (tgt := 80) dX12_adoptFrames_67 (by decide) (fun c33 => ?_) (fun c33 => ?_)
        · refine K.keep [0, 1] ?_
          exact kj_X12_adoptFrames_80 hQ hE fu ha0 hrc41 x1 u29.2
        · refine K_aload_n dX12_adoptFrames_70 rfl rfl ?_
          refine K_aload_n dX12_adoptFrames_71 rfl rfl ?_
          refine K_getC hE dX12_adoptFrames_72 f_X12_48_10 ha0 rfl rfl (fun h30 => ?_)
          refine K_iload_n dX12_adoptFrames_75 rfl rfl ?_
          refine K_chk (fun h31 => ?_)
          refine K_iald dX12_adoptFrames_76 h30 h31 ?_
          refine K_bind (fun u32 hu32 => ?_)
          refine K_callVV (As := [.int (u29.2.2.1 (E.2 a0 21) x1.toNatClampNeg)]) (k_X12_adopt fu hE ha0 hu32) dX12_adoptFrames_77 v_X12_195 ha0 rfl rfl rfl rfl (Nat.le_of_ble_eq_true rfl) ⟨Nat.le_of_ble_eq_true rfl, Nat.le_of_ble_eq_true rfl, Nat.le_of_ble_eq_true rfl, Nat.le_of_ble_eq_true rfl⟩ ?_
          refine K.keep [0, 1] ?_
          exact kj_X12_adoptFrames_80 hQ hE fu ha0 hrc41 x1 u32
def bd_X12_adoptFrames_20 (fu : Nat) (E : Ev) (a0 : Nat) (rc20 : Int32 → St → Option (Int32 × St)) (x1 : Int32) (S : St) : Option (Int32 × St) :=
  if 100 ≤ x1 then (
    lp_X12_adoptFrames_41 fu E a0 fu 0 S
  ) else (
    if inb x1 100 = true then (
      bnd (sG S (E.2 a0 30) (x1.toNatClampNeg) 0) fun S38 =>
      rc20 (x1 + 1) S38
    ) else none
  )
def lp_X12_adoptFrames_20 (fu : Nat) (E : Ev) (a0 : Nat) : Nat → Int32 → St → Option (Int32 × St)
  | 0, _, _ => none
  | f + 1, x1, S => bd_X12_adoptFrames_20 fu E a0 (lp_X12_adoptFrames_20 fu E a0 f) x1 S
set_option maxRecDepth 100000 in
theorem kl_X12_adoptFrames_20 {X : Cx} {E : Ev} {t : (Int32 × St)} {a0 : Nat} (hQ : EndR mX12_adoptFrames X (PoI E t)) (hE : WE E) (fu : Nat) (ha0 : E.1 a0 = some (0, 10, 0)) : ∀ (f : Nat) (x1 : Int32) (S : St), K mX12_adoptFrames X E 20 [(0, .ref a0), (1, .int x1)] [] S 0 0 (lp_X12_adoptFrames_20 fu E a0 f x1 S) t := by
  intro f
  induction f with
  | zero => intro x1 S; exact K_none
  | succ f hrc20 =>
    intro x1 S
    show K _ _ _ _ _ _ _ _ _ (bd_X12_adoptFrames_20 fu E a0 (lp_X12_adoptFrames_20 fu E a0 f) x1 S) t
    unfold bd_X12_adoptFrames_20
    refine K_iload_n dX12_adoptFrames_20 rfl rfl ?_
    refine K_bipush (v := 100) dX12_adoptFrames_21 (by decide) ?_
    refine K_icmp_ge (tgt := 39) dX12_adoptFrames_23 (by decide) (fun c39 => ?_) (fun c39 => ?_)
    · refine K_iconst (v := 0) dX12_adoptFrames_39 (by decide) ?_
      refine K_istore_n (ls' := [(0, _), (1, _)]) dX12_adoptFrames_40 rfl (by decide) rfl ?_
      refine K.keep [0, 1] ?_
      exact kl_X12_adoptFrames_41 hQ hE fu ha0 fu 0 S
    · refine K_aload_n dX12_adoptFrames_26 rfl rfl ?_
      refine K_getC hE dX12_adoptFrames_27 f_X12_69_10 ha0 rfl rfl (fun h36 => ?_)
      refine K_iload_n dX12_adoptFrames_30 rfl rfl ?_
      refine K_iconst (v := 0) dX12_adoptFrames_31 (by decide) ?_
      refine K_chk (fun h37 => ?_)
      refine K_zast dX12_adoptFrames_32 h36 h37 rfl ?_
      refine K_nmS (fun S38 => ?_)
      refine K_iinc (v := (x1 + 1)) (ls' := [(0, _), (1, _)]) dX12_adoptFrames_33 rfl rfl (by decide) rfl ?_
      refine K_goto (tgt := 20) dX12_adoptFrames_36 (by decide) ?_
      refine K.keep [0, 1] ?_
      exact hrc20 (x1 + 1) S38
def sp_X12_adoptFrames (fu : Nat) (E : Ev) (S : St) (a0 : Nat) : Option (Int32 × St) :=
  bnd (sF S a0 0 0) fun S1 =>
  if (S1.1 a0 27) = 0 then (
    (sp_X12_no fu E S1 a0 1).bind fun u40 =>
    some (u40.1, u40.2)
  ) else (
    lp_X12_adoptFrames_20 fu E a0 fu 0 S1
  )
set_option maxRecDepth 100000 in
theorem k_X12_adoptFrames {l : Launch} (fu : Nat) {E : Ev} (hE : WE E) {a0 : Nat} (ha0 : E.1 a0 = some (0, 10, 0)) {S : St} {t : (Int32 × St)} (h : sp_X12_adoptFrames fu E S a0 = some t) : Cn l mX12_adoptFrames [.ref a0] (hp E S) (PoI E t) := by
  refine Cn.of (by decide) rfl (Nat.le_of_ble_eq_true rfl) (fun X _ _ hQ => ?_)
  refine (?_ : K mX12_adoptFrames X E 0 [(0, .ref a0)] [] S 0 0 (sp_X12_adoptFrames fu E S a0) t) h
  unfold sp_X12_adoptFrames
  refine K_aload_n dX12_adoptFrames_0 rfl rfl ?_
  refine K_iconst (v := 0) dX12_adoptFrames_1 (by decide) ?_
  refine K_putI dX12_adoptFrames_2 p_X12_90_10 ha0 rfl ?_
  refine K_nmS (fun S1 => ?_)
  refine K_aload_n dX12_adoptFrames_5 rfl rfl ?_
  refine K_getI dX12_adoptFrames_6 f_X12_177_10 ha0 rfl ?_
  refine K_if_ne (tgt := 18) dX12_adoptFrames_9 (by decide) (fun c41 => ?_) (fun c41 => ?_)
  · refine K_iconst (v := 0) dX12_adoptFrames_18 (by decide) ?_
    refine K_istore_n (ls' := [(0, _), (1, _)]) dX12_adoptFrames_19 rfl (by decide) rfl ?_
    refine K.keep [0, 1] ?_
    exact kl_X12_adoptFrames_20 hQ hE fu ha0 fu 0 S1
  · refine K_aload_n dX12_adoptFrames_12 rfl rfl ?_
    refine K_iconst (v := 1) dX12_adoptFrames_13 (by decide) ?_
    refine K_bind (fun u40 hu40 => ?_)
    refine K_callVI (As := [.int 1]) (k_X12_no fu hE ha0 hu40) dX12_adoptFrames_14 v_X12_126 ha0 rfl rfl rfl rfl (Nat.le_of_ble_eq_true rfl) ⟨Nat.le_of_ble_eq_true rfl, Nat.le_of_ble_eq_true rfl, Nat.le_of_ble_eq_true rfl, Nat.le_of_ble_eq_true rfl⟩ ?_
    exact K_iret dX12_adoptFrames_17 hQ rfl (Nat.le_of_ble_eq_true rfl) (Nat.le_of_ble_eq_true rfl)
def sp_X12_fail (fu : Nat) (E : Ev) (S : St) (a0 : Nat) (x1 : Int32) (x2 : Int32) : Option St :=
  if (S.1 a0 35) ≤ 0 then (
    bnd (sF S a0 35 x1) fun S1 =>
    bnd (sF S1 a0 36 x2) fun S2 =>
    some S2
  ) else (
    some S
  )
set_option maxRecDepth 100000 in
theorem k_X12_fail {l : Launch} (fu : Nat) {E : Ev} (hE : WE E) {a0 : Nat} (ha0 : E.1 a0 = some (0, 10, 0)) {x1 : Int32} {x2 : Int32} {S : St} {t : St} (h : sp_X12_fail fu E S a0 x1 x2 = some t) : Cn l mX12_fail [.ref a0, .int x1, .int x2] (hp E S) (PoV E t) := by
  refine Cn.of (by decide) rfl (Nat.le_of_ble_eq_true rfl) (fun X _ _ hQ => ?_)
  refine (?_ : K mX12_fail X E 0 [(0, .ref a0), (1, .int x1), (2, .int x2)] [] S 0 0 (sp_X12_fail fu E S a0 x1 x2) t) h
  unfold sp_X12_fail
  refine K_aload_n dX12_fail_0 rfl rfl ?_
  refine K_getI dX12_fail_1 f_X12_202_10 ha0 rfl ?_
  refine K_if_le (tgt := 8) dX12_fail_4 (by decide) (fun c3 => ?_) (fun c3 => ?_)
  · refine K_aload_n dX12_fail_8 rfl rfl ?_
    refine K_iload_n dX12_fail_9 rfl rfl ?_
    refine K_putI dX12_fail_10 p_X12_202_10 ha0 rfl ?_
    refine K_nmS (fun S1 => ?_)
    refine K_aload_n dX12_fail_13 rfl rfl ?_
    refine K_iload_n dX12_fail_14 rfl rfl ?_
    refine K_putI dX12_fail_15 p_X12_78_10 ha0 rfl ?_
    refine K_nmS (fun S2 => ?_)
    exact K_vret dX12_fail_18 hQ rfl (Nat.le_of_ble_eq_true rfl) (Nat.le_of_ble_eq_true rfl)
  · exact K_vret dX12_fail_7 hQ rfl (Nat.le_of_ble_eq_true rfl) (Nat.le_of_ble_eq_true rfl)
def sp_X12_isWell (fu : Nat) (E : Ev) (S : St) (a0 : Nat) : Option (Int32 × St) :=
  if (S.1 a0 35) = 0 then (
    some (1, S)
  ) else (
    some (0, S)
  )
set_option maxRecDepth 100000 in
theorem k_X12_isWell {l : Launch} (fu : Nat) {E : Ev} (hE : WE E) {a0 : Nat} (ha0 : E.1 a0 = some (0, 10, 0)) {S : St} {t : (Int32 × St)} (h : sp_X12_isWell fu E S a0 = some t) : Cn l mX12_isWell [.ref a0] (hp E S) (PoI E t) := by
  refine Cn.of (by decide) rfl (Nat.le_of_ble_eq_true rfl) (fun X _ _ hQ => ?_)
  refine (?_ : K mX12_isWell X E 0 [(0, .ref a0)] [] S 0 0 (sp_X12_isWell fu E S a0) t) h
  unfold sp_X12_isWell
  refine K_aload_n dX12_isWell_0 rfl rfl ?_
  refine K_getI dX12_isWell_1 f_X12_202_10 ha0 rfl ?_
  refine K_if_ne (tgt := 11) dX12_isWell_4 (by decide) (fun c1 => ?_) (fun c1 => ?_)
  · refine K_iconst (v := 0) dX12_isWell_11 (by decide) ?_
    exact K_zret dX12_isWell_12 hQ rfl rfl (Nat.le_of_ble_eq_true rfl) (Nat.le_of_ble_eq_true rfl)
  · refine K_iconst (v := 1) dX12_isWell_7 (by decide) ?_
    refine K_goto (tgt := 12) dX12_isWell_8 (by decide) ?_
    exact K_zret dX12_isWell_12 hQ rfl rfl (Nat.le_of_ble_eq_true rfl) (Nat.le_of_ble_eq_true rfl)
def jb_X12_isOperand_11 (fu : Nat) (E : Ev) (a0 : Nat) (x2 : Int32) (S : St) : Option (Int32 × St) :=
  if x2 < 0 then (
    some (0, S)
  ) else (
    if ((S.1 a0 18) - 1) ≤ x2 then (
      some (0, S)
    ) else (
      some (1, S)
    )
  )
set_option maxRecDepth 100000 in
theorem kj_X12_isOperand_11 {X : Cx} {E : Ev} {t : (Int32 × St)} {a0 : Nat} (hQ : EndR mX12_isOperand X (PoI E t)) (hE : WE E) (fu : Nat) (ha0 : E.1 a0 = some (0, 10, 0)) (x2 : Int32) (S : St) : K mX12_isOperand X E 11 [(0, .ref a0), (2, .int x2)] [] S 0 0 (jb_X12_isOperand_11 fu E a0 x2 S) t := by
  unfold jb_X12_isOperand_11
  refine K_iload_n dX12_isOperand_11 rfl rfl ?_
  refine K_if_lt (tgt := 29) dX12_isOperand_12 (by decide) (fun c2 => ?_) (fun c2 => ?_)
  · refine K_iconst (v := 0) dX12_isOperand_29 (by decide) ?_
    exact K_zret dX12_isOperand_30 hQ rfl rfl (Nat.le_of_ble_eq_true rfl) (Nat.le_of_ble_eq_true rfl)
  · refine K_iload_n dX12_isOperand_15 rfl rfl ?_
    refine K_aload_n dX12_isOperand_16 rfl rfl ?_
    refine K_getI dX12_isOperand_17 f_X12_162_10 ha0 rfl ?_
    refine K_iconst (v := 1) dX12_isOperand_20 (by decide) ?_
    refine K_isub dX12_isOperand_21 ?_
    refine K_icmp_ge (tgt := 29) dX12_isOperand_22 (by decide) (fun c1 => ?_) (fun c1 => ?_)
    · refine K_iconst (v := 0) dX12_isOperand_29 (by decide) ?_
      exact K_zret dX12_isOperand_30 hQ rfl rfl (Nat.le_of_ble_eq_true rfl) (Nat.le_of_ble_eq_true rfl)
    · refine K_iconst (v := 1) dX12_isOperand_25 (by decide) ?_
      refine K_goto (tgt := 30) dX12_isOperand_26 (by decide) ?_
      exact K_zret dX12_isOperand_30 hQ rfl rfl (Nat.le_of_ble_eq_true rfl) (Nat.le_of_ble_eq_true rfl)
def jb_X12_isOperand_103 (fu : Nat) (E : Ev) (a0 : Nat) (x2 : Int32) (S : St) : Option (Int32 × St) :=
  if x2 < 0 then (
    some (0, S)
  ) else (
    if (S.1 a0 4) ≤ x2 then (
      some (0, S)
    ) else (
      some (1, S)
    )
  )
set_option maxRecDepth 100000 in
theorem kj_X12_isOperand_103 {X : Cx} {E : Ev} {t : (Int32 × St)} {a0 : Nat} (hQ : EndR mX12_isOperand X (PoI E t)) (hE : WE E) (fu : Nat) (ha0 : E.1 a0 = some (0, 10, 0)) (x2 : Int32) (S : St) : K mX12_isOperand X E 103 [(0, .ref a0), (2, .int x2)] [] S 0 0 (jb_X12_isOperand_103 fu E a0 x2 S) t := by
  unfold jb_X12_isOperand_103
  refine K_iload_n dX12_isOperand_103 rfl rfl ?_
  refine K_if_lt (tgt := 119) dX12_isOperand_104 (by decide) (fun c5 => ?_) (fun c5 => ?_)
  · refine K_iconst (v := 0) dX12_isOperand_119 (by decide) ?_
    exact K_zret dX12_isOperand_120 hQ rfl rfl (Nat.le_of_ble_eq_true rfl) (Nat.le_of_ble_eq_true rfl)
  · refine K_iload_n dX12_isOperand_107 rfl rfl ?_
    refine K_aload_n dX12_isOperand_108 rfl rfl ?_
    refine K_getI dX12_isOperand_109 f_X12_136_10 ha0 rfl ?_
    refine K_icmp_ge (tgt := 119) dX12_isOperand_112 (by decide) (fun c4 => ?_) (fun c4 => ?_)
    · refine K_iconst (v := 0) dX12_isOperand_119 (by decide) ?_
      exact K_zret dX12_isOperand_120 hQ rfl rfl (Nat.le_of_ble_eq_true rfl) (Nat.le_of_ble_eq_true rfl)
    · refine K_iconst (v := 1) dX12_isOperand_115 (by decide) ?_
      refine K_goto (tgt := 120) dX12_isOperand_116 (by decide) ?_
      exact K_zret dX12_isOperand_120 hQ rfl rfl (Nat.le_of_ble_eq_true rfl) (Nat.le_of_ble_eq_true rfl)
def jb_X12_isOperand_233 (fu : Nat) (E : Ev) (a0 : Nat) (x2 : Int32) (S : St) : Option (Int32 × St) :=
  (sp_X12_isReferenceType fu E S a0 x2).bind fun u6 =>
  if u6.1 = 0 then (
    some (0, u6.2)
  ) else (
    some (1, u6.2)
  )
set_option maxRecDepth 100000 in
theorem kj_X12_isOperand_233 {X : Cx} {E : Ev} {t : (Int32 × St)} {a0 : Nat} (hQ : EndR mX12_isOperand X (PoI E t)) (hE : WE E) (fu : Nat) (ha0 : E.1 a0 = some (0, 10, 0)) (x2 : Int32) (S : St) : K mX12_isOperand X E 233 [(0, .ref a0), (2, .int x2)] [] S 0 0 (jb_X12_isOperand_233 fu E a0 x2 S) t := by
  unfold jb_X12_isOperand_233
  refine K_aload_n dX12_isOperand_233 rfl rfl ?_
  refine K_iload_n dX12_isOperand_234 rfl rfl ?_
  refine K_bind (fun u6 hu6 => ?_)
  refine K_callVI (As := [.int x2]) (k_X12_isReferenceType fu hE ha0 hu6) dX12_isOperand_235 v_X12_100 ha0 rfl rfl rfl rfl (Nat.le_of_ble_eq_true rfl) ⟨Nat.le_of_ble_eq_true rfl, Nat.le_of_ble_eq_true rfl, Nat.le_of_ble_eq_true rfl, Nat.le_of_ble_eq_true rfl⟩ ?_
  refine K_if_eq (tgt := 245) dX12_isOperand_238 (by decide) (fun c7 => ?_) (fun c7 => ?_)
  · refine K_iconst (v := 0) dX12_isOperand_245 (by decide) ?_
    exact K_zret dX12_isOperand_246 hQ rfl rfl (Nat.le_of_ble_eq_true rfl) (Nat.le_of_ble_eq_true rfl)
  · refine K_iconst (v := 1) dX12_isOperand_241 (by decide) ?_
    refine K_goto (tgt := 246) dX12_isOperand_242 (by decide) ?_
    exact K_zret dX12_isOperand_246 hQ rfl rfl (Nat.le_of_ble_eq_true rfl) (Nat.le_of_ble_eq_true rfl)
def jb_X12_isOperand_193 (fu : Nat) (E : Ev) (a0 : Nat) (x1 : Int32) (x2 : Int32) (S : St) : Option (Int32 × St) :=
  if x1 = 38 then (
    (sp_X12_isType fu E S a0 x2).bind fun u10 =>
    if u10.1 = 0 then (
      some (0, u10.2)
    ) else (
      if 4 ≤ (x2 - x2 / 8 * 8) then (
        some (0, u10.2)
      ) else (
        some (1, u10.2)
      )
    )
  ) else (
    if x1 = 44 then (
      jb_X12_isOperand_233 fu E a0 x2 S
    ) else (
      if x1 = 45 then (
        jb_X12_isOperand_233 fu E a0 x2 S
      ) else (
        some (1, S)
      )
    )
  )
set_option maxRecDepth 100000 in
theorem kj_X12_isOperand_193 {X : Cx} {E : Ev} {t : (Int32 × St)} {a0 : Nat} (hQ : EndR mX12_isOperand X (PoI E t)) (hE : WE E) (fu : Nat) (ha0 : E.1 a0 = some (0, 10, 0)) (x1 : Int32) (x2 : Int32) (S : St) : K mX12_isOperand X E 193 [(0, .ref a0), (1, .int x1), (2, .int x2)] [] S 0 0 (jb_X12_isOperand_193 fu E a0 x1 x2 S) t := by
  unfold jb_X12_isOperand_193
  refine K_iload_n dX12_isOperand_193 rfl rfl ?_
  refine K_bipush (v := 38) dX12_isOperand_194 (by decide) ?_
  refine K_icmp_ne (tgt := 221) dX12_isOperand_196 (by decide) (fun c13 => ?_) (fun c13 => ?_)
  · refine K_iload_n dX12_isOperand_221 rfl rfl ?_
    refine K_bipush (v := 44) dX12_isOperand_222 (by decide) ?_
    refine K_icmp_eq (tgt := 233) dX12_isOperand_224 (by decide) (fun c9 => ?_) (fun c9 => ?_)
    · refine K.keep [0, 2] ?_
      exact kj_X12_isOperand_233 hQ hE fu ha0 x2 S
    · refine K_iload_n dX12_isOperand_227 rfl rfl ?_
      refine K_bipush (v := 45) dX12_isOperand_228 (by decide) ?_
      refine K_icmp_ne (tgt := 241) dX12_isOperand_230 (by decide) (fun c8 => ?_) (fun c8 => ?_)
      · refine K_iconst (v := 1) dX12_isOperand_241 (by decide) ?_
        refine K_goto (tgt := 246) dX12_isOperand_242 (by decide) ?_
        exact K_zret dX12_isOperand_246 hQ rfl rfl (Nat.le_of_ble_eq_true rfl) (Nat.le_of_ble_eq_true rfl)
      · refine K.keep [0, 2] ?_
        exact kj_X12_isOperand_233 hQ hE fu ha0 x2 S
  · refine K_aload_n dX12_isOperand_199 rfl rfl ?_
    refine K_iload_n dX12_isOperand_200 rfl rfl ?_
    refine K_bind (fun u10 hu10 => ?_)
    refine K_callVI (As := [.int x2]) (k_X12_isType fu hE ha0 hu10) dX12_isOperand_201 v_X12_93 ha0 rfl rfl rfl rfl (Nat.le_of_ble_eq_true rfl) ⟨Nat.le_of_ble_eq_true rfl, Nat.le_of_ble_eq_true rfl, Nat.le_of_ble_eq_true rfl, Nat.le_of_ble_eq_true rfl⟩ ?_
    refine K_if_eq (tgt := 219) dX12_isOperand_204 (by decide) (fun c12 => ?_) (fun c12 => ?_)
    · refine K_iconst (v := 0) dX12_isOperand_219 (by decide) ?_
      exact K_zret dX12_isOperand_220 hQ rfl rfl (Nat.le_of_ble_eq_true rfl) (Nat.le_of_ble_eq_true rfl)
    · refine K_iload_n dX12_isOperand_207 rfl rfl ?_
      refine K_bipush (v := 8) dX12_isOperand_208 (by decide) ?_
      refine K_irem dX12_isOperand_210 (by decide) ?_
      refine K_iconst (v := 4) dX12_isOperand_211 (by decide) ?_
      refine K_icmp_ge (tgt := 219) dX12_isOperand_212 (by decide) (fun c11 => ?_) (fun c11 => ?_)
      · refine K_iconst (v := 0) dX12_isOperand_219 (by decide) ?_
        exact K_zret dX12_isOperand_220 hQ rfl rfl (Nat.le_of_ble_eq_true rfl) (Nat.le_of_ble_eq_true rfl)
      · refine K_iconst (v := 1) dX12_isOperand_215 (by decide) ?_
        refine K_goto (tgt := 220) dX12_isOperand_216 (by decide) ?_
        exact K_zret dX12_isOperand_220 hQ rfl rfl (Nat.le_of_ble_eq_true rfl) (Nat.le_of_ble_eq_true rfl)
def jb_X12_isOperand_48 (fu : Nat) (E : Ev) (a0 : Nat) (x2 : Int32) (S : St) : Option (Int32 × St) :=
  if x2 < 0 then (
    some (0, S)
  ) else (
    if (S.1 a0 18) ≤ x2 then (
      some (0, S)
    ) else (
      some (1, S)
    )
  )
set_option maxRecDepth 100000 in
theorem kj_X12_isOperand_48 {X : Cx} {E : Ev} {t : (Int32 × St)} {a0 : Nat} (hQ : EndR mX12_isOperand X (PoI E t)) (hE : WE E) (fu : Nat) (ha0 : E.1 a0 = some (0, 10, 0)) (x2 : Int32) (S : St) : K mX12_isOperand X E 48 [(0, .ref a0), (2, .int x2)] [] S 0 0 (jb_X12_isOperand_48 fu E a0 x2 S) t := by
  unfold jb_X12_isOperand_48
  refine K_iload_n dX12_isOperand_48 rfl rfl ?_
  refine K_if_lt (tgt := 64) dX12_isOperand_49 (by decide) (fun c34 => ?_) (fun c34 => ?_)
  · refine K_iconst (v := 0) dX12_isOperand_64 (by decide) ?_
    exact K_zret dX12_isOperand_65 hQ rfl rfl (Nat.le_of_ble_eq_true rfl) (Nat.le_of_ble_eq_true rfl)
  · refine K_iload_n dX12_isOperand_52 rfl rfl ?_
    refine K_aload_n dX12_isOperand_53 rfl rfl ?_
    refine K_getI dX12_isOperand_54 f_X12_162_10 ha0 rfl ?_
    refine K_icmp_ge (tgt := 64) dX12_isOperand_57 (by decide) (fun c33 => ?_) (fun c33 => ?_)
    · refine K_iconst (v := 0) dX12_isOperand_64 (by decide) ?_
      exact K_zret dX12_isOperand_65 hQ rfl rfl (Nat.le_of_ble_eq_true rfl) (Nat.le_of_ble_eq_true rfl)
    · refine K_iconst (v := 1) dX12_isOperand_60 (by decide) ?_
      refine K_goto (tgt := 65) dX12_isOperand_61 (by decide) ?_
      exact K_zret dX12_isOperand_65 hQ rfl rfl (Nat.le_of_ble_eq_true rfl) (Nat.le_of_ble_eq_true rfl)
def jb_X12_isOperand_42 (fu : Nat) (E : Ev) (a0 : Nat) (x1 : Int32) (x2 : Int32) (S : St) : Option (Int32 × St) :=
  if x1 = 21 then (
    jb_X12_isOperand_48 fu E a0 x2 S
  ) else (
    (sp_X12_isJump fu E S x1).bind fun u3 =>
    if u3.1 = 0 then (
      if x1 = 32 then (
        jb_X12_isOperand_103 fu E a0 x2 u3.2
      ) else (
        if x1 = 33 then (
          jb_X12_isOperand_103 fu E a0 x2 u3.2
        ) else (
          if x1 = 34 then (
            (sp_X12_isClass fu E u3.2 a0 x2).bind fun u25 =>
            if isB u25.1 = true then some (u25.1, u25.2) else none
          ) else (
            if x1 < 35 then (
              jb_X12_isOperand_193 fu E a0 x1 x2 u3.2
            ) else (
              if 37 < x1 then (
                jb_X12_isOperand_193 fu E a0 x1 x2 u3.2
              ) else (
                if x2 < 0 then (
                  some (0, u3.2)
                ) else (
                  if (u3.2.1 a0 7) ≤ x2 then (
                    some (0, u3.2)
                  ) else (
                    if inb x2 30 = true then
                      (
                      if x1 = 35 then (
                        if (u3.2.2.1 (E.2 a0 9) x2.toNatClampNeg) = 2 then (
                          some (1, u3.2)
                        ) else (
                          some (0, u3.2)
                        )
                      ) else (
                        if x1 = 36 then (
                          if (u3.2.2.1 (E.2 a0 9) x2.toNatClampNeg) = 0 then (
                            some (1, u3.2)
                          ) else (
                            some (0, u3.2)
                          )
                        ) else (
                          if (u3.2.2.1 (E.2 a0 9) x2.toNatClampNeg) = 1 then (
                            some (1, u3.2)
                          ) else (
                            some (0, u3.2)
                          )
                        )
                      )
                      )
                    else none
                  )
                )
              )
            )
          )
        )
      )
    ) else (
      if x2 < 0 then (
        some (0, u3.2)
      ) else (
        if (u3.2.1 a0 19) ≤ x2 then (
          some (0, u3.2)
        ) else (
          some (1, u3.2)
        )
      )
    )
  )
set_option maxRecDepth 100000 in
theorem kj_X12_isOperand_42 {X : Cx} {E : Ev} {t : (Int32 × St)} {a0 : Nat} (hQ : EndR mX12_isOperand X (PoI E t)) (hE : WE E) (fu : Nat) (ha0 : E.1 a0 = some (0, 10, 0)) (x1 : Int32) (x2 : Int32) (S : St) : K mX12_isOperand X E 42 [(0, .ref a0), (1, .int x1), (2, .int x2)] [] S 0 0 (jb_X12_isOperand_42 fu E a0 x1 x2 S) t := by
  unfold jb_X12_isOperand_42
  refine K_iload_n dX12_isOperand_42 rfl rfl ?_
  refine K_bipush (v := 21) dX12_isOperand_43 (by decide) ?_
  refine K_icmp_ne (tgt := 66) dX12_isOperand_45 (by decide) (fun c35 => ?_) (fun c35 => ?_)
  · refine K_iload_n dX12_isOperand_66 rfl rfl ?_
    refine K_bind (fun u3 hu3 => ?_)
    refine K_callSI (As := [.int x1]) (k_X12_isJump fu hE hu3) dX12_isOperand_67 s_X12_192 rfl rfl (Nat.le_of_ble_eq_true rfl) ⟨Nat.le_of_ble_eq_true rfl, Nat.le_of_ble_eq_true rfl, Nat.le_of_ble_eq_true rfl, Nat.le_of_ble_eq_true rfl⟩ ?_
    refine K_if_eq (tgt := 91) dX12_isOperand_70 (by decide) (fun c32 => ?_) (fun c32 => ?_)
    · refine K_iload_n dX12_isOperand_91 rfl rfl ?_
      refine K_bipush (v := 32) dX12_isOperand_92 (by decide) ?_
      refine K_icmp_eq (tgt := 103) dX12_isOperand_94 (by decide) (fun c29 => ?_) (fun c29 => ?_)
      · refine K.keep [0, 2] ?_
        exact kj_X12_isOperand_103 hQ hE fu ha0 x2 u3.2
      · refine K_iload_n dX12_isOperand_97 rfl rfl ?_
        refine K_bipush (v := 33) dX12_isOperand_98 (by decide) ?_
        refine K_icmp_ne (tgt := 121) dX12_isOperand_100 (by decide) (fun c28 => ?_) (fun c28 => ?_)
        · refine K_iload_n dX12_isOperand_121 rfl rfl ?_
          refine K_bipush (v := 34) dX12_isOperand_122 (by decide) ?_
          refine K_icmp_ne (tgt := 133) dX12_isOperand_124 (by decide) (fun c27 => ?_) (fun c27 => ?_)
          · refine K_iload_n dX12_isOperand_133 rfl rfl ?_
            refine K_bipush (v := 35) dX12_isOperand_134 (by decide) ?_
            refine K_icmp_lt (tgt := 193) dX12_isOperand_136 (by decide) (fun c24 => ?_) (fun c24 => ?_)
            · refine K.keep [0, 1, 2] ?_
              exact kj_X12_isOperand_193 hQ hE fu ha0 x1 x2 u3.2
            · refine K_iload_n dX12_isOperand_139 rfl rfl ?_
              refine K_bipush (v := 37) dX12_isOperand_140 (by decide) ?_
              refine K_icmp_gt (tgt := 193) dX12_isOperand_142 (by decide) (fun c23 => ?_) (fun c23 => ?_)
              · refine K.keep [0, 1, 2] ?_
                exact kj_X12_isOperand_193 hQ hE fu ha0 x1 x2 u3.2
              · refine K_iload_n dX12_isOperand_145 rfl rfl ?_
                refine K_if_lt (tgt := 191) dX12_isOperand_146 (by decide) (fun c22 => ?_) (fun c22 => ?_)
                · refine K_iconst (v := 0) dX12_isOperand_191 (by decide) ?_
                  exact K_zret dX12_isOperand_192 hQ rfl rfl (Nat.le_of_ble_eq_true rfl) (Nat.le_of_ble_eq_true rfl)
                · refine K_iload_n dX12_isOperand_149 rfl rfl ?_
                  refine K_aload_n dX12_isOperand_150 rfl rfl ?_
                  refine K_getI dX12_isOperand_151 f_X12_149_10 ha0 rfl ?_
                  refine K_icmp_ge (tgt := 191) dX12_isOperand_154 (by decide) (fun c21 => ?_) (fun c21 => ?_)
                  · refine K_iconst (v := 0) dX12_isOperand_191 (by decide) ?_
                    exact K_zret dX12_isOperand_192 hQ rfl rfl (Nat.le_of_ble_eq_true rfl) (Nat.le_of_ble_eq_true rfl)
                  · refine K_aload_n dX12_isOperand_157 rfl rfl ?_
                    refine K_getC hE dX12_isOperand_158 f_X12_30_10 ha0 rfl rfl (fun h14 => ?_)
                    refine K_iload_n dX12_isOperand_161 rfl rfl ?_
                    refine K_chk (fun h15 => ?_)
                    refine K_iald dX12_isOperand_162 h14 h15 ?_
                    refine K_iload_n dX12_isOperand_163 rfl rfl ?_
                    refine K_bipush (v := 35) dX12_isOperand_164 (by decide) ?_
                    refine K_icmp_ne (tgt := 173) dX12_isOperand_166 (by decide) (fun c20 => ?_) (fun c20 => ?_)
                    · refine K_iload_n dX12_isOperand_173 rfl rfl ?_
                      refine K_bipush (v := 36) dX12_isOperand_174 (by decide) ?_
                      refine K_icmp_ne (tgt := 183) dX12_isOperand_176 (by decide) (fun c18 => ?_) (fun c18 => ?_)
                      · refine K_iconst (v := 1) dX12_isOperand_183 (by decide) ?_
                        refine K_icmp_ne (tgt := 191) dX12_isOperand_184 (by decide) (fun c16 => ?_) (fun c16 => ?_)
                        · refine K_iconst (v := 0) dX12_isOperand_191 (by decide) ?_
                          exact K_zret dX12_isOperand_192 hQ rfl rfl (Nat.le_of_ble_eq_true rfl) (Nat.le_of_ble_eq_true rfl)
                        · refine K_iconst (v := 1) dX12_isOperand_187 (by decide) ?_
                          refine K_goto (tgt := 192) dX12_isOperand_188 (by decide) ?_
                          exact K_zret dX12_isOperand_192 hQ rfl rfl (Nat.le_of_ble_eq_true rfl) (Nat.le_of_ble_eq_true rfl)
                      · refine K_iconst (v := 0) dX12_isOperand_179 (by decide) ?_
                        refine K_goto (tgt := 184) dX12_isOperand_180 (by decide) ?_
                        refine K_icmp_ne (tgt := 191) dX12_isOperand_184 (by decide) (fun c17 => ?_) (fun c17 => ?_)
                        · refine K_iconst (v := 0) dX12_isOperand_191 (by decide) ?_
                          exact K_zret dX12_isOperand_192 hQ rfl rfl (Nat.le_of_ble_eq_true rfl) (Nat.le_of_ble_eq_true rfl)
                        · refine K_iconst (v := 1) dX12_isOperand_187 (by decide) ?_
                          refine K_goto (tgt := 192) dX12_isOperand_188 (by decide) ?_
                          exact K_zret dX12_isOperand_192 hQ rfl rfl (Nat.le_of_ble_eq_true rfl) (Nat.le_of_ble_eq_true rfl)
                    · refine K_iconst (v := 2) dX12_isOperand_169 (by decide) ?_
                      refine K_goto (tgt := 184) dX12_isOperand_170 (by decide) ?_
                      refine K_icmp_ne (tgt := 191) dX12_isOperand_184 (by decide) (fun c19 => ?_) (fun c19 => ?_)
                      · refine K_iconst (v := 0) dX12_isOperand_191 (by decide) ?_
                        exact K_zret dX12_isOperand_192 hQ rfl rfl (Nat.le_of_ble_eq_true rfl) (Nat.le_of_ble_eq_true rfl)
                      · refine K_iconst (v := 1) dX12_isOperand_187 (by decide) ?_
                        refine K_goto (tgt := 192) dX12_isOperand_188 (by decide) ?_
                        exact K_zret dX12_isOperand_192 hQ rfl rfl (Nat.le_of_ble_eq_true rfl) (Nat.le_of_ble_eq_true rfl)
          · refine K_aload_n dX12_isOperand_127 rfl rfl ?_
            refine K_iload_n dX12_isOperand_128 rfl rfl ?_
            refine K_bind (fun u25 hu25 => ?_)
            refine K_callVI (As := [.int x2]) (k_X12_isClass fu hE ha0 hu25) dX12_isOperand_129 v_X12_109 ha0 rfl rfl rfl rfl (Nat.le_of_ble_eq_true rfl) ⟨Nat.le_of_ble_eq_true rfl, Nat.le_of_ble_eq_true rfl, Nat.le_of_ble_eq_true rfl, Nat.le_of_ble_eq_true rfl⟩ ?_
            refine K_chk (fun h26 => ?_)
            exact K_zret dX12_isOperand_132 hQ rfl h26 (Nat.le_of_ble_eq_true rfl) (Nat.le_of_ble_eq_true rfl)
        · refine K.keep [0, 2] ?_
          exact kj_X12_isOperand_103 hQ hE fu ha0 x2 u3.2
    · refine K_iload_n dX12_isOperand_73 rfl rfl ?_
      refine K_if_lt (tgt := 89) dX12_isOperand_74 (by decide) (fun c31 => ?_) (fun c31 => ?_)
      · refine K_iconst (v := 0) dX12_isOperand_89 (by decide) ?_
        exact K_zret dX12_isOperand_90 hQ rfl rfl (Nat.le_of_ble_eq_true rfl) (Nat.le_of_ble_eq_true rfl)
      · refine K_iload_n dX12_isOperand_77 rfl rfl ?_
        refine K_aload_n dX12_isOperand_78 rfl rfl ?_
        refine K_getI dX12_isOperand_79 f_X12_165_10 ha0 rfl ?_
        refine K_icmp_ge (tgt := 89) dX12_isOperand_82 (by decide) (fun c30 => ?_) (fun c30 => ?_)
        · refine K_iconst (v := 0) dX12_isOperand_89 (by decide) ?_
          exact K_zret dX12_isOperand_90 hQ rfl rfl (Nat.le_of_ble_eq_true rfl) (Nat.le_of_ble_eq_true rfl)
        · refine K_iconst (v := 1) dX12_isOperand_85 (by decide) ?_
          refine K_goto (tgt := 90) dX12_isOperand_86 (by decide) ?_
          exact K_zret dX12_isOperand_90 hQ rfl rfl (Nat.le_of_ble_eq_true rfl) (Nat.le_of_ble_eq_true rfl)
  · refine K.keep [0, 2] ?_
    exact kj_X12_isOperand_48 hQ hE fu ha0 x2 S
def sp_X12_isOperand (fu : Nat) (E : Ev) (S : St) (a0 : Nat) (x1 : Int32) (x2 : Int32) : Option (Int32 × St) :=
  if x1 = 5 then (
    jb_X12_isOperand_11 fu E a0 x2 S
  ) else (
    if x1 = 8 then (
      jb_X12_isOperand_11 fu E a0 x2 S
    ) else (
      if x1 < 4 then (
        jb_X12_isOperand_42 fu E a0 x1 x2 S
      ) else (
        if x1 ≤ 9 then (
          jb_X12_isOperand_48 fu E a0 x2 S
        ) else (
          jb_X12_isOperand_42 fu E a0 x1 x2 S
        )
      )
    )
  )
set_option maxRecDepth 100000 in
theorem k_X12_isOperand {l : Launch} (fu : Nat) {E : Ev} (hE : WE E) {a0 : Nat} (ha0 : E.1 a0 = some (0, 10, 0)) {x1 : Int32} {x2 : Int32} {S : St} {t : (Int32 × St)} (h : sp_X12_isOperand fu E S a0 x1 x2 = some t) : Cn l mX12_isOperand [.ref a0, .int x1, .int x2] (hp E S) (PoI E t) := by
  refine Cn.of (by decide) rfl (Nat.le_of_ble_eq_true rfl) (fun X _ _ hQ => ?_)
  refine (?_ : K mX12_isOperand X E 0 [(0, .ref a0), (1, .int x1), (2, .int x2)] [] S 0 0 (sp_X12_isOperand fu E S a0 x1 x2) t) h
  unfold sp_X12_isOperand
  refine K_iload_n dX12_isOperand_0 rfl rfl ?_
  refine K_iconst (v := 5) dX12_isOperand_1 (by decide) ?_
  refine K_icmp_eq (tgt := 11) dX12_isOperand_2 (by decide) (fun c39 => ?_) (fun c39 => ?_)
  · refine K.keep [0, 2] ?_
    exact kj_X12_isOperand_11 hQ hE fu ha0 x2 S
  · refine K_iload_n dX12_isOperand_5 rfl rfl ?_
    refine K_bipush (v := 8) dX12_isOperand_6 (by decide) ?_
    refine K_icmp_ne (tgt := 31) dX12_isOperand_8 (by decide) (fun c38 => ?_) (fun c38 => ?_)
    · refine K_iload_n dX12_isOperand_31 rfl rfl ?_
      refine K_iconst (v := 4) dX12_isOperand_32 (by decide) ?_
      refine K_icmp_lt (tgt := 42) dX12_isOperand_33 (by decide) (fun c37 => ?_) (fun c37 => ?_)
      · refine K.keep [0, 1, 2] ?_
        exact kj_X12_isOperand_42 hQ hE fu ha0 x1 x2 S
      · refine K_iload_n dX12_isOperand_36 rfl rfl ?_
        refine K_bipush (v := 9) dX12_isOperand_37 (by decide) ?_
        refine K_icmp_le (tgt := 48) dX12_isOperand_39 (by decide) (fun c36 => ?_) (fun c36 => ?_)
        · refine K.keep [0, 2] ?_
          exact kj_X12_isOperand_48 hQ hE fu ha0 x2 S
        · refine K.keep [0, 1, 2] ?_
          exact kj_X12_isOperand_42 hQ hE fu ha0 x1 x2 S
    · refine K.keep [0, 2] ?_
      exact kj_X12_isOperand_11 hQ hE fu ha0 x2 S
def bd_X12_isHandler_67 (fu : Nat) (E : Ev) (a0 : Nat) (rc67 : Int32 → Int32 → Int32 → St → Option (Int32 × St)) (x1 : Int32) (x2 : Int32) (x3 : Int32) (S : St) : Option (Int32 × St) :=
  if x1 ≤ x3 then (
    if isB x2 = true then some (x2, S) else none
  ) else (
    if inb x1 10 = true then
      (
      if inb x3 10 = true then
        (
        if (S.2.1 (E.2 a0 24) x1.toNatClampNeg) ≤ (S.2.1 (E.2 a0 23) x3.toNatClampNeg) then (
          bnd (x2 &&& 1) fun v8 =>
          rc67 x1 v8 (x3 + 1) S
        ) else (
          if inb x3 10 = true then
            (
            if inb x1 10 = true then
              (
              if (S.2.1 (E.2 a0 24) x3.toNatClampNeg) ≤ (S.2.1 (E.2 a0 23) x1.toNatClampNeg) then (
                bnd (x2 &&& 1) fun v13 =>
                rc67 x1 v13 (x3 + 1) S
              ) else (
                if inb x1 10 = true then
                  (
                  if inb x3 10 = true then
                    (
                    if (S.2.1 (E.2 a0 23) x3.toNatClampNeg) < (S.2.1 (E.2 a0 23) x1.toNatClampNeg) then (
                      bnd (x2 &&& 0) fun v18 =>
                      rc67 x1 v18 (x3 + 1) S
                    ) else (
                      if inb x3 10 = true then
                        (
                        if inb x1 10 = true then
                          (
                          if (S.2.1 (E.2 a0 24) x1.toNatClampNeg) < (S.2.1 (E.2 a0 24) x3.toNatClampNeg) then (
                            bnd (x2 &&& 0) fun v23 =>
                            rc67 x1 v23 (x3 + 1) S
                          ) else (
                            bnd (x2 &&& 1) fun v24 =>
                            rc67 x1 v24 (x3 + 1) S
                          )
                          )
                        else none
                        )
                      else none
                    )
                    )
                  else none
                  )
                else none
              )
              )
            else none
            )
          else none
        )
        )
      else none
      )
    else none
  )
def lp_X12_isHandler_67 (fu : Nat) (E : Ev) (a0 : Nat) : Nat → Int32 → Int32 → Int32 → St → Option (Int32 × St)
  | 0, _, _, _, _ => none
  | f + 1, x1, x2, x3, S => bd_X12_isHandler_67 fu E a0 (lp_X12_isHandler_67 fu E a0 f) x1 x2 x3 S
set_option maxRecDepth 100000 in
theorem kl_X12_isHandler_67 {X : Cx} {E : Ev} {t : (Int32 × St)} {a0 : Nat} (hQ : EndR mX12_isHandler X (PoI E t)) (hE : WE E) (fu : Nat) (ha0 : E.1 a0 = some (0, 10, 0)) : ∀ (f : Nat) (x1 : Int32) (x2 : Int32) (x3 : Int32) (S : St), K mX12_isHandler X E 67 [(0, .ref a0), (1, .int x1), (2, .int x2), (3, .int x3)] [] S 0 0 (lp_X12_isHandler_67 fu E a0 f x1 x2 x3 S) t := by
  intro f
  induction f with
  | zero => intro x1 x2 x3 S; exact K_none
  | succ f hrc67 =>
    intro x1 x2 x3 S
    show K _ _ _ _ _ _ _ _ _ (bd_X12_isHandler_67 fu E a0 (lp_X12_isHandler_67 fu E a0 f) x1 x2 x3 S) t
    unfold bd_X12_isHandler_67
    refine K_iload_n dX12_isHandler_67 rfl rfl ?_
    refine K_iload_n dX12_isHandler_68 rfl rfl ?_
    refine K_icmp_ge (tgt := 146) dX12_isHandler_69 (by decide) (fun c29 => ?_) (fun c29 => ?_)
    · refine K_iload_n dX12_isHandler_146 rfl rfl ?_
      refine K_chk (fun h3 => ?_)
      exact K_zret dX12_isHandler_147 hQ rfl h3 (Nat.le_of_ble_eq_true rfl) (Nat.le_of_ble_eq_true rfl)
    · refine K_iload_n dX12_isHandler_72 rfl rfl ?_
      refine K_aload_n dX12_isHandler_73 rfl rfl ?_
      refine K_getC hE dX12_isHandler_74 f_X12_54_10 ha0 rfl rfl (fun h4 => ?_)
      refine K_iload_n dX12_isHandler_77 rfl rfl ?_
      refine K_chk (fun h5 => ?_)
      refine K_iald dX12_isHandler_78 h4 h5 ?_
      refine K_aload_n dX12_isHandler_79 rfl rfl ?_
      refine K_getC hE dX12_isHandler_80 f_X12_51_10 ha0 rfl rfl (fun h6 => ?_)
      refine K_iload_n dX12_isHandler_83 rfl rfl ?_
      refine K_chk (fun h7 => ?_)
      refine K_iald dX12_isHandler_84 h6 h7 ?_
      refine K_icmp_le (tgt := 133) dX12_isHandler_85 (by decide) (fun c28 => ?_) (fun c28 => ?_)
      · refine K_iconst (v := 1) dX12_isHandler_133 (by decide) ?_
        refine K_goto (tgt := 138) dX12_isHandler_134 (by decide) ?_
        refine K_iand dX12_isHandler_138 ?_
        refine K_nmI (fun v8 => ?_)
        refine K_istore_n (ls' := [(0, _), (1, _), (2, _), (3, _)]) dX12_isHandler_139 rfl (by decide) rfl ?_
        refine K_iinc (v := (x3 + 1)) (ls' := [(0, _), (1, _), (2, _), (3, _)]) dX12_isHandler_140 rfl rfl (by decide) rfl ?_
        refine K_goto (tgt := 67) dX12_isHandler_143 (by decide) ?_
        refine K.keep [0, 1, 2, 3] ?_
        exact hrc67 x1 v8 (x3 + 1) S
      · refine K_aload_n dX12_isHandler_88 rfl rfl ?_
        refine K_getC hE dX12_isHandler_89 f_X12_54_10 ha0 rfl rfl (fun h9 => ?_)
        refine K_iload_n dX12_isHandler_92 rfl rfl ?_
        refine K_chk (fun h10 => ?_)
        refine K_iald dX12_isHandler_93 h9 h10 ?_
        refine K_aload_n dX12_isHandler_94 rfl rfl ?_
        refine K_getC hE dX12_isHandler_95 f_X12_51_10 ha0 rfl rfl (fun h11 => ?_)
        refine K_iload_n dX12_isHandler_98 rfl rfl ?_
        refine K_chk (fun h12 => ?_)
        refine K_iald dX12_isHandler_99 h11 h12 ?_
        refine K_icmp_le (tgt := 133) dX12_isHandler_100 (by decide) (fun c27 => ?_) (fun c27 => ?_)
        · refine K_iconst (v := 1) dX12_isHandler_133 (by decide) ?_
          refine K_goto (tgt := 138) dX12_isHandler_134 (by decide) ?_
          refine K_iand dX12_isHandler_138 ?_
          refine K_nmI (fun v13 => ?_)
          refine K_istore_n (ls' := [(0, _), (1, _), (2, _), (3, _)]) dX12_isHandler_139 rfl (by decide) rfl ?_
          refine K_iinc (v := (x3 + 1)) (ls' := [(0, _), (1, _), (2, _), (3, _)]) dX12_isHandler_140 rfl rfl (by decide) rfl ?_
          refine K_goto (tgt := 67) dX12_isHandler_143 (by decide) ?_
          refine K.keep [0, 1, 2, 3] ?_
          exact hrc67 x1 v13 (x3 + 1) S
        · refine K_aload_n dX12_isHandler_103 rfl rfl ?_
          refine K_getC hE dX12_isHandler_104 f_X12_51_10 ha0 rfl rfl (fun h14 => ?_)
          refine K_iload_n dX12_isHandler_107 rfl rfl ?_
          refine K_chk (fun h15 => ?_)
          refine K_iald dX12_isHandler_108 h14 h15 ?_
          refine K_aload_n dX12_isHandler_109 rfl rfl ?_
          refine K_getC hE dX12_isHandler_110 f_X12_51_10 ha0 rfl rfl (fun h16 => ?_)
          refine K_iload_n dX12_isHandler_113 rfl rfl ?_
          refine K_chk (fun h17 => ?_)
          refine K_iald dX12_isHandler_114 h16 h17 ?_
          refine K_icmp_gt (tgt := 137) dX12_isHandler_115 (by decide) (fun c26 => ?_) (fun c26 => ?_)
          · refine K_iconst (v := 0) dX12_isHandler_137 (by decide) ?_
            refine K_iand dX12_isHandler_138 ?_
            refine K_nmI (fun v18 => ?_)
            refine K_istore_n (ls' := [(0, _), (1, _), (2, _), (3, _)]) dX12_isHandler_139 rfl (by decide) rfl ?_
            refine K_iinc (v := (x3 + 1)) (ls' := [(0, _), (1, _), (2, _), (3, _)]) dX12_isHandler_140 rfl rfl (by decide) rfl ?_
            refine K_goto (tgt := 67) dX12_isHandler_143 (by decide) ?_
            refine K.keep [0, 1, 2, 3] ?_
            exact hrc67 x1 v18 (x3 + 1) S
          · refine K_aload_n dX12_isHandler_118 rfl rfl ?_
            refine K_getC hE dX12_isHandler_119 f_X12_54_10 ha0 rfl rfl (fun h19 => ?_)
            refine K_iload_n dX12_isHandler_122 rfl rfl ?_
            refine K_chk (fun h20 => ?_)
            refine K_iald dX12_isHandler_123 h19 h20 ?_
            refine K_aload_n dX12_isHandler_124 rfl rfl ?_
            refine K_getC hE dX12_isHandler_125 f_X12_54_10 ha0 rfl rfl (fun h21 => ?_)
            refine K_iload_n dX12_isHandler_128 rfl rfl ?_
            refine K_chk (fun h22 => ?_)
            refine K_iald dX12_isHandler_129 h21 h22 ?_
            refine K_icmp_gt (tgt := 137) dX12_isHandler_130 (by decide) (fun c25 => ?_) (fun c25 => ?_)
            · refine K_iconst (v := 0) dX12_isHandler_137 (by decide) ?_
              refine K_iand dX12_isHandler_138 ?_
              refine K_nmI (fun v23 => ?_)
              refine K_istore_n (ls' := [(0, _), (1, _), (2, _), (3, _)]) dX12_isHandler_139 rfl (by decide) rfl ?_
              refine K_iinc (v := (x3 + 1)) (ls' := [(0, _), (1, _), (2, _), (3, _)]) dX12_isHandler_140 rfl rfl (by decide) rfl ?_
              refine K_goto (tgt := 67) dX12_isHandler_143 (by decide) ?_
              refine K.keep [0, 1, 2, 3] ?_
              exact hrc67 x1 v23 (x3 + 1) S
            · refine K_iconst (v := 1) dX12_isHandler_133 (by decide) ?_
              refine K_goto (tgt := 138) dX12_isHandler_134 (by decide) ?_
              refine K_iand dX12_isHandler_138 ?_
              refine K_nmI (fun v24 => ?_)
              refine K_istore_n (ls' := [(0, _), (1, _), (2, _), (3, _)]) dX12_isHandler_139 rfl (by decide) rfl ?_
              refine K_iinc (v := (x3 + 1)) (ls' := [(0, _), (1, _), (2, _), (3, _)]) dX12_isHandler_140 rfl rfl (by decide) rfl ?_
              refine K_goto (tgt := 67) dX12_isHandler_143 (by decide) ?_
              refine K.keep [0, 1, 2, 3] ?_
              exact hrc67 x1 v24 (x3 + 1) S
def sp_X12_isHandler (fu : Nat) (E : Ev) (S : St) (a0 : Nat) (x1 : Int32) : Option (Int32 × St) :=
  if inb x1 10 = true then
    (
    if (S.2.1 (E.2 a0 23) x1.toNatClampNeg) < 0 then (
      lp_X12_isHandler_67 fu E a0 fu x1 0 0 S
    ) else (
      if inb x1 10 = true then
        (
        if inb x1 10 = true then
          (
          if (S.2.1 (E.2 a0 24) x1.toNatClampNeg) ≤ (S.2.1 (E.2 a0 23) x1.toNatClampNeg) then (
            lp_X12_isHandler_67 fu E a0 fu x1 0 0 S
          ) else (
            if inb x1 10 = true then
              (
              if (S.1 a0 19) < (S.2.1 (E.2 a0 24) x1.toNatClampNeg) then (
                lp_X12_isHandler_67 fu E a0 fu x1 0 0 S
              ) else (
                if inb x1 10 = true then
                  (
                  if (S.2.1 (E.2 a0 25) x1.toNatClampNeg) < 0 then (
                    lp_X12_isHandler_67 fu E a0 fu x1 0 0 S
                  ) else (
                    if inb x1 10 = true then
                      (
                      if (S.1 a0 19) ≤ (S.2.1 (E.2 a0 25) x1.toNatClampNeg) then (
                        lp_X12_isHandler_67 fu E a0 fu x1 0 0 S
                      ) else (
                        lp_X12_isHandler_67 fu E a0 fu x1 1 0 S
                      )
                      )
                    else none
                  )
                  )
                else none
              )
              )
            else none
          )
          )
        else none
        )
      else none
    )
    )
  else none
set_option maxRecDepth 100000 in
theorem k_X12_isHandler {l : Launch} (fu : Nat) {E : Ev} (hE : WE E) {a0 : Nat} (ha0 : E.1 a0 = some (0, 10, 0)) {x1 : Int32} {S : St} {t : (Int32 × St)} (h : sp_X12_isHandler fu E S a0 x1 = some t) : Cn l mX12_isHandler [.ref a0, .int x1] (hp E S) (PoI E t) := by
  refine Cn.of (by decide) rfl (Nat.le_of_ble_eq_true rfl) (fun X _ _ hQ => ?_)
  refine (?_ : K mX12_isHandler X E 0 [(0, .ref a0), (1, .int x1)] [] S 0 0 (sp_X12_isHandler fu E S a0 x1) t) h
  unfold sp_X12_isHandler
  refine K_aload_n dX12_isHandler_0 rfl rfl ?_
  refine K_getC hE dX12_isHandler_1 f_X12_51_10 ha0 rfl rfl (fun h1 => ?_)
  refine K_iload_n dX12_isHandler_4 rfl rfl ?_
  refine K_chk (fun h2 => ?_)
  refine K_iald dX12_isHandler_5 h1 h2 ?_
  refine K_if_lt (tgt := 63) dX12_isHandler_6 (by decide) (fun c44 => ?_) (fun c44 => ?_)
  · refine K_iconst (v := 0) dX12_isHandler_63 (by decide) ?_
    refine K_istore_n (ls' := [(0, _), (1, _), (2, _)]) dX12_isHandler_64 rfl (by decide) rfl ?_
    refine K_iconst (v := 0) dX12_isHandler_65 (by decide) ?_
    refine K_istore_n (ls' := [(0, _), (1, _), (2, _), (3, _)]) dX12_isHandler_66 rfl (by decide) rfl ?_
    refine K.keep [0, 1, 2, 3] ?_
    exact kl_X12_isHandler_67 hQ hE fu ha0 fu x1 0 0 S
  · refine K_aload_n dX12_isHandler_9 rfl rfl ?_
    refine K_getC hE dX12_isHandler_10 f_X12_51_10 ha0 rfl rfl (fun h30 => ?_)
    refine K_iload_n dX12_isHandler_13 rfl rfl ?_
    refine K_chk (fun h31 => ?_)
    refine K_iald dX12_isHandler_14 h30 h31 ?_
    refine K_aload_n dX12_isHandler_15 rfl rfl ?_
    refine K_getC hE dX12_isHandler_16 f_X12_54_10 ha0 rfl rfl (fun h32 => ?_)
    refine K_iload_n dX12_isHandler_19 rfl rfl ?_
    refine K_chk (fun h33 => ?_)
    refine K_iald dX12_isHandler_20 h32 h33 ?_
    refine K_icmp_ge (tgt := 63) dX12_isHandler_21 (by decide) (fun c43 => ?_) (fun c43 => ?_)
    · refine K_iconst (v := 0) dX12_isHandler_63 (by decide) ?_
      refine K_istore_n (ls' := [(0, _), (1, _), (2, _)]) dX12_isHandler_64 rfl (by decide) rfl ?_
      refine K_iconst (v := 0) dX12_isHandler_65 (by decide) ?_
      refine K_istore_n (ls' := [(0, _), (1, _), (2, _), (3, _)]) dX12_isHandler_66 rfl (by decide) rfl ?_
      refine K.keep [0, 1, 2, 3] ?_
      exact kl_X12_isHandler_67 hQ hE fu ha0 fu x1 0 0 S
    · refine K_aload_n dX12_isHandler_24 rfl rfl ?_
      refine K_getC hE dX12_isHandler_25 f_X12_54_10 ha0 rfl rfl (fun h34 => ?_)
      refine K_iload_n dX12_isHandler_28 rfl rfl ?_
      refine K_chk (fun h35 => ?_)
      refine K_iald dX12_isHandler_29 h34 h35 ?_
      refine K_aload_n dX12_isHandler_30 rfl rfl ?_
      refine K_getI dX12_isHandler_31 f_X12_165_10 ha0 rfl ?_
      refine K_icmp_gt (tgt := 63) dX12_isHandler_34 (by decide) (fun c42 => ?_) (fun c42 => ?_)
      · refine K_iconst (v := 0) dX12_isHandler_63 (by decide) ?_
        refine K_istore_n (ls' := [(0, _), (1, _), (2, _)]) dX12_isHandler_64 rfl (by decide) rfl ?_
        refine K_iconst (v := 0) dX12_isHandler_65 (by decide) ?_
        refine K_istore_n (ls' := [(0, _), (1, _), (2, _), (3, _)]) dX12_isHandler_66 rfl (by decide) rfl ?_
        refine K.keep [0, 1, 2, 3] ?_
        exact kl_X12_isHandler_67 hQ hE fu ha0 fu x1 0 0 S
      · refine K_aload_n dX12_isHandler_37 rfl rfl ?_
        refine K_getC hE dX12_isHandler_38 f_X12_57_10 ha0 rfl rfl (fun h36 => ?_)
        refine K_iload_n dX12_isHandler_41 rfl rfl ?_
        refine K_chk (fun h37 => ?_)
        refine K_iald dX12_isHandler_42 h36 h37 ?_
        refine K_if_lt (tgt := 63) dX12_isHandler_43 (by decide) (fun c41 => ?_) (fun c41 => ?_)
        · refine K_iconst (v := 0) dX12_isHandler_63 (by decide) ?_
          refine K_istore_n (ls' := [(0, _), (1, _), (2, _)]) dX12_isHandler_64 rfl (by decide) rfl ?_
          refine K_iconst (v := 0) dX12_isHandler_65 (by decide) ?_
          refine K_istore_n (ls' := [(0, _), (1, _), (2, _), (3, _)]) dX12_isHandler_66 rfl (by decide) rfl ?_
          refine K.keep [0, 1, 2, 3] ?_
          exact kl_X12_isHandler_67 hQ hE fu ha0 fu x1 0 0 S
        · refine K_aload_n dX12_isHandler_46 rfl rfl ?_
          refine K_getC hE dX12_isHandler_47 f_X12_57_10 ha0 rfl rfl (fun h38 => ?_)
          refine K_iload_n dX12_isHandler_50 rfl rfl ?_
          refine K_chk (fun h39 => ?_)
          refine K_iald dX12_isHandler_51 h38 h39 ?_
          refine K_aload_n dX12_isHandler_52 rfl rfl ?_
          refine K_getI dX12_isHandler_53 f_X12_165_10 ha0 rfl ?_
          refine K_icmp_ge (tgt := 63) dX12_isHandler_56 (by decide) (fun c40 => ?_) (fun c40 => ?_)
          · refine K_iconst (v := 0) dX12_isHandler_63 (by decide) ?_
            refine K_istore_n (ls' := [(0, _), (1, _), (2, _)]) dX12_isHandler_64 rfl (by decide) rfl ?_
            refine K_iconst (v := 0) dX12_isHandler_65 (by decide) ?_
            refine K_istore_n (ls' := [(0, _), (1, _), (2, _), (3, _)]) dX12_isHandler_66 rfl (by decide) rfl ?_
            refine K.keep [0, 1, 2, 3] ?_
            exact kl_X12_isHandler_67 hQ hE fu ha0 fu x1 0 0 S
          · refine K_iconst (v := 1) dX12_isHandler_59 (by decide) ?_
            refine K_goto (tgt := 64) dX12_isHandler_60 (by decide) ?_
            refine K_istore_n (ls' := [(0, _), (1, _), (2, _)]) dX12_isHandler_64 rfl (by decide) rfl ?_
            refine K_iconst (v := 0) dX12_isHandler_65 (by decide) ?_
            refine K_istore_n (ls' := [(0, _), (1, _), (2, _), (3, _)]) dX12_isHandler_66 rfl (by decide) rfl ?_
            refine K.keep [0, 1, 2, 3] ?_
            exact kl_X12_isHandler_67 hQ hE fu ha0 fu x1 1 0 S
def bd_X12_examine_72 (fu : Nat) (E : Ev) (a0 : Nat) (rc72 : Int32 → St → Option St) (x1 : Int32) (S : St) : Option St :=
  if (S.1 a0 22) ≤ x1 then (
    (sp_X12_needed fu E S a0 (S.1 a0 16)).bind fun u4 =>
    if u4.1 ≤ (u4.2.1 a0 18) then (
      some u4.2
    ) else (
      (sp_X12_fail fu E u4.2 a0 11 0).bind fun u5 =>
      some u5
    )
  ) else (
    (sp_X12_isHandler fu E S a0 x1).bind fun u7 =>
    if u7.1 = 0 then (
      (sp_X12_fail fu E u7.2 a0 2 x1).bind fun u8 =>
      rc72 (x1 + 1) u8
    ) else (
      rc72 (x1 + 1) u7.2
    )
  )
def lp_X12_examine_72 (fu : Nat) (E : Ev) (a0 : Nat) : Nat → Int32 → St → Option St
  | 0, _, _ => none
  | f + 1, x1, S => bd_X12_examine_72 fu E a0 (lp_X12_examine_72 fu E a0 f) x1 S
set_option maxRecDepth 100000 in
theorem kl_X12_examine_72 {X : Cx} {E : Ev} {t : St} {a0 : Nat} (hQ : EndR mX12_examine X (PoV E t)) (hE : WE E) (fu : Nat) (ha0 : E.1 a0 = some (0, 10, 0)) : ∀ (f : Nat) (x1 : Int32) (S : St), K mX12_examine X E 72 [(0, .ref a0), (1, .int x1)] [] S 0 0 (lp_X12_examine_72 fu E a0 f x1 S) t := by
  intro f
  induction f with
  | zero => intro x1 S; exact K_none
  | succ f hrc72 =>
    intro x1 S
    show K _ _ _ _ _ _ _ _ _ (bd_X12_examine_72 fu E a0 (lp_X12_examine_72 fu E a0 f) x1 S) t
    unfold bd_X12_examine_72
    refine K_iload_n dX12_examine_72 rfl rfl ?_
    refine K_aload_n dX12_examine_73 rfl rfl ?_
    refine K_getI dX12_examine_74 f_X12_168_10 ha0 rfl ?_
    refine K_icmp_ge (tgt := 100) dX12_examine_77 (by decide) (fun c10 => ?_) (fun c10 => ?_)
    · refine K_aload_n dX12_examine_100 rfl rfl ?_
      refine K_aload_n dX12_examine_101 rfl rfl ?_
      refine K_getI dX12_examine_102 f_X12_156_10 ha0 rfl ?_
      refine K_bind (fun u4 hu4 => ?_)
      refine K_callVI (As := [.int (S.1 a0 16)]) (k_X12_needed fu hE ha0 hu4) dX12_examine_105 v_X12_174 ha0 rfl rfl rfl rfl (Nat.le_of_ble_eq_true rfl) ⟨Nat.le_of_ble_eq_true rfl, Nat.le_of_ble_eq_true rfl, Nat.le_of_ble_eq_true rfl, Nat.le_of_ble_eq_true rfl⟩ ?_
      refine K_aload_n dX12_examine_108 rfl rfl ?_
      refine K_getI dX12_examine_109 f_X12_162_10 ha0 rfl ?_
      refine K_icmp_le (tgt := 122) dX12_examine_112 (by decide) (fun c6 => ?_) (fun c6 => ?_)
      · exact K_vret dX12_examine_122 hQ rfl (Nat.le_of_ble_eq_true rfl) (Nat.le_of_ble_eq_true rfl)
      · refine K_aload_n dX12_examine_115 rfl rfl ?_
        refine K_bipush (v := 11) dX12_examine_116 (by decide) ?_
        refine K_iconst (v := 0) dX12_examine_118 (by decide) ?_
        refine K_bind (fun u5 hu5 => ?_)
        refine K_callVV (As := [.int 11, .int 0]) (k_X12_fail fu hE ha0 hu5) dX12_examine_119 v_X12_208 ha0 rfl rfl rfl rfl (Nat.le_of_ble_eq_true rfl) ⟨Nat.le_of_ble_eq_true rfl, Nat.le_of_ble_eq_true rfl, Nat.le_of_ble_eq_true rfl, Nat.le_of_ble_eq_true rfl⟩ ?_
        exact K_vret dX12_examine_122 hQ rfl (Nat.le_of_ble_eq_true rfl) (Nat.le_of_ble_eq_true rfl)
    · refine K_aload_n dX12_examine_80 rfl rfl ?_
      refine K_iload_n dX12_examine_81 rfl rfl ?_
      refine K_bind (fun u7 hu7 => ?_)
      refine K_callVI (As := [.int x1]) (k_X12_isHandler fu hE ha0 hu7) dX12_examine_82 v_X12_215 ha0 rfl rfl rfl rfl (Nat.le_of_ble_eq_true rfl) ⟨Nat.le_of_ble_eq_true rfl, Nat.le_of_ble_eq_true rfl, Nat.le_of_ble_eq_true rfl, Nat.le_of_ble_eq_true rfl⟩ ?_
      refine K_if_ne (tgt := 94) dX12_examine_85 (by decide) (fun c9 => ?_) (fun c9 => ?_)
      · refine K_iinc (v := (x1 + 1)) (ls' := [(0, _), (1, _)]) dX12_examine_94 rfl rfl (by decide) rfl ?_
        refine K_goto (tgt := 72) dX12_examine_97 (by decide) ?_
        refine K.keep [0, 1] ?_
        exact hrc72 (x1 + 1) u7.2
      · refine K_aload_n dX12_examine_88 rfl rfl ?_
        refine K_iconst (v := 2) dX12_examine_89 (by decide) ?_
        refine K_iload_n dX12_examine_90 rfl rfl ?_
        refine K_bind (fun u8 hu8 => ?_)
        refine K_callVV (As := [.int 2, .int x1]) (k_X12_fail fu hE ha0 hu8) dX12_examine_91 v_X12_208 ha0 rfl rfl rfl rfl (Nat.le_of_ble_eq_true rfl) ⟨Nat.le_of_ble_eq_true rfl, Nat.le_of_ble_eq_true rfl, Nat.le_of_ble_eq_true rfl, Nat.le_of_ble_eq_true rfl⟩ ?_
        refine K_iinc (v := (x1 + 1)) (ls' := [(0, _), (1, _)]) dX12_examine_94 rfl rfl (by decide) rfl ?_
        refine K_goto (tgt := 72) dX12_examine_97 (by decide) ?_
        refine K.keep [0, 1] ?_
        exact hrc72 (x1 + 1) u8
def bd_X12_examine_31 (fu : Nat) (E : Ev) (a0 : Nat) (rc31 : Int32 → St → Option St) (x1 : Int32) (S : St) : Option St :=
  if (S.1 a0 19) ≤ x1 then (
    lp_X12_examine_72 fu E a0 fu 0 S
  ) else (
    if inb x1 100 = true then
      (
      if inb x1 100 = true then
        (
        (sp_X12_isOperand fu E S a0 (S.2.1 (E.2 a0 20) x1.toNatClampNeg) (S.2.1 (E.2 a0 21) x1.toNatClampNeg)).bind fun u15 =>
        if u15.1 = 0 then (
          (sp_X12_fail fu E u15.2 a0 1 x1).bind fun u16 =>
          rc31 (x1 + 1) u16
        ) else (
          rc31 (x1 + 1) u15.2
        )
        )
      else none
      )
    else none
  )
def lp_X12_examine_31 (fu : Nat) (E : Ev) (a0 : Nat) : Nat → Int32 → St → Option St
  | 0, _, _ => none
  | f + 1, x1, S => bd_X12_examine_31 fu E a0 (lp_X12_examine_31 fu E a0 f) x1 S
set_option maxRecDepth 100000 in
theorem kl_X12_examine_31 {X : Cx} {E : Ev} {t : St} {a0 : Nat} (hQ : EndR mX12_examine X (PoV E t)) (hE : WE E) (fu : Nat) (ha0 : E.1 a0 = some (0, 10, 0)) : ∀ (f : Nat) (x1 : Int32) (S : St), K mX12_examine X E 31 [(0, .ref a0), (1, .int x1)] [] S 0 0 (lp_X12_examine_31 fu E a0 f x1 S) t := by
  intro f
  induction f with
  | zero => intro x1 S; exact K_none
  | succ f hrc31 =>
    intro x1 S
    show K _ _ _ _ _ _ _ _ _ (bd_X12_examine_31 fu E a0 (lp_X12_examine_31 fu E a0 f) x1 S) t
    unfold bd_X12_examine_31
    refine K_iload_n dX12_examine_31 rfl rfl ?_
    refine K_aload_n dX12_examine_32 rfl rfl ?_
    refine K_getI dX12_examine_33 f_X12_165_10 ha0 rfl ?_
    refine K_icmp_ge (tgt := 70) dX12_examine_36 (by decide) (fun c18 => ?_) (fun c18 => ?_)
    · refine K_iconst (v := 0) dX12_examine_70 (by decide) ?_
      refine K_istore_n (ls' := [(0, _), (1, _)]) dX12_examine_71 rfl (by decide) rfl ?_
      refine K.keep [0, 1] ?_
      exact kl_X12_examine_72 hQ hE fu ha0 fu 0 S
    · refine K_aload_n dX12_examine_39 rfl rfl ?_
      refine K_aload_n dX12_examine_40 rfl rfl ?_
      refine K_getC hE dX12_examine_41 f_X12_45_10 ha0 rfl rfl (fun h11 => ?_)
      refine K_iload_n dX12_examine_44 rfl rfl ?_
      refine K_chk (fun h12 => ?_)
      refine K_iald dX12_examine_45 h11 h12 ?_
      refine K_aload_n dX12_examine_46 rfl rfl ?_
      refine K_getC hE dX12_examine_47 f_X12_48_10 ha0 rfl rfl (fun h13 => ?_)
      refine K_iload_n dX12_examine_50 rfl rfl ?_
      refine K_chk (fun h14 => ?_)
      refine K_iald dX12_examine_51 h13 h14 ?_
      refine K_bind (fun u15 hu15 => ?_)
      refine K_callVI (As := [.int (S.2.1 (E.2 a0 20) x1.toNatClampNeg), .int (S.2.1 (E.2 a0 21) x1.toNatClampNeg)]) (k_X12_isOperand fu hE ha0 hu15) dX12_examine_52 v_X12_212 ha0 rfl rfl rfl rfl (Nat.le_of_ble_eq_true rfl) ⟨Nat.le_of_ble_eq_true rfl, Nat.le_of_ble_eq_true rfl, Nat.le_of_ble_eq_true rfl, Nat.le_of_ble_eq_true rfl⟩ ?_
      refine K_if_ne (tgt := 64) dX12_examine_55 (by decide) (fun c17 => ?_) (fun c17 => ?_)
      · refine K_iinc (v := (x1 + 1)) (ls' := [(0, _), (1, _)]) dX12_examine_64 rfl rfl (by decide) rfl ?_
        refine K_goto (tgt := 31) dX12_examine_67 (by decide) ?_
        refine K.keep [0, 1] ?_
        exact hrc31 (x1 + 1) u15.2
      · refine K_aload_n dX12_examine_58 rfl rfl ?_
        refine K_iconst (v := 1) dX12_examine_59 (by decide) ?_
        refine K_iload_n dX12_examine_60 rfl rfl ?_
        refine K_bind (fun u16 hu16 => ?_)
        refine K_callVV (As := [.int 1, .int x1]) (k_X12_fail fu hE ha0 hu16) dX12_examine_61 v_X12_208 ha0 rfl rfl rfl rfl (Nat.le_of_ble_eq_true rfl) ⟨Nat.le_of_ble_eq_true rfl, Nat.le_of_ble_eq_true rfl, Nat.le_of_ble_eq_true rfl, Nat.le_of_ble_eq_true rfl⟩ ?_
        refine K_iinc (v := (x1 + 1)) (ls' := [(0, _), (1, _)]) dX12_examine_64 rfl rfl (by decide) rfl ?_
        refine K_goto (tgt := 31) dX12_examine_67 (by decide) ?_
        refine K.keep [0, 1] ?_
        exact hrc31 (x1 + 1) u16
def sp_X12_examine (fu : Nat) (E : Ev) (S : St) (a0 : Nat) : Option St :=
  bnd (sF S a0 35 0) fun S1 =>
  bnd (sF S1 a0 36 (-1)) fun S2 =>
  bnd (sF S2 a0 37 0) fun S3 =>
  if (S3.1 a0 19) = 0 then (
    (sp_X12_fail fu E S3 a0 7 0).bind fun u19 =>
    lp_X12_examine_31 fu E a0 fu 0 u19
  ) else (
    lp_X12_examine_31 fu E a0 fu 0 S3
  )
set_option maxRecDepth 100000 in
theorem k_X12_examine {l : Launch} (fu : Nat) {E : Ev} (hE : WE E) {a0 : Nat} (ha0 : E.1 a0 = some (0, 10, 0)) {S : St} {t : St} (h : sp_X12_examine fu E S a0 = some t) : Cn l mX12_examine [.ref a0] (hp E S) (PoV E t) := by
  refine Cn.of (by decide) rfl (Nat.le_of_ble_eq_true rfl) (fun X _ _ hQ => ?_)
  refine (?_ : K mX12_examine X E 0 [(0, .ref a0)] [] S 0 0 (sp_X12_examine fu E S a0) t) h
  unfold sp_X12_examine
  refine K_aload_n dX12_examine_0 rfl rfl ?_
  refine K_iconst (v := 0) dX12_examine_1 (by decide) ?_
  refine K_putI dX12_examine_2 p_X12_202_10 ha0 rfl ?_
  refine K_nmS (fun S1 => ?_)
  refine K_aload_n dX12_examine_5 rfl rfl ?_
  refine K_iconst (v := (-1)) dX12_examine_6 (by decide) ?_
  refine K_putI dX12_examine_7 p_X12_78_10 ha0 rfl ?_
  refine K_nmS (fun S2 => ?_)
  refine K_aload_n dX12_examine_10 rfl rfl ?_
  refine K_iconst (v := 0) dX12_examine_11 (by decide) ?_
  refine K_putI dX12_examine_12 p_X12_205_10 ha0 rfl ?_
  refine K_nmS (fun S3 => ?_)
  refine K_aload_n dX12_examine_15 rfl rfl ?_
  refine K_getI dX12_examine_16 f_X12_165_10 ha0 rfl ?_
  refine K_if_ne (tgt := 29) dX12_examine_19 (by decide) (fun c20 => ?_) (fun c20 => ?_)
  · refine K_iconst (v := 0) dX12_examine_29 (by decide) ?_
    refine K_istore_n (ls' := [(0, _), (1, _)]) dX12_examine_30 rfl (by decide) rfl ?_
    refine K.keep [0, 1] ?_
    exact kl_X12_examine_31 hQ hE fu ha0 fu 0 S3
  · refine K_aload_n dX12_examine_22 rfl rfl ?_
    refine K_bipush (v := 7) dX12_examine_23 (by decide) ?_
    refine K_iconst (v := 0) dX12_examine_25 (by decide) ?_
    refine K_bind (fun u19 hu19 => ?_)
    refine K_callVV (As := [.int 7, .int 0]) (k_X12_fail fu hE ha0 hu19) dX12_examine_26 v_X12_208 ha0 rfl rfl rfl rfl (Nat.le_of_ble_eq_true rfl) ⟨Nat.le_of_ble_eq_true rfl, Nat.le_of_ble_eq_true rfl, Nat.le_of_ble_eq_true rfl, Nat.le_of_ble_eq_true rfl⟩ ?_
    refine K_iconst (v := 0) dX12_examine_29 (by decide) ?_
    refine K_istore_n (ls' := [(0, _), (1, _)]) dX12_examine_30 rfl (by decide) rfl ?_
    refine K.keep [0, 1] ?_
    exact kl_X12_examine_31 hQ hE fu ha0 fu 0 u19
def jb_X12_setFirst_183 (fu : Nat) (E : Ev) (a0 : Nat) (rc132 : Int32 → Int32 → St → Option St) (x1 : Int32) (x2 : Int32) (x3 : Int32) (S : St) : Option St :=
  (sp_X12_wide fu E S x3).bind fun u15 =>
  bnd (x1 + u15.1) fun v16 =>
  rc132 v16 (x2 + 1) u15.2
set_option maxRecDepth 100000 in
theorem kj_X12_setFirst_183 {X : Cx} {E : Ev} {t : St} {a0 : Nat} {rc132 : Int32 → Int32 → St → Option St} (hQ : EndR mX12_setFirst X (PoV E t)) (hE : WE E) (fu : Nat) (ha0 : E.1 a0 = some (0, 10, 0)) (hrc132 : ∀ (x1 : Int32) (x2 : Int32) (S : St), K mX12_setFirst X E 132 [(0, .ref a0), (1, .int x1), (2, .int x2)] [] S 0 0 (rc132 x1 x2 S) t) (x1 : Int32) (x2 : Int32) (x3 : Int32) (S : St) : K mX12_setFirst X E 183 [(0, .ref a0), (1, .int x1), (2, .int x2), (3, .int x3)] [] S 0 0 (jb_X12_setFirst_183 fu E a0 rc132 x1 x2 x3 S) t := by
  unfold jb_X12_setFirst_183
  refine K_iload_n dX12_setFirst_183 rfl rfl ?_
  refine K_iload_n dX12_setFirst_184 rfl rfl ?_
  refine K_bind (fun u15 hu15 => ?_)
  refine K_callSI (As := [.int x3]) (k_X12_wide fu hE hu15) dX12_setFirst_185 s_X12_142 rfl rfl (Nat.le_of_ble_eq_true rfl) ⟨Nat.le_of_ble_eq_true rfl, Nat.le_of_ble_eq_true rfl, Nat.le_of_ble_eq_true rfl, Nat.le_of_ble_eq_true rfl⟩ ?_
  refine K_iadd dX12_setFirst_188 ?_
  refine K_nmI (fun v16 => ?_)
  refine K_istore_n (ls' := [(0, _), (1, _), (2, _), (3, _)]) dX12_setFirst_189 rfl (by decide) rfl ?_
  refine K_iinc (v := (x2 + 1)) (ls' := [(0, _), (1, _), (2, _), (3, _)]) dX12_setFirst_190 rfl rfl (by decide) rfl ?_
  refine K_goto (tgt := 132) dX12_setFirst_193 (by decide) ?_
  refine K.keep [0, 1, 2] ?_
  exact hrc132 v16 (x2 + 1) u15.2
def bd_X12_setFirst_132 (fu : Nat) (E : Ev) (a0 : Nat) (rc132 : Int32 → Int32 → St → Option St) (x1 : Int32) (x2 : Int32) (S : St) : Option St :=
  if inb (S.1 a0 16) 30 = true then
    (
    if (S.2.1 (E.2 a0 11) (S.1 a0 16).toNatClampNeg) ≤ x2 then (
      some S
    ) else (
      if inb ((6 * (S.1 a0 16)) + x2) 180 = true then
        (
        bnd (S.2.1 (E.2 a0 12) ((6 * (S.1 a0 16)) + x2).toNatClampNeg) fun v11 =>
        if inb x1 26 = true then (
          bnd (sG S (E.2 a0 39) (x1.toNatClampNeg) v11) fun S14 =>
          if v11 = 8 then (
            if inb (x1 + 1) 26 = true then (
              bnd (sG S14 (E.2 a0 39) ((x1 + 1).toNatClampNeg) (-3)) fun S19 =>
              jb_X12_setFirst_183 fu E a0 rc132 x1 x2 v11 S19
            ) else none
          ) else (
            jb_X12_setFirst_183 fu E a0 rc132 x1 x2 v11 S14
          )
        ) else none
        )
      else none
    )
    )
  else none
def lp_X12_setFirst_132 (fu : Nat) (E : Ev) (a0 : Nat) : Nat → Int32 → Int32 → St → Option St
  | 0, _, _, _ => none
  | f + 1, x1, x2, S => bd_X12_setFirst_132 fu E a0 (lp_X12_setFirst_132 fu E a0 f) x1 x2 S
set_option maxRecDepth 100000 in
theorem kl_X12_setFirst_132 {X : Cx} {E : Ev} {t : St} {a0 : Nat} (hQ : EndR mX12_setFirst X (PoV E t)) (hE : WE E) (fu : Nat) (ha0 : E.1 a0 = some (0, 10, 0)) : ∀ (f : Nat) (x1 : Int32) (x2 : Int32) (S : St), K mX12_setFirst X E 132 [(0, .ref a0), (1, .int x1), (2, .int x2)] [] S 0 0 (lp_X12_setFirst_132 fu E a0 f x1 x2 S) t := by
  intro f
  induction f with
  | zero => intro x1 x2 S; exact K_none
  | succ f hrc132 =>
    intro x1 x2 S
    show K _ _ _ _ _ _ _ _ _ (bd_X12_setFirst_132 fu E a0 (lp_X12_setFirst_132 fu E a0 f) x1 x2 S) t
    unfold bd_X12_setFirst_132
    refine K_iload_n dX12_setFirst_132 rfl rfl ?_
    refine K_aload_n dX12_setFirst_133 rfl rfl ?_
    refine K_getC hE dX12_setFirst_134 f_X12_36_10 ha0 rfl rfl (fun h7 => ?_)
    refine K_aload_n dX12_setFirst_137 rfl rfl ?_
    refine K_getI dX12_setFirst_138 f_X12_156_10 ha0 rfl ?_
    refine K_chk (fun h8 => ?_)
    refine K_iald dX12_setFirst_141 h7 h8 ?_
    refine K_icmp_ge (tgt := 196) dX12_setFirst_142 (by decide) (fun c21 => ?_) (fun c21 => ?_)
    · exact K_vret dX12_setFirst_196 hQ rfl (Nat.le_of_ble_eq_true rfl) (Nat.le_of_ble_eq_true rfl)
    · refine K_aload_n dX12_setFirst_145 rfl rfl ?_
      refine K_getC hE dX12_setFirst_146 f_X12_39_10 ha0 rfl rfl (fun h9 => ?_)
      refine K_bipush (v := 6) dX12_setFirst_149 (by decide) ?_
      refine K_aload_n dX12_setFirst_151 rfl rfl ?_
      refine K_getI dX12_setFirst_152 f_X12_156_10 ha0 rfl ?_
      refine K_imul dX12_setFirst_155 ?_
      refine K_iload_n dX12_setFirst_156 rfl rfl ?_
      refine K_iadd dX12_setFirst_157 ?_
      refine K_chk (fun h10 => ?_)
      refine K_iald dX12_setFirst_158 h9 h10 ?_
      refine K_nmI (fun v11 => ?_)
      refine K_istore_n (ls' := [(0, _), (1, _), (2, _), (3, _)]) dX12_setFirst_159 rfl (by decide) rfl ?_
      refine K_aload_n dX12_setFirst_160 rfl rfl ?_
      refine K_getC hE dX12_setFirst_161 f_X12_81_10 ha0 rfl rfl (fun h12 => ?_)
      refine K_iload_n dX12_setFirst_164 rfl rfl ?_
      refine K_iload_n dX12_setFirst_165 rfl rfl ?_
      refine K_chk (fun h13 => ?_)
      refine K_iast dX12_setFirst_166 h12 h13 ?_
      refine K_nmS (fun S14 => ?_)
      refine K_iload_n dX12_setFirst_167 rfl rfl ?_
      refine K_bipush (v := 8) dX12_setFirst_168 (by decide) ?_
      refine K_icmp_ne (tgt := 183) dX12_setFirst_170 (by decide) (fun c20 => ?_) (fun c20 => ?_)
      · refine K.keep [0, 1, 2, 3] ?_
        exact kj_X12_setFirst_183 hQ hE fu ha0 hrc132 x1 x2 v11 S14
      · refine K_aload_n dX12_setFirst_173 rfl rfl ?_
        refine K_getC hE dX12_setFirst_174 f_X12_81_10 ha0 rfl rfl (fun h17 => ?_)
        refine K_iload_n dX12_setFirst_177 rfl rfl ?_
        refine K_iconst (v := 1) dX12_setFirst_178 (by decide) ?_
        refine K_iadd dX12_setFirst_179 ?_
        refine K_bipush (v := (-3)) dX12_setFirst_180 (by decide) ?_
        refine K_chk (fun h18 => ?_)
        refine K_iast dX12_setFirst_182 h17 h18 ?_
        refine K_nmS (fun S19 => ?_)
        refine K.keep [0, 1, 2, 3] ?_
        exact kj_X12_setFirst_183 hQ hE fu ha0 hrc132 x1 x2 v11 S19
def jb_X12_setFirst_111 (fu : Nat) (E : Ev) (a0 b0 : Nat) (x2 : Int32) (y1 : Int32) (y2 : Int32) (S : St) : Option St :=
  if inb y1 26 = true then (
    bnd (sG S b0 (y1.toNatClampNeg) y2) fun S28 =>
    if x2 = 0 then (
      bnd (sG S28 (E.2 a0 39) ((25 : Int32).toNatClampNeg) 0) fun S30 =>
      lp_X12_setFirst_132 fu E a0 fu 1 0 S30
    ) else (
      bnd (sG S28 (E.2 a0 39) ((25 : Int32).toNatClampNeg) 1) fun S31 =>
      lp_X12_setFirst_132 fu E a0 fu 1 0 S31
    )
  ) else none
set_option maxRecDepth 100000 in
theorem kj_X12_setFirst_111 {X : Cx} {E : Ev} {t : St} {a0 b0 : Nat} (hQ : EndR mX12_setFirst X (PoV E t)) (hE : WE E) (fu : Nat) (ha0 : E.1 a0 = some (0, 10, 0)) (hb0 : E.1 b0 = some (1, 0, 26)) (x2 : Int32) (y1 : Int32) (y2 : Int32) (S : St) : K mX12_setFirst X E 111 [(0, .ref a0), (2, .int x2)] [.int y2, .int y1, .ref b0] S 0 0 (jb_X12_setFirst_111 fu E a0 b0 x2 y1 y2 S) t := by
  unfold jb_X12_setFirst_111
  refine K_chk (fun h27 => ?_)
  refine K_iast dX12_setFirst_111 hb0 h27 ?_
  refine K_nmS (fun S28 => ?_)
  refine K_aload_n dX12_setFirst_112 rfl rfl ?_
  refine K_getC hE dX12_setFirst_113 f_X12_81_10 ha0 rfl rfl (fun h29 => ?_)
  refine K_bipush (v := 25) dX12_setFirst_116 (by decide) ?_
  refine K_iload_n dX12_setFirst_118 rfl rfl ?_
  refine K_if_eq (tgt := 126) dX12_setFirst_119 (by decide) (fun c32 => ?_) (fun c32 => ?_)
  · refine K_iconst (v := 0) dX12_setFirst_126 (by decide) ?_
    refine K_iast dX12_setFirst_127 h29 (by decide) ?_
    refine K_nmS (fun S30 => ?_)
    refine K_iconst (v := 1) dX12_setFirst_128 (by decide) ?_
    refine K_istore_n (ls' := [(0, _), (2, _), (1, _)]) dX12_setFirst_129 rfl (by decide) rfl ?_
    refine K_iconst (v := 0) dX12_setFirst_130 (by decide) ?_
    refine K_istore_n (ls' := [(0, _), (2, _), (1, _)]) dX12_setFirst_131 rfl (by decide) rfl ?_
    refine K.keep [0, 1, 2] ?_
    exact kl_X12_setFirst_132 hQ hE fu ha0 fu 1 0 S30
  · refine K_iconst (v := 1) dX12_setFirst_122 (by decide) ?_
    refine K_goto (tgt := 127) dX12_setFirst_123 (by decide) ?_
    refine K_iast dX12_setFirst_127 h29 (by decide) ?_
    refine K_nmS (fun S31 => ?_)
    refine K_iconst (v := 1) dX12_setFirst_128 (by decide) ?_
    refine K_istore_n (ls' := [(0, _), (2, _), (1, _)]) dX12_setFirst_129 rfl (by decide) rfl ?_
    refine K_iconst (v := 0) dX12_setFirst_130 (by decide) ?_
    refine K_istore_n (ls' := [(0, _), (2, _), (1, _)]) dX12_setFirst_131 rfl (by decide) rfl ?_
    refine K.keep [0, 1, 2] ?_
    exact kl_X12_setFirst_132 hQ hE fu ha0 fu 1 0 S31
def jb_X12_setFirst_84 (fu : Nat) (E : Ev) (a0 : Nat) (y0 : Int32) (S : St) : Option St :=
  if y0 = 0 then (
    if inb (S.1 a0 16) 30 = true then
      (
      jb_X12_setFirst_111 fu E a0 (E.2 a0 39) y0 0 (8 * (S.2.1 (E.2 a0 8) (S.1 a0 16).toNatClampNeg)) S
      )
    else none
  ) else (
    jb_X12_setFirst_111 fu E a0 (E.2 a0 39) y0 0 (-4) S
  )
set_option maxRecDepth 100000 in
theorem kj_X12_setFirst_84 {X : Cx} {E : Ev} {t : St} {a0 : Nat} (hQ : EndR mX12_setFirst X (PoV E t)) (hE : WE E) (fu : Nat) (ha0 : E.1 a0 = some (0, 10, 0)) (y0 : Int32) (S : St) : K mX12_setFirst X E 84 [(0, .ref a0)] [.int y0] S 0 0 (jb_X12_setFirst_84 fu E a0 y0 S) t := by
  unfold jb_X12_setFirst_84
  refine K_istore_n (ls' := [(0, _), (2, _)]) dX12_setFirst_84 rfl (by decide) rfl ?_
  refine K_aload_n dX12_setFirst_85 rfl rfl ?_
  refine K_getC hE dX12_setFirst_86 f_X12_81_10 ha0 rfl rfl (fun h24 => ?_)
  refine K_iconst (v := 0) dX12_setFirst_89 (by decide) ?_
  refine K_iload_n dX12_setFirst_90 rfl rfl ?_
  refine K_if_eq (tgt := 99) dX12_setFirst_91 (by decide) (fun c33 => ?_) (fun c33 => ?_)
  · refine K_bipush (v := 8) dX12_setFirst_99 (by decide) ?_
    refine K_aload_n dX12_setFirst_101 rfl rfl ?_
    refine K_getC hE dX12_setFirst_102 f_X12_27_10 ha0 rfl rfl (fun h25 => ?_)
    refine K_aload_n dX12_setFirst_105 rfl rfl ?_
    refine K_getI dX12_setFirst_106 f_X12_156_10 ha0 rfl ?_
    refine K_chk (fun h26 => ?_)
    refine K_iald dX12_setFirst_109 h25 h26 ?_
    refine K_imul dX12_setFirst_110 ?_
    refine K.keep [0, 2] ?_
    exact kj_X12_setFirst_111 hQ hE fu ha0 h24 y0 0 (8 * (S.2.1 (E.2 a0 8) (S.1 a0 16).toNatClampNeg)) S
  · refine K_bipush (v := (-4)) dX12_setFirst_94 (by decide) ?_
    refine K_goto (tgt := 111) dX12_setFirst_96 (by decide) ?_
    refine K.keep [0, 2] ?_
    exact kj_X12_setFirst_111 hQ hE fu ha0 h24 y0 0 (-4) S
def bd_X12_setFirst_2 (fu : Nat) (E : Ev) (a0 : Nat) (rc2 : Int32 → St → Option St) (x1 : Int32) (S : St) : Option St :=
  if 24 ≤ x1 then (
    bnd (sG S (E.2 a0 39) ((24 : Int32).toNatClampNeg) 0) fun S2 =>
    bnd (sG S2 (E.2 a0 39) ((25 : Int32).toNatClampNeg) 0) fun S4 =>
    if inb (S4.1 a0 16) 30 = true then
      (
      if (S4.2.1 (E.2 a0 9) (S4.1 a0 16).toNatClampNeg) = 1 then (
        lp_X12_setFirst_132 fu E a0 fu 0 0 S4
      ) else (
        if inb (S4.1 a0 16) 30 = true then
          (
          if (S4.2.1 (E.2 a0 9) (S4.1 a0 16).toNatClampNeg) = 2 then (
            if inb (S4.1 a0 16) 30 = true then
              (
              if (S4.2.1 (E.2 a0 8) (S4.1 a0 16).toNatClampNeg) = 2 then (
                jb_X12_setFirst_84 fu E a0 0 S4
              ) else (
                jb_X12_setFirst_84 fu E a0 1 S4
              )
              )
            else none
          ) else (
            jb_X12_setFirst_84 fu E a0 0 S4
          )
          )
        else none
      )
      )
    else none
  ) else (
    if inb x1 26 = true then (
      bnd (sG S (E.2 a0 39) (x1.toNatClampNeg) (-2)) fun S41 =>
      rc2 (x1 + 1) S41
    ) else none
  )
def lp_X12_setFirst_2 (fu : Nat) (E : Ev) (a0 : Nat) : Nat → Int32 → St → Option St
  | 0, _, _ => none
  | f + 1, x1, S => bd_X12_setFirst_2 fu E a0 (lp_X12_setFirst_2 fu E a0 f) x1 S
set_option maxRecDepth 100000 in
theorem kl_X12_setFirst_2 {X : Cx} {E : Ev} {t : St} {a0 : Nat} (hQ : EndR mX12_setFirst X (PoV E t)) (hE : WE E) (fu : Nat) (ha0 : E.1 a0 = some (0, 10, 0)) : ∀ (f : Nat) (x1 : Int32) (S : St), K mX12_setFirst X E 2 [(0, .ref a0), (1, .int x1)] [] S 0 0 (lp_X12_setFirst_2 fu E a0 f x1 S) t := by
  intro f
  induction f with
  | zero => intro x1 S; exact K_none
  | succ f hrc2 =>
    intro x1 S
    show K _ _ _ _ _ _ _ _ _ (bd_X12_setFirst_2 fu E a0 (lp_X12_setFirst_2 fu E a0 f) x1 S) t
    unfold bd_X12_setFirst_2
    refine K_iload_n dX12_setFirst_2 rfl rfl ?_
    refine K_bipush (v := 24) dX12_setFirst_3 (by decide) ?_
    refine K_icmp_ge (tgt := 22) dX12_setFirst_5 (by decide) (fun c42 => ?_) (fun c42 => ?_)
    · refine K_aload_n dX12_setFirst_22 rfl rfl ?_
      refine K_getC hE dX12_setFirst_23 f_X12_81_10 ha0 rfl rfl (fun h1 => ?_)
      refine K_bipush (v := 24) dX12_setFirst_26 (by decide) ?_
      refine K_iconst (v := 0) dX12_setFirst_28 (by decide) ?_
      refine K_iast dX12_setFirst_29 h1 (by decide) ?_
      refine K_nmS (fun S2 => ?_)
      refine K_aload_n dX12_setFirst_30 rfl rfl ?_
      refine K_getC hE dX12_setFirst_31 f_X12_81_10 ha0 rfl rfl (fun h3 => ?_)
      refine K_bipush (v := 25) dX12_setFirst_34 (by decide) ?_
      refine K_iconst (v := 0) dX12_setFirst_36 (by decide) ?_
      refine K_iast dX12_setFirst_37 h3 (by decide) ?_
      refine K_nmS (fun S4 => ?_)
      refine K_iconst (v := 0) dX12_setFirst_38 (by decide) ?_
      refine K_istore_n (ls' := [(0, _), (1, _)]) dX12_setFirst_39 rfl (by decide) rfl ?_
      refine K_aload_n dX12_setFirst_40 rfl rfl ?_
      refine K_getC hE dX12_setFirst_41 f_X12_30_10 ha0 rfl rfl (fun h5 => ?_)
      refine K_aload_n dX12_setFirst_44 rfl rfl ?_
      refine K_getI dX12_setFirst_45 f_X12_156_10 ha0 rfl ?_
      refine K_chk (fun h6 => ?_)
      refine K_iald dX12_setFirst_48 h5 h6 ?_
      refine K_iconst (v := 1) dX12_setFirst_49 (by decide) ?_
      refine K_icmp_eq (tgt := 130) dX12_setFirst_50 (by decide) (fun c38 => ?_) (fun c38 => ?_)
      · refine K_iconst (v := 0) dX12_setFirst_130 (by decide) ?_
        refine K_istore_n (ls' := [(0, _), (1, _), (2, _)]) dX12_setFirst_131 rfl (by decide) rfl ?_
        refine K.keep [0, 1, 2] ?_
        exact kl_X12_setFirst_132 hQ hE fu ha0 fu 0 0 S4
      · refine K_aload_n dX12_setFirst_53 rfl rfl ?_
        refine K_getC hE dX12_setFirst_54 f_X12_30_10 ha0 rfl rfl (fun h22 => ?_)
        refine K_aload_n dX12_setFirst_57 rfl rfl ?_
        refine K_getI dX12_setFirst_58 f_X12_156_10 ha0 rfl ?_
        refine K_chk (fun h23 => ?_)
        refine K_iald dX12_setFirst_61 h22 h23 ?_
        refine K_iconst (v := 2) dX12_setFirst_62 (by decide) ?_
        refine K_icmp_ne (tgt := 83) dX12_setFirst_63 (by decide) (fun c37 => ?_) (fun c37 => ?_)
        · refine K_iconst (v := 0) dX12_setFirst_83 (by decide) ?_
          refine K.keep [0] ?_
          exact kj_X12_setFirst_84 hQ hE fu ha0 0 S4
        · refine K_aload_n dX12_setFirst_66 rfl rfl ?_
          refine K_getC hE dX12_setFirst_67 f_X12_27_10 ha0 rfl rfl (fun h34 => ?_)
          refine K_aload_n dX12_setFirst_70 rfl rfl ?_
          refine K_getI dX12_setFirst_71 f_X12_156_10 ha0 rfl ?_
          refine K_chk (fun h35 => ?_)
          refine K_iald dX12_setFirst_74 h34 h35 ?_
          refine K_iconst (v := 2) dX12_setFirst_75 (by decide) ?_
          refine K_icmp_eq (tgt := 83) dX12_setFirst_76 (by decide) (fun c36 => ?_) (fun c36 => ?_)
          · refine K_iconst (v := 0) dX12_setFirst_83 (by decide) ?_
            refine K.keep [0] ?_
            exact kj_X12_setFirst_84 hQ hE fu ha0 0 S4
          · refine K_iconst (v := 1) dX12_setFirst_79 (by decide) ?_
            refine K_goto (tgt := 84) dX12_setFirst_80 (by decide) ?_
            refine K.keep [0] ?_
            exact kj_X12_setFirst_84 hQ hE fu ha0 1 S4
    · refine K_aload_n dX12_setFirst_8 rfl rfl ?_
      refine K_getC hE dX12_setFirst_9 f_X12_81_10 ha0 rfl rfl (fun h39 => ?_)
      refine K_iload_n dX12_setFirst_12 rfl rfl ?_
      refine K_bipush (v := (-2)) dX12_setFirst_13 (by decide) ?_
      refine K_chk (fun h40 => ?_)
      refine K_iast dX12_setFirst_15 h39 h40 ?_
      refine K_nmS (fun S41 => ?_)
      refine K_iinc (v := (x1 + 1)) (ls' := [(0, _), (1, _)]) dX12_setFirst_16 rfl rfl (by decide) rfl ?_
      refine K_goto (tgt := 2) dX12_setFirst_19 (by decide) ?_
      refine K.keep [0, 1] ?_
      exact hrc2 (x1 + 1) S41
def sp_X12_setFirst (fu : Nat) (E : Ev) (S : St) (a0 : Nat) : Option St :=
  lp_X12_setFirst_2 fu E a0 fu 0 S
set_option maxRecDepth 100000 in
theorem k_X12_setFirst {l : Launch} (fu : Nat) {E : Ev} (hE : WE E) {a0 : Nat} (ha0 : E.1 a0 = some (0, 10, 0)) {S : St} {t : St} (h : sp_X12_setFirst fu E S a0 = some t) : Cn l mX12_setFirst [.ref a0] (hp E S) (PoV E t) := by
  refine Cn.of (by decide) rfl (Nat.le_of_ble_eq_true rfl) (fun X _ _ hQ => ?_)
  refine (?_ : K mX12_setFirst X E 0 [(0, .ref a0)] [] S 0 0 (sp_X12_setFirst fu E S a0) t) h
  unfold sp_X12_setFirst
  refine K_iconst (v := 0) dX12_setFirst_0 (by decide) ?_
  refine K_istore_n (ls' := [(0, _), (1, _)]) dX12_setFirst_1 rfl (by decide) rfl ?_
  refine K.keep [0, 1] ?_
  exact kl_X12_setFirst_2 hQ hE fu ha0 fu 0 S
