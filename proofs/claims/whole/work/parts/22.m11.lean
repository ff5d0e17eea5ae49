def jb_X12_execute_99 (fu : Nat) (E : Ev) (a0 : Nat) (S : St) : Option St :=
  (sp_X12_isWell fu E S a0).bind fun u8 =>
  if u8.1 = 0 then (
    some u8.2
  ) else (
    if (u8.2.2.1 (E.2 a0 39) (24 : Int32).toNatClampNeg) ≤ (u8.2.1 a0 17) then (
      some u8.2
    ) else (
      (sp_X12_fail fu E u8.2 a0 6 (u8.2.1 a0 43)).bind fun u10 =>
      some u10
    )
  )
set_option maxRecDepth 100000 in
theorem kj_X12_execute_99 {X : Cx} {E : Ev} {t : St} {a0 : Nat} (hQ : EndR mX12_execute X (PoV E t)) (hE : WE E) (fu : Nat) (ha0 : E.1 a0 = some (0, 10, 0)) (S : St) : K mX12_execute X E 99 [(0, .ref a0)] [] S 0 0 (jb_X12_execute_99 fu E a0 S) t := by
  unfold jb_X12_execute_99
  refine K_aload_n dX12_execute_99 rfl rfl ?_
  refine K_bind (fun u8 hu8 => ?_)
  refine K_callVI (As := []) (k_X12_isWell fu hE ha0 hu8) dX12_execute_100 v_X12_218 ha0 rfl rfl rfl rfl (Nat.le_of_ble_eq_true rfl) ⟨Nat.le_of_ble_eq_true rfl, Nat.le_of_ble_eq_true rfl, Nat.le_of_ble_eq_true rfl, Nat.le_of_ble_eq_true rfl⟩ ?_
  refine K_if_eq (tgt := 130) dX12_execute_103 (by decide) (fun c12 => ?_) (fun c12 => ?_)
  · exact K_vret dX12_execute_130 hQ rfl (Nat.le_of_ble_eq_true rfl) (Nat.le_of_ble_eq_true rfl)
  · refine K_aload_n dX12_execute_106 rfl rfl ?_
    refine K_getC hE dX12_execute_107 f_X12_81_10 ha0 rfl rfl (fun h9 => ?_)
    refine K_bipush (v := 24) dX12_execute_110 (by decide) ?_
    refine K_iald dX12_execute_112 h9 (by decide) ?_
    refine K_aload_n dX12_execute_113 rfl rfl ?_
    refine K_getI dX12_execute_114 f_X12_159_10 ha0 rfl ?_
    refine K_icmp_le (tgt := 130) dX12_execute_117 (by decide) (fun c11 => ?_) (fun c11 => ?_)
    · exact K_vret dX12_execute_130 hQ rfl (Nat.le_of_ble_eq_true rfl) (Nat.le_of_ble_eq_true rfl)
    · refine K_aload_n dX12_execute_120 rfl rfl ?_
      refine K_bipush (v := 6) dX12_execute_121 (by decide) ?_
      refine K_aload_n dX12_execute_123 rfl rfl ?_
      refine K_getI dX12_execute_124 f_X12_222_10 ha0 rfl ?_
      refine K_bind (fun u10 hu10 => ?_)
      refine K_callVV (As := [.int 6, .int (u8.2.1 a0 43)]) (k_X12_fail fu hE ha0 hu10) dX12_execute_127 v_X12_208 ha0 rfl rfl rfl rfl (Nat.le_of_ble_eq_true rfl) ⟨Nat.le_of_ble_eq_true rfl, Nat.le_of_ble_eq_true rfl, Nat.le_of_ble_eq_true rfl, Nat.le_of_ble_eq_true rfl⟩ ?_
      exact K_vret dX12_execute_130 hQ rfl (Nat.le_of_ble_eq_true rfl) (Nat.le_of_ble_eq_true rfl)
def sp_X12_execute (fu : Nat) (E : Ev) (S : St) (a0 : Nat) : Option St :=
  if inb (S.1 a0 43) 100 = true then
    (
    bnd (S.2.1 (E.2 a0 20) (S.1 a0 43).toNatClampNeg) fun v3 =>
    if inb (S.1 a0 43) 100 = true then
      (
      bnd (S.2.1 (E.2 a0 21) (S.1 a0 43).toNatClampNeg) fun v6 =>
      if 9 < v3 then (
        if 15 < v3 then (
          if 26 < v3 then (
            if 31 < v3 then (
              if 37 < v3 then (
                (sp_X12_useArray fu E S a0 v3 v6).bind fun u7 =>
                jb_X12_execute_99 fu E a0 u7
              ) else (
                (sp_X12_useObject fu E S a0 v3 v6).bind fun u13 =>
                jb_X12_execute_99 fu E a0 u13
              )
            ) else (
              (sp_X12_leave fu E S a0 v3).bind fun u15 =>
              jb_X12_execute_99 fu E a0 u15
            )
          ) else (
            (sp_X12_compute fu E S a0 v3 v6).bind fun u17 =>
            jb_X12_execute_99 fu E a0 u17
          )
        ) else (
          (sp_X12_shuffle fu E S a0 v3).bind fun u19 =>
          jb_X12_execute_99 fu E a0 u19
        )
      ) else (
        (sp_X12_move fu E S a0 v3 v6).bind fun u21 =>
        jb_X12_execute_99 fu E a0 u21
      )
      )
    else none
    )
  else none
set_option maxRecDepth 100000 in
theorem k_X12_execute {l : Launch} (fu : Nat) {E : Ev} (hE : WE E) {a0 : Nat} (ha0 : E.1 a0 = some (0, 10, 0)) {S : St} {t : St} (h : sp_X12_execute fu E S a0 = some t) : Cn l mX12_execute [.ref a0] (hp E S) (PoV E t) := by
  refine Cn.of (by decide) rfl (Nat.le_of_ble_eq_true rfl) (fun X _ _ hQ => ?_)
  refine (?_ : K mX12_execute X E 0 [(0, .ref a0)] [] S 0 0 (sp_X12_execute fu E S a0) t) h
  unfold sp_X12_execute
  refine K_aload_n dX12_execute_0 rfl rfl ?_
  refine K_getC hE dX12_execute_1 f_X12_45_10 ha0 rfl rfl (fun h1 => ?_)
  refine K_aload_n dX12_execute_4 rfl rfl ?_
  refine K_getI dX12_execute_5 f_X12_222_10 ha0 rfl ?_
  refine K_chk (fun h2 => ?_)
  refine K_iald dX12_execute_8 h1 h2 ?_
  refine K_nmI (fun v3 => ?_)
  refine K_istore_n (ls' := [(0, _), (1, _)]) dX12_execute_9 rfl (by decide) rfl ?_
  refine K_aload_n dX12_execute_10 rfl rfl ?_
  refine K_getC hE dX12_execute_11 f_X12_48_10 ha0 rfl rfl (fun h4 => ?_)
  refine K_aload_n dX12_execute_14 rfl rfl ?_
  refine K_getI dX12_execute_15 f_X12_222_10 ha0 rfl ?_
  refine K_chk (fun h5 => ?_)
  refine K_iald dX12_execute_18 h4 h5 ?_
  refine K_nmI (fun v6 => ?_)
  refine K_istore_n (ls' := [(0, _), (1, _), (2, _)]) dX12_execute_19 rfl (by decide) rfl ?_
  refine K_iload_n dX12_execute_20 rfl rfl ?_
  refine K_bipush (v := 9) dX12_execute_21 (by decide) ?_
  refine K_icmp_gt (tgt := 35) dX12_execute_23 (by decide) (fun c22 => ?_) (fun c22 => ?_)
  · refine K_iload_n dX12_execute_35 rfl rfl ?_
    refine K_bipush (v := 15) dX12_execute_36 (by decide) ?_
    refine K_icmp_gt (tgt := 49) dX12_execute_38 (by decide) (fun c20 => ?_) (fun c20 => ?_)
    · refine K_iload_n dX12_execute_49 rfl rfl ?_
      refine K_bipush (v := 26) dX12_execute_50 (by decide) ?_
      refine K_icmp_gt (tgt := 64) dX12_execute_52 (by decide) (fun c18 => ?_) (fun c18 => ?_)
      · refine K_iload_n dX12_execute_64 rfl rfl ?_
        refine K_bipush (v := 31) dX12_execute_65 (by decide) ?_
        refine K_icmp_gt (tgt := 78) dX12_execute_67 (by decide) (fun c16 => ?_) (fun c16 => ?_)
        · refine K_iload_n dX12_execute_78 rfl rfl ?_
          refine K_bipush (v := 37) dX12_execute_79 (by decide) ?_
          refine K_icmp_gt (tgt := 93) dX12_execute_81 (by decide) (fun c14 => ?_) (fun c14 => ?_)
          · refine K_aload_n dX12_execute_93 rfl rfl ?_
            refine K_iload_n dX12_execute_94 rfl rfl ?_
            refine K_iload_n dX12_execute_95 rfl rfl ?_
            refine K_bind (fun u7 hu7 => ?_)
            refine K_callVV (As := [.int v3, .int v6]) (k_X12_useArray fu hE ha0 hu7) dX12_execute_96 v_X12_268 ha0 rfl rfl rfl rfl (Nat.le_of_ble_eq_true rfl) ⟨Nat.le_of_ble_eq_true rfl, Nat.le_of_ble_eq_true rfl, Nat.le_of_ble_eq_true rfl, Nat.le_of_ble_eq_true rfl⟩ ?_
            refine K.keep [0] ?_
            exact kj_X12_execute_99 hQ hE fu ha0 u7
          · refine K_aload_n dX12_execute_84 rfl rfl ?_
            refine K_iload_n dX12_execute_85 rfl rfl ?_
            refine K_iload_n dX12_execute_86 rfl rfl ?_
            refine K_bind (fun u13 hu13 => ?_)
            refine K_callVV (As := [.int v3, .int v6]) (k_X12_useObject fu hE ha0 hu13) dX12_execute_87 v_X12_265 ha0 rfl rfl rfl rfl (Nat.le_of_ble_eq_true rfl) ⟨Nat.le_of_ble_eq_true rfl, Nat.le_of_ble_eq_true rfl, Nat.le_of_ble_eq_true rfl, Nat.le_of_ble_eq_true rfl⟩ ?_
            refine K_goto (tgt := 99) dX12_execute_90 (by decide) ?_
            refine K.keep [0] ?_
            exact kj_X12_execute_99 hQ hE fu ha0 u13
        · refine K_aload_n dX12_execute_70 rfl rfl ?_
          refine K_iload_n dX12_execute_71 rfl rfl ?_
          refine K_bind (fun u15 hu15 => ?_)
          refine K_callVV (As := [.int v3]) (k_X12_leave fu hE ha0 hu15) dX12_execute_72 v_X12_262 ha0 rfl rfl rfl rfl (Nat.le_of_ble_eq_true rfl) ⟨Nat.le_of_ble_eq_true rfl, Nat.le_of_ble_eq_true rfl, Nat.le_of_ble_eq_true rfl, Nat.le_of_ble_eq_true rfl⟩ ?_
          refine K_goto (tgt := 99) dX12_execute_75 (by decide) ?_
          refine K.keep [0] ?_
          exact kj_X12_execute_99 hQ hE fu ha0 u15
      · refine K_aload_n dX12_execute_55 rfl rfl ?_
        refine K_iload_n dX12_execute_56 rfl rfl ?_
        refine K_iload_n dX12_execute_57 rfl rfl ?_
        refine K_bind (fun u17 hu17 => ?_)
        refine K_callVV (As := [.int v3, .int v6]) (k_X12_compute fu hE ha0 hu17) dX12_execute_58 v_X12_259 ha0 rfl rfl rfl rfl (Nat.le_of_ble_eq_true rfl) ⟨Nat.le_of_ble_eq_true rfl, Nat.le_of_ble_eq_true rfl, Nat.le_of_ble_eq_true rfl, Nat.le_of_ble_eq_true rfl⟩ ?_
        refine K_goto (tgt := 99) dX12_execute_61 (by decide) ?_
        refine K.keep [0] ?_
        exact kj_X12_execute_99 hQ hE fu ha0 u17
    · refine K_aload_n dX12_execute_41 rfl rfl ?_
      refine K_iload_n dX12_execute_42 rfl rfl ?_
      refine K_bind (fun u19 hu19 => ?_)
      refine K_callVV (As := [.int v3]) (k_X12_shuffle fu hE ha0 hu19) dX12_execute_43 v_X12_256 ha0 rfl rfl rfl rfl (Nat.le_of_ble_eq_true rfl) ⟨Nat.le_of_ble_eq_true rfl, Nat.le_of_ble_eq_true rfl, Nat.le_of_ble_eq_true rfl, Nat.le_of_ble_eq_true rfl⟩ ?_
      refine K_goto (tgt := 99) dX12_execute_46 (by decide) ?_
      refine K.keep [0] ?_
      exact kj_X12_execute_99 hQ hE fu ha0 u19
  · refine K_aload_n dX12_execute_26 rfl rfl ?_
    refine K_iload_n dX12_execute_27 rfl rfl ?_
    refine K_iload_n dX12_execute_28 rfl rfl ?_
    refine K_bind (fun u21 hu21 => ?_)
    refine K_callVV (As := [.int v3, .int v6]) (k_X12_move fu hE ha0 hu21) dX12_execute_29 v_X12_253 ha0 rfl rfl rfl rfl (Nat.le_of_ble_eq_true rfl) ⟨Nat.le_of_ble_eq_true rfl, Nat.le_of_ble_eq_true rfl, Nat.le_of_ble_eq_true rfl, Nat.le_of_ble_eq_true rfl⟩ ?_
    refine K_goto (tgt := 99) dX12_execute_32 (by decide) ?_
    refine K.keep [0] ?_
    exact kj_X12_execute_99 hQ hE fu ha0 u21
def bd_X12_fitsFrame_75 (fu : Nat) (E : Ev) (a0 a1 a2 : Nat) (rc75 : Int32 → Int32 → Int32 → St → Option (Int32 × St)) (x3 : Int32) (x4 : Int32) (x5 : Int32) (S : St) : Option (Int32 × St) :=
  if (S.2.1 a1 (24 : Int32).toNatClampNeg) ≤ x5 then (
    if isB x4 = true then some (x4, S) else none
  ) else (
    if x4 = 0 then (
      if isB x4 = true then some (x4, S) else none
    ) else (
      if inb (12 + x5) 26 = true then
        (
        if inb ((x3 + 12) + x5) 2600 = true then
          (
          (sp_X12_fits fu E S a0 (S.2.1 a1 (12 + x5).toNatClampNeg) (S.2.1 a2 ((x3 + 12) + x5).toNatClampNeg)).bind fun u6 =>
          rc75 x3 u6.1 (x5 + 1) u6.2
          )
        else none
        )
      else none
    )
  )
def lp_X12_fitsFrame_75 (fu : Nat) (E : Ev) (a0 a1 a2 : Nat) : Nat → Int32 → Int32 → Int32 → St → Option (Int32 × St)
  | 0, _, _, _, _ => none
  | f + 1, x3, x4, x5, S => bd_X12_fitsFrame_75 fu E a0 a1 a2 (lp_X12_fitsFrame_75 fu E a0 a1 a2 f) x3 x4 x5 S
set_option maxRecDepth 100000 in
theorem kl_X12_fitsFrame_75 {X : Cx} {E : Ev} {t : (Int32 × St)} {a0 a1 a2 : Nat} (hQ : EndR mX12_fitsFrame X (PoI E t)) (hE : WE E) (fu : Nat) (ha0 : E.1 a0 = some (0, 10, 0)) (ha1 : E.1 a1 = some (1, 0, 26)) (ha2 : E.1 a2 = some (1, 0, 2600)) : ∀ (f : Nat) (x3 : Int32) (x4 : Int32) (x5 : Int32) (S : St), K mX12_fitsFrame X E 75 [(0, .ref a0), (1, .ref a1), (2, .ref a2), (3, .int x3), (4, .int x4), (5, .int x5)] [] S 0 0 (lp_X12_fitsFrame_75 fu E a0 a1 a2 f x3 x4 x5 S) t := by
  intro f
  induction f with
  | zero => intro x3 x4 x5 S; exact K_none
  | succ f hrc75 =>
    intro x3 x4 x5 S
    show K _ _ _ _ _ _ _ _ _ (bd_X12_fitsFrame_75 fu E a0 a1 a2 (lp_X12_fitsFrame_75 fu E a0 a1 a2 f) x3 x4 x5 S) t
    unfold bd_X12_fitsFrame_75
    refine K_iload dX12_fitsFrame_75 rfl ?_
    refine K_aload_n dX12_fitsFrame_77 rfl rfl ?_
    refine K_bipush (v := 24) dX12_fitsFrame_78 (by decide) ?_
    refine K_iald dX12_fitsFrame_80 ha1 (by decide) ?_
    refine K_icmp_ge (tgt := 117) dX12_fitsFrame_81 (by decide) (fun c8 => ?_) (fun c8 => ?_)
    · refine K_iload dX12_fitsFrame_117 rfl ?_
      refine K_chk (fun h2 => ?_)
      exact K_zret dX12_fitsFrame_119 hQ rfl h2 (Nat.le_of_ble_eq_true rfl) (Nat.le_of_ble_eq_true rfl)
    · refine K_iload dX12_fitsFrame_84 rfl ?_
      refine K_if_eq (tgt := 117) dX12_fitsFrame_86 (by decide) (fun c7 => ?_) (fun c7 => ?_)
      · refine K_iload dX12_fitsFrame_117 rfl ?_
        refine K_chk (fun h3 => ?_)
        exact K_zret dX12_fitsFrame_119 hQ rfl h3 (Nat.le_of_ble_eq_true rfl) (Nat.le_of_ble_eq_true rfl)
      · refine K_aload_n dX12_fitsFrame_89 rfl rfl ?_
        refine K_aload_n dX12_fitsFrame_90 rfl rfl ?_
        refine K_bipush (v := 12) dX12_fitsFrame_91 (by decide) ?_
        refine K_iload dX12_fitsFrame_93 rfl ?_
        refine K_iadd dX12_fitsFrame_95 ?_
        refine K_chk (fun h4 => ?_)
        refine K_iald dX12_fitsFrame_96 ha1 h4 ?_
        refine K_aload_n dX12_fitsFrame_97 rfl rfl ?_
        refine K_iload_n dX12_fitsFrame_98 rfl rfl ?_
        refine K_bipush (v := 12) dX12_fitsFrame_99 (by decide) ?_
        refine K_iadd dX12_fitsFrame_101 ?_
        refine K_iload dX12_fitsFrame_102 rfl ?_
        refine K_iadd dX12_fitsFrame_104 ?_
        refine K_chk (fun h5 => ?_)
        refine K_iald dX12_fitsFrame_105 ha2 h5 ?_
        refine K_bind (fun u6 hu6 => ?_)
        refine K_callVI (As := [.int (S.2.1 a1 (12 + x5).toNatClampNeg), .int (S.2.1 a2 ((x3 + 12) + x5).toNatClampNeg)]) (k_X12_fits fu hE ha0 hu6) dX12_fitsFrame_106 v_X12_130 ha0 rfl rfl rfl rfl (Nat.le_of_ble_eq_true rfl) ⟨Nat.le_of_ble_eq_true rfl, Nat.le_of_ble_eq_true rfl, Nat.le_of_ble_eq_true rfl, Nat.le_of_ble_eq_true rfl⟩ ?_
        refine K_istore (ls' := [(0, _), (1, _), (2, _), (3, _), (4, _), (5, _)]) dX12_fitsFrame_109 (by decide) rfl ?_
        refine K_iinc (v := (x5 + 1)) (ls' := [(0, _), (1, _), (2, _), (3, _), (4, _), (5, _)]) dX12_fitsFrame_111 rfl rfl (by decide) rfl ?_
        refine K_goto (tgt := 75) dX12_fitsFrame_114 (by decide) ?_
        refine K.keep [0, 1, 2, 3, 4, 5] ?_
        exact hrc75 x3 u6.1 (x5 + 1) u6.2
def bd_X12_fitsFrame_36 (fu : Nat) (E : Ev) (a0 a1 a2 : Nat) (rc36 : Int32 → Int32 → Int32 → St → Option (Int32 × St)) (x3 : Int32) (x4 : Int32) (x5 : Int32) (S : St) : Option (Int32 × St) :=
  if (S.1 a0 18) ≤ x5 then (
    lp_X12_fitsFrame_75 fu E a0 a1 a2 fu x3 x4 0 S
  ) else (
    if x4 = 0 then (
      lp_X12_fitsFrame_75 fu E a0 a1 a2 fu x3 x4 0 S
    ) else (
      if inb x5 26 = true then
        (
        if inb (x3 + x5) 2600 = true then
          (
          (sp_X12_fits fu E S a0 (S.2.1 a1 x5.toNatClampNeg) (S.2.1 a2 (x3 + x5).toNatClampNeg)).bind fun u11 =>
          rc36 x3 u11.1 (x5 + 1) u11.2
          )
        else none
        )
      else none
    )
  )
def lp_X12_fitsFrame_36 (fu : Nat) (E : Ev) (a0 a1 a2 : Nat) : Nat → Int32 → Int32 → Int32 → St → Option (Int32 × St)
  | 0, _, _, _, _ => none
  | f + 1, x3, x4, x5, S => bd_X12_fitsFrame_36 fu E a0 a1 a2 (lp_X12_fitsFrame_36 fu E a0 a1 a2 f) x3 x4 x5 S
set_option maxRecDepth 100000 in
theorem kl_X12_fitsFrame_36 {X : Cx} {E : Ev} {t : (Int32 × St)} {a0 a1 a2 : Nat} (hQ : EndR mX12_fitsFrame X (PoI E t)) (hE : WE E) (fu : Nat) (ha0 : E.1 a0 = some (0, 10, 0)) (ha1 : E.1 a1 = some (1, 0, 26)) (ha2 : E.1 a2 = some (1, 0, 2600)) : ∀ (f : Nat) (x3 : Int32) (x4 : Int32) (x5 : Int32) (S : St), K mX12_fitsFrame X E 36 [(0, .ref a0), (1, .ref a1), (2, .ref a2), (3, .int x3), (4, .int x4), (5, .int x5)] [] S 0 0 (lp_X12_fitsFrame_36 fu E a0 a1 a2 f x3 x4 x5 S) t := by
  intro f
  induction f with
  | zero => intro x3 x4 x5 S; exact K_none
  | succ f hrc36 =>
    intro x3 x4 x5 S
    show K _ _ _ _ _ _ _ _ _ (bd_X12_fitsFrame_36 fu E a0 a1 a2 (lp_X12_fitsFrame_36 fu E a0 a1 a2 f) x3 x4 x5 S) t
    unfold bd_X12_fitsFrame_36
    refine K_iload dX12_fitsFrame_36 rfl ?_
    refine K_aload_n dX12_fitsFrame_38 rfl rfl ?_
    refine K_getI dX12_fitsFrame_39 f_X12_162_10 ha0 rfl ?_
    refine K_icmp_ge (tgt := 72) dX12_fitsFrame_42 (by decide) (fun c13 => ?_) (fun c13 => ?_)
    · refine K_iconst (v := 0) dX12_fitsFrame_72 (by decide) ?_
      refine K_istore (ls' := [(0, _), (1, _), (2, _), (3, _), (4, _), (5, _)]) dX12_fitsFrame_73 (by decide) rfl ?_
      refine K.keep [0, 1, 2, 3, 4, 5] ?_
      exact kl_X12_fitsFrame_75 hQ hE fu ha0 ha1 ha2 fu x3 x4 0 S
    · refine K_iload dX12_fitsFrame_45 rfl ?_
      refine K_if_eq (tgt := 72) dX12_fitsFrame_47 (by decide) (fun c12 => ?_) (fun c12 => ?_)
      · refine K_iconst (v := 0) dX12_fitsFrame_72 (by decide) ?_
        refine K_istore (ls' := [(0, _), (1, _), (2, _), (3, _), (4, _), (5, _)]) dX12_fitsFrame_73 (by decide) rfl ?_
        refine K.keep [0, 1, 2, 3, 4, 5] ?_
        exact kl_X12_fitsFrame_75 hQ hE fu ha0 ha1 ha2 fu x3 x4 0 S
      · refine K_aload_n dX12_fitsFrame_50 rfl rfl ?_
        refine K_aload_n dX12_fitsFrame_51 rfl rfl ?_
        refine K_iload dX12_fitsFrame_52 rfl ?_
        refine K_chk (fun h9 => ?_)
        refine K_iald dX12_fitsFrame_54 ha1 h9 ?_
        refine K_aload_n dX12_fitsFrame_55 rfl rfl ?_
        refine K_iload_n dX12_fitsFrame_56 rfl rfl ?_
        refine K_iload dX12_fitsFrame_57 rfl ?_
        refine K_iadd dX12_fitsFrame_59 ?_
        refine K_chk (fun h10 => ?_)
        refine K_iald dX12_fitsFrame_60 ha2 h10 ?_
        refine K_bind (fun u11 hu11 => ?_)
        refine K_callVI (As := [.int (S.2.1 a1 x5.toNatClampNeg), .int (S.2.1 a2 (x3 + x5).toNatClampNeg)]) (k_X12_fits fu hE ha0 hu11) dX12_fitsFrame_61 v_X12_130 ha0 rfl rfl rfl rfl (Nat.le_of_ble_eq_true rfl) ⟨Nat.le_of_ble_eq_true rfl, Nat.le_of_ble_eq_true rfl, Nat.le_of_ble_eq_true rfl, Nat.le_of_ble_eq_true rfl⟩ ?_
        refine K_istore (ls' := [(0, _), (1, _), (2, _), (3, _), (4, _), (5, _)]) dX12_fitsFrame_64 (by decide) rfl ?_
        refine K_iinc (v := (x5 + 1)) (ls' := [(0, _), (1, _), (2, _), (3, _), (4, _), (5, _)]) dX12_fitsFrame_66 rfl rfl (by decide) rfl ?_
        refine K_goto (tgt := 36) dX12_fitsFrame_69 (by decide) ?_
        refine K.keep [0, 1, 2, 3, 4, 5] ?_
        exact hrc36 x3 u11.1 (x5 + 1) u11.2
def sp_X12_fitsFrame (fu : Nat) (E : Ev) (S : St) (a0 : Nat) (a1 : Nat) (a2 : Nat) (x3 : Int32) : Option (Int32 × St) :=
  if inb (x3 + 24) 2600 = true then
    (
    if (S.2.1 a1 (24 : Int32).toNatClampNeg) = (S.2.1 a2 (x3 + 24).toNatClampNeg) then (
      if inb (x3 + 25) 2600 = true then
        (
        if (S.2.1 a2 (x3 + 25).toNatClampNeg) < (S.2.1 a1 (25 : Int32).toNatClampNeg) then (
          lp_X12_fitsFrame_36 fu E a0 a1 a2 fu x3 0 0 S
        ) else (
          lp_X12_fitsFrame_36 fu E a0 a1 a2 fu x3 1 0 S
        )
        )
      else none
    ) else (
      lp_X12_fitsFrame_36 fu E a0 a1 a2 fu x3 0 0 S
    )
    )
  else none
set_option maxRecDepth 100000 in
theorem k_X12_fitsFrame {l : Launch} (fu : Nat) {E : Ev} (hE : WE E) {a0 : Nat} (ha0 : E.1 a0 = some (0, 10, 0)) {a1 : Nat} (ha1 : E.1 a1 = some (1, 0, 26)) {a2 : Nat} (ha2 : E.1 a2 = some (1, 0, 2600)) {x3 : Int32} {S : St} {t : (Int32 × St)} (h : sp_X12_fitsFrame fu E S a0 a1 a2 x3 = some t) : Cn l mX12_fitsFrame [.ref a0, .ref a1, .ref a2, .int x3] (hp E S) (PoI E t) := by
  refine Cn.of (by decide) rfl (Nat.le_of_ble_eq_true rfl) (fun X _ _ hQ => ?_)
  refine (?_ : K mX12_fitsFrame X E 0 [(0, .ref a0), (1, .ref a1), (2, .ref a2), (3, .int x3)] [] S 0 0 (sp_X12_fitsFrame fu E S a0 a1 a2 x3) t) h
  unfold sp_X12_fitsFrame
  refine K_aload_n dX12_fitsFrame_0 rfl rfl ?_
  refine K_bipush (v := 24) dX12_fitsFrame_1 (by decide) ?_
  refine K_iald dX12_fitsFrame_3 ha1 (by decide) ?_
  refine K_aload_n dX12_fitsFrame_4 rfl rfl ?_
  refine K_iload_n dX12_fitsFrame_5 rfl rfl ?_
  refine K_bipush (v := 24) dX12_fitsFrame_6 (by decide) ?_
  refine K_iadd dX12_fitsFrame_8 ?_
  refine K_chk (fun h1 => ?_)
  refine K_iald dX12_fitsFrame_9 ha2 h1 ?_
  refine K_icmp_ne (tgt := 30) dX12_fitsFrame_10 (by decide) (fun c16 => ?_) (fun c16 => ?_)
  · refine K_iconst (v := 0) dX12_fitsFrame_30 (by decide) ?_
    refine K_istore (ls' := [(0, _), (1, _), (2, _), (3, _), (4, _)]) dX12_fitsFrame_31 (by decide) rfl ?_
    refine K_iconst (v := 0) dX12_fitsFrame_33 (by decide) ?_
    refine K_istore (ls' := [(0, _), (1, _), (2, _), (3, _), (4, _), (5, _)]) dX12_fitsFrame_34 (by decide) rfl ?_
    refine K.keep [0, 1, 2, 3, 4, 5] ?_
    exact kl_X12_fitsFrame_36 hQ hE fu ha0 ha1 ha2 fu x3 0 0 S
  · refine K_aload_n dX12_fitsFrame_13 rfl rfl ?_
    refine K_bipush (v := 25) dX12_fitsFrame_14 (by decide) ?_
    refine K_iald dX12_fitsFrame_16 ha1 (by decide) ?_
    refine K_aload_n dX12_fitsFrame_17 rfl rfl ?_
    refine K_iload_n dX12_fitsFrame_18 rfl rfl ?_
    refine K_bipush (v := 25) dX12_fitsFrame_19 (by decide) ?_
    refine K_iadd dX12_fitsFrame_21 ?_
    refine K_chk (fun h14 => ?_)
    refine K_iald dX12_fitsFrame_22 ha2 h14 ?_
    refine K_icmp_gt (tgt := 30) dX12_fitsFrame_23 (by decide) (fun c15 => ?_) (fun c15 => ?_)
    · refine K_iconst (v := 0) dX12_fitsFrame_30 (by decide) ?_
      refine K_istore (ls' := [(0, _), (1, _), (2, _), (3, _), (4, _)]) dX12_fitsFrame_31 (by decide) rfl ?_
      refine K_iconst (v := 0) dX12_fitsFrame_33 (by decide) ?_
      refine K_istore (ls' := [(0, _), (1, _), (2, _), (3, _), (4, _), (5, _)]) dX12_fitsFrame_34 (by decide) rfl ?_
      refine K.keep [0, 1, 2, 3, 4, 5] ?_
      exact kl_X12_fitsFrame_36 hQ hE fu ha0 ha1 ha2 fu x3 0 0 S
    · refine K_iconst (v := 1) dX12_fitsFrame_26 (by decide) ?_
      refine K_goto (tgt := 31) dX12_fitsFrame_27 (by decide) ?_
      refine K_istore (ls' := [(0, _), (1, _), (2, _), (3, _), (4, _)]) dX12_fitsFrame_31 (by decide) rfl ?_
      refine K_iconst (v := 0) dX12_fitsFrame_33 (by decide) ?_
      refine K_istore (ls' := [(0, _), (1, _), (2, _), (3, _), (4, _), (5, _)]) dX12_fitsFrame_34 (by decide) rfl ?_
      refine K.keep [0, 1, 2, 3, 4, 5] ?_
      exact kl_X12_fitsFrame_36 hQ hE fu ha0 ha1 ha2 fu x3 1 0 S
def jb_X12_merge_295 (fu : Nat) (E : Ev) (a0 a1 b0 : Nat) (x3 : Int32) (y1 : Int32) (y2 : Int32) (y3 : Int32) (S : St) : Option St :=
  if inb y1 100 = true then (
  if isB (y2 ||| y3) = true then (
    bnd (sG S b0 (y1.toNatClampNeg) (y2 ||| y3)) fun S12 =>
    if inb (x3 + 25) 2600 = true then
      (
      if inb (x3 + 25) 2600 = true then (
        bnd (sG S12 (E.2 a0 29) ((x3 + 25).toNatClampNeg) (if (S12.2.1 (E.2 a0 29) (x3 + 25).toNatClampNeg) < (S12.2.1 a1 (25 : Int32).toNatClampNeg) then (S12.2.1 a1 (25 : Int32).toNatClampNeg) else (S12.2.1 (E.2 a0 29) (x3 + 25).toNatClampNeg))) fun S17 =>
        some S17
      ) else none
      )
    else none
  ) else none
  ) else none
set_option maxRecDepth 100000 in
theorem kj_X12_merge_295 {X : Cx} {E : Ev} {t : St} {a0 a1 b0 : Nat} (hQ : EndR mX12_merge X (PoV E t)) (hE : WE E) (fu : Nat) (ha0 : E.1 a0 = some (0, 10, 0)) (ha1 : E.1 a1 = some (1, 0, 26)) (hb0 : E.1 b0 = some (1, 1, 100)) (x3 : Int32) (y1 : Int32) (y2 : Int32) (y3 : Int32) (S : St) : K mX12_merge X E 295 [(0, .ref a0), (1, .ref a1), (3, .int x3)] [.int y3, .int y2, .int y1, .ref b0] S 0 0 (jb_X12_merge_295 fu E a0 a1 b0 x3 y1 y2 y3 S) t := by
  unfold jb_X12_merge_295
  refine K_ior dX12_merge_295 ?_
  refine K_chk (fun h10 => ?_)
  refine K_chk (fun h11 => ?_)
  refine K_zast dX12_merge_296 hb0 h10 h11 ?_
  refine K_nmS (fun S12 => ?_)
  refine K_aload_n dX12_merge_297 rfl rfl ?_
  refine K_getC hE dX12_merge_298 f_X12_66_10 ha0 rfl rfl (fun h13 => ?_)
  refine K_iload_n dX12_merge_301 rfl rfl ?_
  refine K_bipush (v := 25) dX12_merge_302 (by decide) ?_
  refine K_iadd dX12_merge_304 ?_
  refine K_aload_n dX12_merge_305 rfl rfl ?_
  refine K_getC hE dX12_merge_306 f_X12_66_10 ha0 rfl rfl (fun h14 => ?_)
  refine K_iload_n dX12_merge_309 rfl rfl ?_
  refine K_bipush (v := 25) dX12_merge_310 (by decide) ?_
  refine K_iadd dX12_merge_312 ?_
  refine K_chk (fun h15 => ?_)
  refine K_iald dX12_merge_313 h14 h15 ?_
  refine K_aload_n dX12_merge_314 rfl rfl ?_
  refine K_bipush (v := 25) dX12_merge_315 (by decide) ?_
  refine K_iald dX12_merge_317 ha1 (by decide) ?_
  refine K_mmax dX12_merge_318 h_X12_327 (Nat.le_of_ble_eq_true rfl) (Nat.le_of_ble_eq_true rfl) (Nat.le_of_ble_eq_true rfl) (Nat.le_of_ble_eq_true rfl) ?_
  refine K_chk (fun h16 => ?_)
  refine K_iast dX12_merge_321 h13 h16 ?_
  refine K_nmS (fun S17 => ?_)
  exact K_vret dX12_merge_322 hQ rfl (Nat.le_of_ble_eq_true rfl) (Nat.le_of_ble_eq_true rfl)
def jb_X12_merge_248 (fu : Nat) (E : Ev) (a0 a1 b0 : Nat) (rc172 : Int32 → Int32 → Int32 → St → Option St) (x2 : Int32) (x3 : Int32) (x5 : Int32) (x6 : Int32) (y1 : Int32) (y2 : Int32) (y3 : Int32) (S : St) : Option St :=
  if inb y1 100 = true then (
  if isB (y2 ||| y3) = true then (
    bnd (sG S b0 (y1.toNatClampNeg) (y2 ||| y3)) fun S29 =>
    if inb (x3 + x5) 2600 = true then (
      bnd (sG S29 (E.2 a0 29) ((x3 + x5).toNatClampNeg) x6) fun S32 =>
      rc172 x2 x3 (x5 + 1) S32
    ) else none
  ) else none
  ) else none
set_option maxRecDepth 100000 in
theorem kj_X12_merge_248 {X : Cx} {E : Ev} {t : St} {a0 a1 b0 : Nat} {rc172 : Int32 → Int32 → Int32 → St → Option St} (hQ : EndR mX12_merge X (PoV E t)) (hE : WE E) (fu : Nat) (ha0 : E.1 a0 = some (0, 10, 0)) (ha1 : E.1 a1 = some (1, 0, 26)) (hb0 : E.1 b0 = some (1, 1, 100)) (hrc172 : ∀ (x2 : Int32) (x3 : Int32) (x5 : Int32) (S : St), K mX12_merge X E 172 [(0, .ref a0), (1, .ref a1), (2, .int x2), (3, .int x3), (5, .int x5)] [] S 0 0 (rc172 x2 x3 x5 S) t) (x2 : Int32) (x3 : Int32) (x5 : Int32) (x6 : Int32) (y1 : Int32) (y2 : Int32) (y3 : Int32) (S : St) : K mX12_merge X E 248 [(0, .ref a0), (1, .ref a1), (2, .int x2), (3, .int x3), (5, .int x5), (6, .int x6)] [.int y3, .int y2, .int y1, .ref b0] S 0 0 (jb_X12_merge_248 fu E a0 a1 b0 rc172 x2 x3 x5 x6 y1 y2 y3 S) t := by
  unfold jb_X12_merge_248
  refine K_ior dX12_merge_248 ?_
  refine K_chk (fun h27 => ?_)
  refine K_chk (fun h28 => ?_)
  refine K_zast dX12_merge_249 hb0 h27 h28 ?_
  refine K_nmS (fun S29 => ?_)
  refine K_aload_n dX12_merge_250 rfl rfl ?_
  refine K_getC hE dX12_merge_251 f_X12_66_10 ha0 rfl rfl (fun h30 => ?_)
  refine K_iload_n dX12_merge_254 rfl rfl ?_
  refine K_iload dX12_merge_255 rfl ?_
  refine K_iadd dX12_merge_257 ?_
  refine K_iload dX12_merge_258 rfl ?_
  refine K_chk (fun h31 => ?_)
  refine K_iast dX12_merge_260 h30 h31 ?_
  refine K_nmS (fun S32 => ?_)
  refine K_iinc (v := (x5 + 1)) (ls' := [(0, _), (1, _), (2, _), (3, _), (5, _), (6, _)]) dX12_merge_261 rfl rfl (by decide) rfl ?_
  refine K_goto (tgt := 172) dX12_merge_264 (by decide) ?_
  refine K.keep [0, 1, 2, 3, 5] ?_
  exact hrc172 x2 x3 (x5 + 1) S32
def jb_X12_merge_203 (fu : Nat) (E : Ev) (a0 a1 : Nat) (rc172 : Int32 → Int32 → Int32 → St → Option St) (x2 : Int32) (x3 : Int32) (x5 : Int32) (S : St) : Option St :=
  if inb (x3 + x5) 2600 = true then
    (
    if inb x5 26 = true then
      (
      (sp_X12_meet fu E S a0 (S.2.1 (E.2 a0 29) (x3 + x5).toNatClampNeg) (S.2.1 a1 x5.toNatClampNeg)).bind fun u22 =>
      if inb x2 100 = true then
        (
        if inb (x3 + x5) 2600 = true then
          (
          if u22.1 = (u22.2.2.1 (E.2 a0 29) (x3 + x5).toNatClampNeg) then (
            jb_X12_merge_248 fu E a0 a1 (E.2 a0 42) rc172 x2 x3 x5 u22.1 x2 (u22.2.2.1 (E.2 a0 42) x2.toNatClampNeg) 0 u22.2
          ) else (
            jb_X12_merge_248 fu E a0 a1 (E.2 a0 42) rc172 x2 x3 x5 u22.1 x2 (u22.2.2.1 (E.2 a0 42) x2.toNatClampNeg) 1 u22.2
          )
          )
        else none
        )
      else none
      )
    else none
    )
  else none
set_option maxRecDepth 100000 in
theorem kj_X12_merge_203 {X : Cx} {E : Ev} {t : St} {a0 a1 : Nat} {rc172 : Int32 → Int32 → Int32 → St → Option St} (hQ : EndR mX12_merge X (PoV E t)) (hE : WE E) (fu : Nat) (ha0 : E.1 a0 = some (0, 10, 0)) (ha1 : E.1 a1 = some (1, 0, 26)) (hrc172 : ∀ (x2 : Int32) (x3 : Int32) (x5 : Int32) (S : St), K mX12_merge X E 172 [(0, .ref a0), (1, .ref a1), (2, .int x2), (3, .int x3), (5, .int x5)] [] S 0 0 (rc172 x2 x3 x5 S) t) (x2 : Int32) (x3 : Int32) (x5 : Int32) (S : St) : K mX12_merge X E 203 [(0, .ref a0), (1, .ref a1), (2, .int x2), (3, .int x3), (5, .int x5)] [] S 0 0 (jb_X12_merge_203 fu E a0 a1 rc172 x2 x3 x5 S) t := by
  unfold jb_X12_merge_203
  refine K_aload_n dX12_merge_203 rfl rfl ?_
  refine K_aload_n dX12_merge_204 rfl rfl ?_
  refine K_getC hE dX12_merge_205 f_X12_66_10 ha0 rfl rfl (fun h19 => ?_)
  refine K_iload_n dX12_merge_208 rfl rfl ?_
  refine K_iload dX12_merge_209 rfl ?_
  refine K_iadd dX12_merge_211 ?_
  refine K_chk (fun h20 => ?_)
  refine K_iald dX12_merge_212 h19 h20 ?_
  refine K_aload_n dX12_merge_213 rfl rfl ?_
  refine K_iload dX12_merge_214 rfl ?_
  refine K_chk (fun h21 => ?_)
  refine K_iald dX12_merge_216 ha1 h21 ?_
  refine K_bind (fun u22 hu22 => ?_)
  refine K_callVI (As := [.int (S.2.1 (E.2 a0 29) (x3 + x5).toNatClampNeg), .int (S.2.1 a1 x5.toNatClampNeg)]) (k_X12_meet fu hE ha0 hu22) dX12_merge_217 v_X12_133 ha0 rfl rfl rfl rfl (Nat.le_of_ble_eq_true rfl) ⟨Nat.le_of_ble_eq_true rfl, Nat.le_of_ble_eq_true rfl, Nat.le_of_ble_eq_true rfl, Nat.le_of_ble_eq_true rfl⟩ ?_
  refine K_istore (ls' := [(0, _), (1, _), (2, _), (3, _), (5, _), (6, _)]) dX12_merge_220 (by decide) rfl ?_
  refine K_aload_n dX12_merge_222 rfl rfl ?_
  refine K_getC hE dX12_merge_223 f_X12_87_10 ha0 rfl rfl (fun h23 => ?_)
  refine K_iload_n dX12_merge_226 rfl rfl ?_
  refine K_dup2 dX12_merge_227 rfl rfl ?_
  refine K_chk (fun h24 => ?_)
  refine K_zald dX12_merge_228 h23 h24 ?_
  refine K_iload dX12_merge_229 rfl ?_
  refine K_aload_n dX12_merge_231 rfl rfl ?_
  refine K_getC hE dX12_merge_232 f_X12_66_10 ha0 rfl rfl (fun h25 => ?_)
  refine K_iload_n dX12_merge_235 rfl rfl ?_
  refine K_iload dX12_merge_236 rfl ?_
  refine K_iadd dX12_merge_238 ?_
  refine K_chk (fun h26 => ?_)
  refine K_iald dX12_merge_239 h25 h26 ?_
  refine K_icmp_eq (tgt := 247) dX12_merge_240 (by decide) (fun c33 => ?_) (fun c33 => ?_)
  · refine K_iconst (v := 0) dX12_merge_247 (by decide) ?_
    refine K.keep [0, 1, 2, 3, 5, 6] ?_
    exact kj_X12_merge_248 hQ hE fu ha0 ha1 h23 hrc172 x2 x3 x5 u22.1 x2 (u22.2.2.1 (E.2 a0 42) x2.toNatClampNeg) 0 u22.2
  · refine K_iconst (v := 1) dX12_merge_243 (by decide) ?_
    refine K_goto (tgt := 248) dX12_merge_244 (by decide) ?_
    refine K.keep [0, 1, 2, 3, 5, 6] ?_
    exact kj_X12_merge_248 hQ hE fu ha0 ha1 h23 hrc172 x2 x3 x5 u22.1 x2 (u22.2.2.1 (E.2 a0 42) x2.toNatClampNeg) 1 u22.2
def bd_X12_merge_172 (fu : Nat) (E : Ev) (a0 a1 : Nat) (rc172 : Int32 → Int32 → Int32 → St → Option St) (x2 : Int32) (x3 : Int32) (x5 : Int32) (S : St) : Option St :=
  if (12 + (S.2.1 a1 (24 : Int32).toNatClampNeg)) ≤ x5 then (
    if inb x2 100 = true then
      (
      if inb (x3 + 25) 2600 = true then
        (
        if (S.2.1 a1 (25 : Int32).toNatClampNeg) ≤ (S.2.1 (E.2 a0 29) (x3 + 25).toNatClampNeg) then (
          jb_X12_merge_295 fu E a0 a1 (E.2 a0 42) x3 x2 (S.2.1 (E.2 a0 42) x2.toNatClampNeg) 0 S
        ) else (
          jb_X12_merge_295 fu E a0 a1 (E.2 a0 42) x3 x2 (S.2.1 (E.2 a0 42) x2.toNatClampNeg) 1 S
        )
        )
      else none
      )
    else none
  ) else (
    if x5 < (S.1 a0 18) then (
      jb_X12_merge_203 fu E a0 a1 rc172 x2 x3 x5 S
    ) else (
      if 12 ≤ x5 then (
        jb_X12_merge_203 fu E a0 a1 rc172 x2 x3 x5 S
      ) else (
        rc172 x2 x3 (x5 + 1) S
      )
    )
  )
def lp_X12_merge_172 (fu : Nat) (E : Ev) (a0 a1 : Nat) : Nat → Int32 → Int32 → Int32 → St → Option St
  | 0, _, _, _, _ => none
  | f + 1, x2, x3, x5, S => bd_X12_merge_172 fu E a0 a1 (lp_X12_merge_172 fu E a0 a1 f) x2 x3 x5 S
set_option maxRecDepth 100000 in
theorem kl_X12_merge_172 {X : Cx} {E : Ev} {t : St} {a0 a1 : Nat} (hQ : EndR mX12_merge X (PoV E t)) (hE : WE E) (fu : Nat) (ha0 : E.1 a0 = some (0, 10, 0)) (ha1 : E.1 a1 = some (1, 0, 26)) : ∀ (f : Nat) (x2 : Int32) (x3 : Int32) (x5 : Int32) (S : St), K mX12_merge X E 172 [(0, .ref a0), (1, .ref a1), (2, .int x2), (3, .int x3), (5, .int x5)] [] S 0 0 (lp_X12_merge_172 fu E a0 a1 f x2 x3 x5 S) t := by
  intro f
  induction f with
  | zero => intro x2 x3 x5 S; exact K_none
  | succ f hrc172 =>
    intro x2 x3 x5 S
    show K _ _ _ _ _ _ _ _ _ (bd_X12_merge_172 fu E a0 a1 (lp_X12_merge_172 fu E a0 a1 f) x2 x3 x5 S) t
    unfold bd_X12_merge_172
    refine K_iload dX12_merge_172 rfl ?_
    refine K_bipush (v := 12) dX12_merge_174 (by decide) ?_
    refine K_aload_n dX12_merge_176 rfl rfl ?_
    refine K_bipush (v := 24) dX12_merge_177 (by decide) ?_
    refine K_iald dX12_merge_179 ha1 (by decide) ?_
    refine K_iadd dX12_merge_180 ?_
    refine K_icmp_ge (tgt := 267) dX12_merge_181 (by decide) (fun c36 => ?_) (fun c36 => ?_)
    · refine K_aload_n dX12_merge_267 rfl rfl ?_
      refine K_getC hE dX12_merge_268 f_X12_87_10 ha0 rfl rfl (fun h6 => ?_)
      refine K_iload_n dX12_merge_271 rfl rfl ?_
      refine K_dup2 dX12_merge_272 rfl rfl ?_
      refine K_chk (fun h7 => ?_)
      refine K_zald dX12_merge_273 h6 h7 ?_
      refine K_aload_n dX12_merge_274 rfl rfl ?_
      refine K_bipush (v := 25) dX12_merge_275 (by decide) ?_
      refine K_iald dX12_merge_277 ha1 (by decide) ?_
      refine K_aload_n dX12_merge_278 rfl rfl ?_
      refine K_getC hE dX12_merge_279 f_X12_66_10 ha0 rfl rfl (fun h8 => ?_)
      refine K_iload_n dX12_merge_282 rfl rfl ?_
      refine K_bipush (v := 25) dX12_merge_283 (by decide) ?_
      refine K_iadd dX12_merge_285 ?_
      refine K_chk (fun h9 => ?_)
      refine K_iald dX12_merge_286 h8 h9 ?_
      refine K_icmp_le (tgt := 294) dX12_merge_287 (by decide) (fun c18 => ?_) (fun c18 => ?_)
      · refine K_iconst (v := 0) dX12_merge_294 (by decide) ?_
        refine K.keep [0, 1, 3] ?_
        exact kj_X12_merge_295 hQ hE fu ha0 ha1 h6 x3 x2 (S.2.1 (E.2 a0 42) x2.toNatClampNeg) 0 S
      · refine K_iconst (v := 1) dX12_merge_290 (by decide) ?_
        refine K_goto (tgt := 295) dX12_merge_291 (by decide) ?_
        refine K.keep [0, 1, 3] ?_
        exact kj_X12_merge_295 hQ hE fu ha0 ha1 h6 x3 x2 (S.2.1 (E.2 a0 42) x2.toNatClampNeg) 1 S
    · refine K_iload dX12_merge_184 rfl ?_
      refine K_aload_n dX12_merge_186 rfl rfl ?_
      refine K_getI dX12_merge_187 f_X12_162_10 ha0 rfl ?_
      refine K_icmp_lt (tgt := 203) dX12_merge_190 (by decide) (fun c35 => ?_) (fun c35 => ?_)
      · refine K.keep [0, 1, 2, 3, 5] ?_
        exact kj_X12_merge_203 hQ hE fu ha0 ha1 hrc172 x2 x3 x5 S
      · refine K_iload dX12_merge_193 rfl ?_
        refine K_bipush (v := 12) dX12_merge_195 (by decide) ?_
        refine K_icmp_ge (tgt := 203) dX12_merge_197 (by decide) (fun c34 => ?_) (fun c34 => ?_)
        · refine K.keep [0, 1, 2, 3, 5] ?_
          exact kj_X12_merge_203 hQ hE fu ha0 ha1 hrc172 x2 x3 x5 S
        · refine K_goto (tgt := 261) dX12_merge_200 (by decide) ?_
          refine K_iinc (v := (x5 + 1)) (ls' := [(0, _), (1, _), (2, _), (3, _), (5, _)]) dX12_merge_261 rfl rfl (by decide) rfl ?_
          refine K_goto (tgt := 172) dX12_merge_264 (by decide) ?_
          refine K.keep [0, 1, 2, 3, 5] ?_
          exact hrc172 x2 x3 (x5 + 1) S
def jb_X12_merge_153 (fu : Nat) (E : Ev) (a0 a1 : Nat) (x2 : Int32) (x3 : Int32) (x4 : Int32) (S : St) : Option St :=
  if x4 = 0 then (
    (sp_X12_fail fu E S a0 8 (S.1 a0 43)).bind fun u37 =>
    some u37
  ) else (
    lp_X12_merge_172 fu E a0 a1 fu x2 x3 0 S
  )
set_option maxRecDepth 100000 in
theorem kj_X12_merge_153 {X : Cx} {E : Ev} {t : St} {a0 a1 : Nat} (hQ : EndR mX12_merge X (PoV E t)) (hE : WE E) (fu : Nat) (ha0 : E.1 a0 = some (0, 10, 0)) (ha1 : E.1 a1 = some (1, 0, 26)) (x2 : Int32) (x3 : Int32) (x4 : Int32) (S : St) : K mX12_merge X E 153 [(0, .ref a0), (1, .ref a1), (2, .int x2), (3, .int x3), (4, .int x4)] [] S 0 0 (jb_X12_merge_153 fu E a0 a1 x2 x3 x4 S) t := by
  unfold jb_X12_merge_153
  refine K_iload dX12_merge_153 rfl ?_
  refine K_if_ne (tgt := 169) dX12_merge_155 (by decide) (fun c38 => ?_) (fun c38 => ?_)
  · refine K_iconst (v := 0) dX12_merge_169 (by decide) ?_
    refine K_istore (ls' := [(0, _), (1, _), (2, _), (3, _), (4, _), (5, _)]) dX12_merge_170 (by decide) rfl ?_
    refine K.keep [0, 1, 2, 3, 5] ?_
    exact kl_X12_merge_172 hQ hE fu ha0 ha1 fu x2 x3 0 S
  · refine K_aload_n dX12_merge_158 rfl rfl ?_
    refine K_bipush (v := 8) dX12_merge_159 (by decide) ?_
    refine K_aload_n dX12_merge_161 rfl rfl ?_
    refine K_getI dX12_merge_162 f_X12_222_10 ha0 rfl ?_
    refine K_bind (fun u37 hu37 => ?_)
    refine K_callVV (As := [.int 8, .int (S.1 a0 43)]) (k_X12_fail fu hE ha0 hu37) dX12_merge_165 v_X12_208 ha0 rfl rfl rfl rfl (Nat.le_of_ble_eq_true rfl) ⟨Nat.le_of_ble_eq_true rfl, Nat.le_of_ble_eq_true rfl, Nat.le_of_ble_eq_true rfl, Nat.le_of_ble_eq_true rfl⟩ ?_
    exact K_vret dX12_merge_168 hQ rfl (Nat.le_of_ble_eq_true rfl) (Nat.le_of_ble_eq_true rfl)
def bd_X12_merge_85 (fu : Nat) (E : Ev) (a0 a1 : Nat) (rc85 : Int32 → Int32 → Int32 → Int32 → St → Option St) (x2 : Int32) (x3 : Int32) (x4 : Int32) (x5 : Int32) (S : St) : Option St :=
  if (12 + (S.2.1 a1 (24 : Int32).toNatClampNeg)) ≤ x5 then (
    jb_X12_merge_153 fu E a0 a1 x2 x3 x4 S
  ) else (
    if x4 = 0 then (
      jb_X12_merge_153 fu E a0 a1 x2 x3 x4 S
    ) else (
      if inb x5 26 = true then
        (
        if inb (x3 + x5) 2600 = true then
          (
          if (S.2.1 a1 x5.toNatClampNeg) = (S.2.1 (E.2 a0 29) (x3 + x5).toNatClampNeg) then (
            rc85 x2 x3 1 (x5 + 1) S
          ) else (
            if inb x5 26 = true then
              (
              if inb (x3 + x5) 2600 = true then
                (
                (sp_X12_meet fu E S a0 (S.2.1 a1 x5.toNatClampNeg) (S.2.1 (E.2 a0 29) (x3 + x5).toNatClampNeg)).bind fun u45 =>
                if u45.1 = (-2) then (
                  rc85 x2 x3 0 (x5 + 1) u45.2
                ) else (
                  rc85 x2 x3 1 (x5 + 1) u45.2
                )
                )
              else none
              )
            else none
          )
          )
        else none
        )
      else none
    )
  )
def lp_X12_merge_85 (fu : Nat) (E : Ev) (a0 a1 : Nat) : Nat → Int32 → Int32 → Int32 → Int32 → St → Option St
  | 0, _, _, _, _, _ => none
  | f + 1, x2, x3, x4, x5, S => bd_X12_merge_85 fu E a0 a1 (lp_X12_merge_85 fu E a0 a1 f) x2 x3 x4 x5 S
set_option maxRecDepth 100000 in
theorem kl_X12_merge_85 {X : Cx} {E : Ev} {t : St} {a0 a1 : Nat} (hQ : EndR mX12_merge X (PoV E t)) (hE : WE E) (fu : Nat) (ha0 : E.1 a0 = some (0, 10, 0)) (ha1 : E.1 a1 = some (1, 0, 26)) : ∀ (f : Nat) (x2 : Int32) (x3 : Int32) (x4 : Int32) (x5 : Int32) (S : St), K mX12_merge X E 85 [(0, .ref a0), (1, .ref a1), (2, .int x2), (3, .int x3), (4, .int x4), (5, .int x5)] [] S 0 0 (lp_X12_merge_85 fu E a0 a1 f x2 x3 x4 x5 S) t := by
  intro f
  induction f with
  | zero => intro x2 x3 x4 x5 S; exact K_none
  | succ f hrc85 =>
    intro x2 x3 x4 x5 S
    show K _ _ _ _ _ _ _ _ _ (bd_X12_merge_85 fu E a0 a1 (lp_X12_merge_85 fu E a0 a1 f) x2 x3 x4 x5 S) t
    unfold bd_X12_merge_85
    refine K_iload dX12_merge_85 rfl ?_
    refine K_bipush (v := 12) dX12_merge_87 (by decide) ?_
    refine K_aload_n dX12_merge_89 rfl rfl ?_
    refine K_bipush (v := 24) dX12_merge_90 (by decide) ?_
    refine K_iald dX12_merge_92 ha1 (by decide) ?_
    refine K_iadd dX12_merge_93 ?_
    refine K_icmp_ge (tgt := 153) dX12_merge_94 (by decide) (fun c49 => ?_) (fun c49 => ?_)
    · refine K.keep [0, 1, 2, 3, 4] ?_
      exact kj_X12_merge_153 hQ hE fu ha0 ha1 x2 x3 x4 S
    · refine K_iload dX12_merge_97 rfl ?_
      refine K_if_eq (tgt := 153) dX12_merge_99 (by decide) (fun c48 => ?_) (fun c48 => ?_)
      · refine K.keep [0, 1, 2, 3, 4] ?_
        exact kj_X12_merge_153 hQ hE fu ha0 ha1 x2 x3 x4 S
      · refine K_aload_n dX12_merge_102 rfl rfl ?_
        refine K_iload dX12_merge_103 rfl ?_
        refine K_chk (fun h39 => ?_)
        refine K_iald dX12_merge_105 ha1 h39 ?_
        refine K_aload_n dX12_merge_106 rfl rfl ?_
        refine K_getC hE dX12_merge_107 f_X12_66_10 ha0 rfl rfl (fun h40 => ?_)
        refine K_iload_n dX12_merge_110 rfl rfl ?_
        refine K_iload dX12_merge_111 rfl ?_
        refine K_iadd dX12_merge_113 ?_
        refine K_chk (fun h41 => ?_)
        refine K_iald dX12_merge_114 h40 h41 ?_
        refine K_icmp_eq (tgt := 140) dX12_merge_115 (by decide) (fun c47 => ?_) (fun c47 => ?_)
        · refine K_iconst (v := 1) dX12_merge_140 (by decide) ?_
          refine K_goto (tgt := 145) dX12_merge_141 (by decide) ?_
          refine K_istore (ls' := [(0, _), (1, _), (2, _), (3, _), (4, _), (5, _)]) dX12_merge_145 (by decide) rfl ?_
          refine K_iinc (v := (x5 + 1)) (ls' := [(0, _), (1, _), (2, _), (3, _), (4, _), (5, _)]) dX12_merge_147 rfl rfl (by decide) rfl ?_
          refine K_goto (tgt := 85) dX12_merge_150 (by decide) ?_
          refine K.keep [0, 1, 2, 3, 4, 5] ?_
          exact hrc85 x2 x3 1 (x5 + 1) S
        · refine K_aload_n dX12_merge_118 rfl rfl ?_
          refine K_aload_n dX12_merge_119 rfl rfl ?_
          refine K_iload dX12_merge_120 rfl ?_
          refine K_chk (fun h42 => ?_)
          refine K_iald dX12_merge_122 ha1 h42 ?_
          refine K_aload_n dX12_merge_123 rfl rfl ?_
          refine K_getC hE dX12_merge_124 f_X12_66_10 ha0 rfl rfl (fun h43 => ?_)
          refine K_iload_n dX12_merge_127 rfl rfl ?_
          refine K_iload dX12_merge_128 rfl ?_
          refine K_iadd dX12_merge_130 ?_
          refine K_chk (fun h44 => ?_)
          refine K_iald dX12_merge_131 h43 h44 ?_
          refine K_bind (fun u45 hu45 => ?_)
          refine K_callVI (As := [.int (S.2.1 a1 x5.toNatClampNeg), .int (S.2.1 (E.2 a0 29) (x3 + x5).toNatClampNeg)]) (k_X12_meet fu hE ha0 hu45) dX12_merge_132 v_X12_133 ha0 rfl rfl rfl rfl (Nat.le_of_ble_eq_true rfl) ⟨Nat.le_of_ble_eq_true rfl, Nat.le_of_ble_eq_true rfl, Nat.le_of_ble_eq_true rfl, Nat.le_of_ble_eq_true rfl⟩ ?_
          refine K_bipush (v := (-2)) dX12_merge_135 (by decide) ?_
          refine K_icmp_eq (tgt := 144) dX12_merge_137 (by decide) (fun c46 => ?_) (fun c46 => ?_)
          · refine K_iconst (v := 0) dX12_merge_144 (by decide) ?_
            refine K_istore (ls' := [(0, _), (1, _), (2, _), (3, _), (4, _), (5, _)]) dX12_merge_145 (by decide) rfl ?_
            refine K_iinc (v := (x5 + 1)) (ls' := [(0, _), (1, _), (2, _), (3, _), (4, _), (5, _)]) dX12_merge_147 rfl rfl (by decide) rfl ?_
            refine K_goto (tgt := 85) dX12_merge_150 (by decide) ?_
            refine K.keep [0, 1, 2, 3, 4, 5] ?_
            exact hrc85 x2 x3 0 (x5 + 1) u45.2
          · refine K_iconst (v := 1) dX12_merge_140 (by decide) ?_
            refine K_goto (tgt := 145) dX12_merge_141 (by decide) ?_
            refine K_istore (ls' := [(0, _), (1, _), (2, _), (3, _), (4, _), (5, _)]) dX12_merge_145 (by decide) rfl ?_
            refine K_iinc (v := (x5 + 1)) (ls' := [(0, _), (1, _), (2, _), (3, _), (4, _), (5, _)]) dX12_merge_147 rfl rfl (by decide) rfl ?_
            refine K_goto (tgt := 85) dX12_merge_150 (by decide) ?_
            refine K.keep [0, 1, 2, 3, 4, 5] ?_
            exact hrc85 x2 x3 1 (x5 + 1) u45.2
def bd_X12_merge_17 (fu : Nat) (E : Ev) (a0 a1 : Nat) (rc17 : Int32 → Int32 → Int32 → St → Option St) (x2 : Int32) (x3 : Int32) (x4 : Int32) (S : St) : Option St :=
  if 26 ≤ x4 then (
    if inb x2 100 = true then (
      bnd (sG S (E.2 a0 28) (x2.toNatClampNeg) 1) fun S53 =>
      if inb x2 100 = true then (
        bnd (sG S53 (E.2 a0 42) (x2.toNatClampNeg) 1) fun S56 =>
        some S56
      ) else none
    ) else none
  ) else (
    if inb x4 26 = true then
      (
      if inb (x3 + x4) 2600 = true then (
        bnd (sG S (E.2 a0 29) ((x3 + x4).toNatClampNeg) (S.2.1 a1 x4.toNatClampNeg)) fun S60 =>
        rc17 x2 x3 (x4 + 1) S60
      ) else none
      )
    else none
  )
def lp_X12_merge_17 (fu : Nat) (E : Ev) (a0 a1 : Nat) : Nat → Int32 → Int32 → Int32 → St → Option St
  | 0, _, _, _, _ => none
  | f + 1, x2, x3, x4, S => bd_X12_merge_17 fu E a0 a1 (lp_X12_merge_17 fu E a0 a1 f) x2 x3 x4 S
set_option maxRecDepth 100000 in
theorem kl_X12_merge_17 {X : Cx} {E : Ev} {t : St} {a0 a1 : Nat} (hQ : EndR mX12_merge X (PoV E t)) (hE : WE E) (fu : Nat) (ha0 : E.1 a0 = some (0, 10, 0)) (ha1 : E.1 a1 = some (1, 0, 26)) : ∀ (f : Nat) (x2 : Int32) (x3 : Int32) (x4 : Int32) (S : St), K mX12_merge X E 17 [(0, .ref a0), (1, .ref a1), (2, .int x2), (3, .int x3), (4, .int x4)] [] S 0 0 (lp_X12_merge_17 fu E a0 a1 f x2 x3 x4 S) t := by
  intro f
  induction f with
  | zero => intro x2 x3 x4 S; exact K_none
  | succ f hrc17 =>
    intro x2 x3 x4 S
    show K _ _ _ _ _ _ _ _ _ (bd_X12_merge_17 fu E a0 a1 (lp_X12_merge_17 fu E a0 a1 f) x2 x3 x4 S) t
    unfold bd_X12_merge_17
    refine K_iload dX12_merge_17 rfl ?_
    refine K_bipush (v := 26) dX12_merge_19 (by decide) ?_
    refine K_icmp_ge (tgt := 43) dX12_merge_21 (by decide) (fun c61 => ?_) (fun c61 => ?_)
    · refine K_aload_n dX12_merge_43 rfl rfl ?_
      refine K_getC hE dX12_merge_44 f_X12_63_10 ha0 rfl rfl (fun h51 => ?_)
      refine K_iload_n dX12_merge_47 rfl rfl ?_
      refine K_iconst (v := 1) dX12_merge_48 (by decide) ?_
      refine K_chk (fun h52 => ?_)
      refine K_zast dX12_merge_49 h51 h52 rfl ?_
      refine K_nmS (fun S53 => ?_)
      refine K_aload_n dX12_merge_50 rfl rfl ?_
      refine K_getC hE dX12_merge_51 f_X12_87_10 ha0 rfl rfl (fun h54 => ?_)
      refine K_iload_n dX12_merge_54 rfl rfl ?_
      refine K_iconst (v := 1) dX12_merge_55 (by decide) ?_
      refine K_chk (fun h55 => ?_)
      refine K_zast dX12_merge_56 h54 h55 rfl ?_
      refine K_nmS (fun S56 => ?_)
      exact K_vret dX12_merge_57 hQ rfl (Nat.le_of_ble_eq_true rfl) (Nat.le_of_ble_eq_true rfl)
    · refine K_aload_n dX12_merge_24 rfl rfl ?_
      refine K_getC hE dX12_merge_25 f_X12_66_10 ha0 rfl rfl (fun h57 => ?_)
      refine K_iload_n dX12_merge_28 rfl rfl ?_
      refine K_iload dX12_merge_29 rfl ?_
      refine K_iadd dX12_merge_31 ?_
      refine K_aload_n dX12_merge_32 rfl rfl ?_
      refine K_iload dX12_merge_33 rfl ?_
      refine K_chk (fun h58 => ?_)
      refine K_iald dX12_merge_35 ha1 h58 ?_
      refine K_chk (fun h59 => ?_)
      refine K_iast dX12_merge_36 h57 h59 ?_
      refine K_nmS (fun S60 => ?_)
      refine K_iinc (v := (x4 + 1)) (ls' := [(0, _), (1, _), (2, _), (3, _), (4, _)]) dX12_merge_37 rfl rfl (by decide) rfl ?_
      refine K_goto (tgt := 17) dX12_merge_40 (by decide) ?_
      refine K.keep [0, 1, 2, 3, 4] ?_
      exact hrc17 x2 x3 (x4 + 1) S60
def sp_X12_merge (fu : Nat) (E : Ev) (S : St) (a0 : Nat) (a1 : Nat) (x2 : Int32) : Option St :=
  bnd (26 * x2) fun v1 =>
  if inb x2 100 = true then
    (
    if (S.2.1 (E.2 a0 28) x2.toNatClampNeg) = 0 then (
      lp_X12_merge_17 fu E a0 a1 fu x2 v1 0 S
    ) else (
      if inb (v1 + 24) 2600 = true then
        (
        if (S.2.1 a1 (24 : Int32).toNatClampNeg) = (S.2.1 (E.2 a0 29) (v1 + 24).toNatClampNeg) then (
          lp_X12_merge_85 fu E a0 a1 fu x2 v1 1 12 S
        ) else (
          lp_X12_merge_85 fu E a0 a1 fu x2 v1 0 12 S
        )
        )
      else none
    )
    )
  else none
set_option maxRecDepth 100000 in
theorem k_X12_merge {l : Launch} (fu : Nat) {E : Ev} (hE : WE E) {a0 : Nat} (ha0 : E.1 a0 = some (0, 10, 0)) {a1 : Nat} (ha1 : E.1 a1 = some (1, 0, 26)) {x2 : Int32} {S : St} {t : St} (h : sp_X12_merge fu E S a0 a1 x2 = some t) : Cn l mX12_merge [.ref a0, .ref a1, .int x2] (hp E S) (PoV E t) := by
  refine Cn.of (by decide) rfl (Nat.le_of_ble_eq_true rfl) (fun X _ _ hQ => ?_)
  refine (?_ : K mX12_merge X E 0 [(0, .ref a0), (1, .ref a1), (2, .int x2)] [] S 0 0 (sp_X12_merge fu E S a0 a1 x2) t) h
  unfold sp_X12_merge
  refine K_bipush (v := 26) dX12_merge_0 (by decide) ?_
  refine K_iload_n dX12_merge_2 rfl rfl ?_
  refine K_imul dX12_merge_3 ?_
  refine K_nmI (fun v1 => ?_)
  refine K_istore_n (ls' := [(0, _), (1, _), (2, _), (3, _)]) dX12_merge_4 rfl (by decide) rfl ?_
  refine K_aload_n dX12_merge_5 rfl rfl ?_
  refine K_getC hE dX12_merge_6 f_X12_63_10 ha0 rfl rfl (fun h2 => ?_)
  refine K_iload_n dX12_merge_9 rfl rfl ?_
  refine K_chk (fun h3 => ?_)
  refine K_zald dX12_merge_10 h2 h3 ?_
  refine K_if_ne (tgt := 58) dX12_merge_11 (by decide) (fun c62 => ?_) (fun c62 => ?_)
  · refine K_aload_n dX12_merge_58 rfl rfl ?_
    refine K_bipush (v := 24) dX12_merge_59 (by decide) ?_
    refine K_iald dX12_merge_61 ha1 (by decide) ?_
    refine K_aload_n dX12_merge_62 rfl rfl ?_
    refine K_getC hE dX12_merge_63 f_X12_66_10 ha0 rfl rfl (fun h4 => ?_)
    refine K_iload_n dX12_merge_66 rfl rfl ?_
    refine K_bipush (v := 24) dX12_merge_67 (by decide) ?_
    refine K_iadd dX12_merge_69 ?_
    refine K_chk (fun h5 => ?_)
    refine K_iald dX12_merge_70 h4 h5 ?_
    refine K_icmp_ne (tgt := 78) dX12_merge_71 (by decide) (fun c50 => ?_) (fun c50 => ?_)
    · refine K_iconst (v := 0) dX12_merge_78 (by decide) ?_
      refine K_istore (ls' := [(0, _), (1, _), (2, _), (3, _), (4, _)]) dX12_merge_79 (by decide) rfl ?_
      refine K_bipush (v := 12) dX12_merge_81 (by decide) ?_
      refine K_istore (ls' := [(0, _), (1, _), (2, _), (3, _), (4, _), (5, _)]) dX12_merge_83 (by decide) rfl ?_
      refine K.keep [0, 1, 2, 3, 4, 5] ?_
      exact kl_X12_merge_85 hQ hE fu ha0 ha1 fu x2 v1 0 12 S
    · refine K_iconst (v := 1) dX12_merge_74 (by decide) ?_
      refine K_goto (tgt := 79) dX12_merge_75 (by decide) ?_
      refine K_istore (ls' := [(0, _), (1, _), (2, _), (3, _), (4, _)]) dX12_merge_79 (by decide) rfl ?_
      refine K_bipush (v := 12) dX12_merge_81 (by decide) ?_
      refine K_istore (ls' := [(0, _), (1, _), (2, _), (3, _), (4, _), (5, _)]) dX12_merge_83 (by decide) rfl ?_
      refine K.keep [0, 1, 2, 3, 4, 5] ?_
      exact kl_X12_merge_85 hQ hE fu ha0 ha1 fu x2 v1 1 12 S
  · refine K_iconst (v := 0) dX12_merge_14 (by decide) ?_
    refine K_istore (ls' := [(0, _), (1, _), (2, _), (3, _), (4, _)]) dX12_merge_15 (by decide) rfl ?_
    refine K.keep [0, 1, 2, 3, 4] ?_
    exact kl_X12_merge_17 hQ hE fu ha0 ha1 fu x2 v1 0 S
def sp_X12_flow (fu : Nat) (E : Ev) (S : St) (a0 : Nat) (a1 : Nat) (x2 : Int32) : Option St :=
  (sp_X12_isWell fu E S a0).bind fun u1 =>
  if u1.1 = 0 then (
    some u1.2
  ) else (
    if (u1.2.1 a0 38) = 0 then (
      (sp_X12_merge fu E u1.2 a0 a1 x2).bind fun u10 =>
      some u10
    ) else (
      if inb x2 100 = true then
        (
        if (u1.2.2.1 (E.2 a0 30) x2.toNatClampNeg) = 0 then (
          (sp_X12_fail fu E u1.2 a0 10 (u1.2.1 a0 43)).bind fun u4 =>
          some u4
        ) else (
          (sp_X12_fitsFrame fu E u1.2 a0 a1 (E.2 a0 31) (26 * x2)).bind fun u6 =>
          if u6.1 = 0 then (
            (sp_X12_fail fu E u6.2 a0 10 (u6.2.1 a0 43)).bind fun u7 =>
            some u7
          ) else (
            some u6.2
          )
        )
        )
      else none
    )
  )
set_option maxRecDepth 100000 in
theorem k_X12_flow {l : Launch} (fu : Nat) {E : Ev} (hE : WE E) {a0 : Nat} (ha0 : E.1 a0 = some (0, 10, 0)) {a1 : Nat} (ha1 : E.1 a1 = some (1, 0, 26)) {x2 : Int32} {S : St} {t : St} (h : sp_X12_flow fu E S a0 a1 x2 = some t) : Cn l mX12_flow [.ref a0, .ref a1, .int x2] (hp E S) (PoV E t) := by
  refine Cn.of (by decide) rfl (Nat.le_of_ble_eq_true rfl) (fun X _ _ hQ => ?_)
  refine (?_ : K mX12_flow X E 0 [(0, .ref a0), (1, .ref a1), (2, .int x2)] [] S 0 0 (sp_X12_flow fu E S a0 a1 x2) t) h
  unfold sp_X12_flow
  refine K_aload_n dX12_flow_0 rfl rfl ?_
  refine K_bind (fun u1 hu1 => ?_)
  refine K_callVI (As := []) (k_X12_isWell fu hE ha0 hu1) dX12_flow_1 v_X12_218 ha0 rfl rfl rfl rfl (Nat.le_of_ble_eq_true rfl) ⟨Nat.le_of_ble_eq_true rfl, Nat.le_of_ble_eq_true rfl, Nat.le_of_ble_eq_true rfl, Nat.le_of_ble_eq_true rfl⟩ ?_
  refine K_if_ne (tgt := 8) dX12_flow_4 (by decide) (fun c12 => ?_) (fun c12 => ?_)
  · refine K_aload_n dX12_flow_8 rfl rfl ?_
    refine K_getI dX12_flow_9 f_X12_316_10 ha0 rfl ?_
    refine K_if_ne (tgt := 24) dX12_flow_12 (by decide) (fun c11 => ?_) (fun c11 => ?_)
    · refine K_aload_n dX12_flow_24 rfl rfl ?_
      refine K_getC hE dX12_flow_25 f_X12_69_10 ha0 rfl rfl (fun h2 => ?_)
      refine K_iload_n dX12_flow_28 rfl rfl ?_
      refine K_chk (fun h3 => ?_)
      refine K_zald dX12_flow_29 h2 h3 ?_
      refine K_if_eq (tgt := 49) dX12_flow_30 (by decide) (fun c9 => ?_) (fun c9 => ?_)
      · refine K_aload_n dX12_flow_49 rfl rfl ?_
        refine K_bipush (v := 10) dX12_flow_50 (by decide) ?_
        refine K_aload_n dX12_flow_52 rfl rfl ?_
        refine K_getI dX12_flow_53 f_X12_222_10 ha0 rfl ?_
        refine K_bind (fun u4 hu4 => ?_)
        refine K_callVV (As := [.int 10, .int (u1.2.1 a0 43)]) (k_X12_fail fu hE ha0 hu4) dX12_flow_56 v_X12_208 ha0 rfl rfl rfl rfl (Nat.le_of_ble_eq_true rfl) ⟨Nat.le_of_ble_eq_true rfl, Nat.le_of_ble_eq_true rfl, Nat.le_of_ble_eq_true rfl, Nat.le_of_ble_eq_true rfl⟩ ?_
        exact K_vret dX12_flow_59 hQ rfl (Nat.le_of_ble_eq_true rfl) (Nat.le_of_ble_eq_true rfl)
      · refine K_aload_n dX12_flow_33 rfl rfl ?_
        refine K_aload_n dX12_flow_34 rfl rfl ?_
        refine K_aload_n dX12_flow_35 rfl rfl ?_
        refine K_getC hE dX12_flow_36 f_X12_72_10 ha0 rfl rfl (fun h5 => ?_)
        refine K_bipush (v := 26) dX12_flow_39 (by decide) ?_
        refine K_iload_n dX12_flow_41 rfl rfl ?_
        refine K_imul dX12_flow_42 ?_
        refine K_bind (fun u6 hu6 => ?_)
        refine K_callVI (As := [.ref a1, .ref (E.2 a0 31), .int (26 * x2)]) (k_X12_fitsFrame fu hE ha0 ha1 h5 hu6) dX12_flow_43 v_X12_323 ha0 rfl rfl rfl rfl (Nat.le_of_ble_eq_true rfl) ⟨Nat.le_of_ble_eq_true rfl, Nat.le_of_ble_eq_true rfl, Nat.le_of_ble_eq_true rfl, Nat.le_of_ble_eq_true rfl⟩ ?_
        refine K_if_ne (tgt := 59) dX12_flow_46 (by decide) (fun c8 => ?_) (fun c8 => ?_)
        · exact K_vret dX12_flow_59 hQ rfl (Nat.le_of_ble_eq_true rfl) (Nat.le_of_ble_eq_true rfl)
        · refine K_aload_n dX12_flow_49 rfl rfl ?_
          refine K_bipush (v := 10) dX12_flow_50 (by decide) ?_
          refine K_aload_n dX12_flow_52 rfl rfl ?_
          refine K_getI dX12_flow_53 f_X12_222_10 ha0 rfl ?_
          refine K_bind (fun u7 hu7 => ?_)
          refine K_callVV (As := [.int 10, .int (u6.2.1 a0 43)]) (k_X12_fail fu hE ha0 hu7) dX12_flow_56 v_X12_208 ha0 rfl rfl rfl rfl (Nat.le_of_ble_eq_true rfl) ⟨Nat.le_of_ble_eq_true rfl, Nat.le_of_ble_eq_true rfl, Nat.le_of_ble_eq_true rfl, Nat.le_of_ble_eq_true rfl⟩ ?_
          exact K_vret dX12_flow_59 hQ rfl (Nat.le_of_ble_eq_true rfl) (Nat.le_of_ble_eq_true rfl)
    · refine K_aload_n dX12_flow_15 rfl rfl ?_
      refine K_aload_n dX12_flow_16 rfl rfl ?_
      refine K_iload_n dX12_flow_17 rfl rfl ?_
      refine K_bind (fun u10 hu10 => ?_)
      refine K_callVV (As := [.ref a1, .int x2]) (k_X12_merge fu hE ha0 ha1 hu10) dX12_flow_18 v_X12_319 ha0 rfl rfl rfl rfl (Nat.le_of_ble_eq_true rfl) ⟨Nat.le_of_ble_eq_true rfl, Nat.le_of_ble_eq_true rfl, Nat.le_of_ble_eq_true rfl, Nat.le_of_ble_eq_true rfl⟩ ?_
      refine K_goto (tgt := 59) dX12_flow_21 (by decide) ?_
      exact K_vret dX12_flow_59 hQ rfl (Nat.le_of_ble_eq_true rfl) (Nat.le_of_ble_eq_true rfl)
  · exact K_vret dX12_flow_7 hQ rfl (Nat.le_of_ble_eq_true rfl) (Nat.le_of_ble_eq_true rfl)
def jb_X12_process_232 (fu : Nat) (E : Ev) (a0 : Nat) (x1 : Int32) (S : St) : Option St :=
  if inb x1 100 = true then
    (
    (sp_X12_isJump fu E S (S.2.1 (E.2 a0 20) x1.toNatClampNeg)).bind fun u7 =>
    if u7.1 = 0 then (
      some u7.2
    ) else (
      if inb x1 100 = true then
        (
        (sp_X12_flow fu E u7.2 a0 (E.2 a0 39) (u7.2.2.1 (E.2 a0 21) x1.toNatClampNeg)).bind fun u11 =>
        some u11
        )
      else none
    )
    )
  else none
set_option maxRecDepth 100000 in
theorem kj_X12_process_232 {X : Cx} {E : Ev} {t : St} {a0 : Nat} (hQ : EndR mX12_process X (PoV E t)) (hE : WE E) (fu : Nat) (ha0 : E.1 a0 = some (0, 10, 0)) (x1 : Int32) (S : St) : K mX12_process X E 232 [(0, .ref a0), (1, .int x1)] [] S 0 0 (jb_X12_process_232 fu E a0 x1 S) t := by
  unfold jb_X12_process_232
  refine K_aload_n dX12_process_232 rfl rfl ?_
  refine K_getC hE dX12_process_233 f_X12_45_10 ha0 rfl rfl (fun h5 => ?_)
  refine K_iload_n dX12_process_236 rfl rfl ?_
  refine K_chk (fun h6 => ?_)
  refine K_iald dX12_process_237 h5 h6 ?_
  refine K_bind (fun u7 hu7 => ?_)
  refine K_callSI (As := [.int (S.2.1 (E.2 a0 20) x1.toNatClampNeg)]) (k_X12_isJump fu hE hu7) dX12_process_238 s_X12_192 rfl rfl (Nat.le_of_ble_eq_true rfl) ⟨Nat.le_of_ble_eq_true rfl, Nat.le_of_ble_eq_true rfl, Nat.le_of_ble_eq_true rfl, Nat.le_of_ble_eq_true rfl⟩ ?_
  refine K_if_eq (tgt := 258) dX12_process_241 (by decide) (fun c12 => ?_) (fun c12 => ?_)
  · exact K_vret dX12_process_258 hQ rfl (Nat.le_of_ble_eq_true rfl) (Nat.le_of_ble_eq_true rfl)
  · refine K_aload_n dX12_process_244 rfl rfl ?_
    refine K_aload_n dX12_process_245 rfl rfl ?_
    refine K_getC hE dX12_process_246 f_X12_81_10 ha0 rfl rfl (fun h8 => ?_)
    refine K_aload_n dX12_process_249 rfl rfl ?_
    refine K_getC hE dX12_process_250 f_X12_48_10 ha0 rfl rfl (fun h9 => ?_)
    refine K_iload_n dX12_process_253 rfl rfl ?_
    refine K_chk (fun h10 => ?_)
    refine K_iald dX12_process_254 h9 h10 ?_
    refine K_bind (fun u11 hu11 => ?_)
    refine K_callVV (As := [.ref (E.2 a0 39), .int (u7.2.2.1 (E.2 a0 21) x1.toNatClampNeg)]) (k_X12_flow fu hE ha0 h8 hu11) dX12_process_255 v_X12_332 ha0 rfl rfl rfl rfl (Nat.le_of_ble_eq_true rfl) ⟨Nat.le_of_ble_eq_true rfl, Nat.le_of_ble_eq_true rfl, Nat.le_of_ble_eq_true rfl, Nat.le_of_ble_eq_true rfl⟩ ?_
    exact K_vret dX12_process_258 hQ rfl (Nat.le_of_ble_eq_true rfl) (Nat.le_of_ble_eq_true rfl)
def jb_X12_process_167 (fu : Nat) (E : Ev) (a0 : Nat) (x1 : Int32) (S : St) : Option St :=
  (sp_X12_isWell fu E S a0).bind fun u4 =>
  if u4.1 = 0 then (
    jb_X12_process_232 fu E a0 x1 u4.2
  ) else (
    if inb x1 100 = true then
      (
      (sp_X12_goesOn fu E u4.2 (u4.2.2.1 (E.2 a0 20) x1.toNatClampNeg)).bind fun u15 =>
      if u15.1 = 0 then (
        jb_X12_process_232 fu E a0 x1 u15.2
      ) else (
        if (x1 + 1) = (u15.2.1 a0 19) then (
          (sp_X12_fail fu E u15.2 a0 7 x1).bind fun u20 =>
          jb_X12_process_232 fu E a0 x1 u20
        ) else (
          if (u15.2.1 a0 38) = 0 then (
            (sp_X12_merge fu E u15.2 a0 (E.2 a0 39) (x1 + 1)).bind fun u17 =>
            jb_X12_process_232 fu E a0 x1 u17
          ) else (
            bnd (sF u15.2 a0 41 1) fun S18 =>
            jb_X12_process_232 fu E a0 x1 S18
          )
        )
      )
      )
    else none
  )
set_option maxRecDepth 100000 in
theorem kj_X12_process_167 {X : Cx} {E : Ev} {t : St} {a0 : Nat} (hQ : EndR mX12_process X (PoV E t)) (hE : WE E) (fu : Nat) (ha0 : E.1 a0 = some (0, 10, 0)) (x1 : Int32) (S : St) : K mX12_process X E 167 [(0, .ref a0), (1, .int x1)] [] S 0 0 (jb_X12_process_167 fu E a0 x1 S) t := by
  unfold jb_X12_process_167
  refine K_aload_n dX12_process_167 rfl rfl ?_
  refine K_bind (fun u4 hu4 => ?_)
  refine K_callVI (As := []) (k_X12_isWell fu hE ha0 hu4) dX12_process_168 v_X12_218 ha0 rfl rfl rfl rfl (Nat.le_of_ble_eq_true rfl) ⟨Nat.le_of_ble_eq_true rfl, Nat.le_of_ble_eq_true rfl, Nat.le_of_ble_eq_true rfl, Nat.le_of_ble_eq_true rfl⟩ ?_
  refine K_if_eq (tgt := 232) dX12_process_171 (by decide) (fun c23 => ?_) (fun c23 => ?_)
  · refine K.keep [0, 1] ?_
    exact kj_X12_process_232 hQ hE fu ha0 x1 u4.2
  · refine K_aload_n dX12_process_174 rfl rfl ?_
    refine K_getC hE dX12_process_175 f_X12_45_10 ha0 rfl rfl (fun h13 => ?_)
    refine K_iload_n dX12_process_178 rfl rfl ?_
    refine K_chk (fun h14 => ?_)
    refine K_iald dX12_process_179 h13 h14 ?_
    refine K_bind (fun u15 hu15 => ?_)
    refine K_callSI (As := [.int (u4.2.2.1 (E.2 a0 20) x1.toNatClampNeg)]) (k_X12_goesOn fu hE hu15) dX12_process_180 s_X12_199 rfl rfl (Nat.le_of_ble_eq_true rfl) ⟨Nat.le_of_ble_eq_true rfl, Nat.le_of_ble_eq_true rfl, Nat.le_of_ble_eq_true rfl, Nat.le_of_ble_eq_true rfl⟩ ?_
    refine K_if_eq (tgt := 232) dX12_process_183 (by decide) (fun c22 => ?_) (fun c22 => ?_)
    · refine K.keep [0, 1] ?_
      exact kj_X12_process_232 hQ hE fu ha0 x1 u15.2
    · refine K_iload_n dX12_process_186 rfl rfl ?_
      refine K_iconst (v := 1) dX12_process_187 (by decide) ?_
      refine K_iadd dX12_process_188 ?_
      refine K_aload_n dX12_process_189 rfl rfl ?_
      refine K_getI dX12_process_190 f_X12_165_10 ha0 rfl ?_
      refine K_icmp_ne (tgt := 206) dX12_process_193 (by decide) (fun c21 => ?_) (fun c21 => ?_)
      · refine K_aload_n dX12_process_206 rfl rfl ?_
        refine K_getI dX12_process_207 f_X12_316_10 ha0 rfl ?_
        refine K_if_eq (tgt := 221) dX12_process_210 (by decide) (fun c19 => ?_) (fun c19 => ?_)
        · refine K_aload_n dX12_process_221 rfl rfl ?_
          refine K_aload_n dX12_process_222 rfl rfl ?_
          refine K_getC hE dX12_process_223 f_X12_81_10 ha0 rfl rfl (fun h16 => ?_)
          refine K_iload_n dX12_process_226 rfl rfl ?_
          refine K_iconst (v := 1) dX12_process_227 (by decide) ?_
          refine K_iadd dX12_process_228 ?_
          refine K_bind (fun u17 hu17 => ?_)
          refine K_callVV (As := [.ref (E.2 a0 39), .int (x1 + 1)]) (k_X12_merge fu hE ha0 h16 hu17) dX12_process_229 v_X12_319 ha0 rfl rfl rfl rfl (Nat.le_of_ble_eq_true rfl) ⟨Nat.le_of_ble_eq_true rfl, Nat.le_of_ble_eq_true rfl, Nat.le_of_ble_eq_true rfl, Nat.le_of_ble_eq_true rfl⟩ ?_
          refine K.keep [0, 1] ?_
          exact kj_X12_process_232 hQ hE fu ha0 x1 u17
        · refine K_aload_n dX12_process_213 rfl rfl ?_
          refine K_iconst (v := 1) dX12_process_214 (by decide) ?_
          refine K_putZ dX12_process_215 p_X12_338_10 ha0 rfl rfl ?_
          refine K_nmS (fun S18 => ?_)
          refine K_goto (tgt := 232) dX12_process_218 (by decide) ?_
          refine K.keep [0, 1] ?_
          exact kj_X12_process_232 hQ hE fu ha0 x1 S18
      · refine K_aload_n dX12_process_196 rfl rfl ?_
        refine K_bipush (v := 7) dX12_process_197 (by decide) ?_
        refine K_iload_n dX12_process_199 rfl rfl ?_
        refine K_bind (fun u20 hu20 => ?_)
        refine K_callVV (As := [.int 7, .int x1]) (k_X12_fail fu hE ha0 hu20) dX12_process_200 v_X12_208 ha0 rfl rfl rfl rfl (Nat.le_of_ble_eq_true rfl) ⟨Nat.le_of_ble_eq_true rfl, Nat.le_of_ble_eq_true rfl, Nat.le_of_ble_eq_true rfl, Nat.le_of_ble_eq_true rfl⟩ ?_
        refine K_goto (tgt := 232) dX12_process_203 (by decide) ?_
        refine K.keep [0, 1] ?_
        exact kj_X12_process_232 hQ hE fu ha0 x1 u20
def jb_X12_process_99 (fu : Nat) (E : Ev) (a0 b0 : Nat) (rc17 : Int32 → Int32 → St → Option St) (rc71 : Int32 → Int32 → Int32 → St → Option St) (x1 : Int32) (x2 : Int32) (x3 : Int32) (y1 : Int32) (S : St) : Option St :=
  if inb x3 26 = true then
    (
    if inb y1 26 = true then (
      bnd (sG S b0 (y1.toNatClampNeg) (S.2.1 (E.2 a0 39) x3.toNatClampNeg)) fun S48 =>
      rc71 x1 x2 (x3 + 1) S48
    ) else none
    )
  else none
set_option maxRecDepth 100000 in
theorem kj_X12_process_99 {X : Cx} {E : Ev} {t : St} {a0 b0 : Nat} {rc17 : Int32 → Int32 → St → Option St} {rc71 : Int32 → Int32 → Int32 → St → Option St} (hQ : EndR mX12_process X (PoV E t)) (hE : WE E) (fu : Nat) (ha0 : E.1 a0 = some (0, 10, 0)) (hb0 : E.1 b0 = some (1, 0, 26)) (hrc17 : ∀ (x1 : Int32) (x2 : Int32) (S : St), K mX12_process X E 17 [(0, .ref a0), (1, .int x1), (2, .int x2)] [] S 0 0 (rc17 x1 x2 S) t) (hrc71 : ∀ (x1 : Int32) (x2 : Int32) (x3 : Int32) (S : St), K mX12_process X E 71 [(0, .ref a0), (1, .int x1), (2, .int x2), (3, .int x3)] [] S 0 0 (rc71 x1 x2 x3 S) t) (x1 : Int32) (x2 : Int32) (x3 : Int32) (y1 : Int32) (S : St) : K mX12_process X E 99 [(0, .ref a0), (1, .int x1), (2, .int x2), (3, .int x3)] [.int y1, .ref b0] S 0 0 (jb_X12_process_99 fu E a0 b0 rc17 rc71 x1 x2 x3 y1 S) t := by
  unfold jb_X12_process_99
  refine K_aload_n dX12_process_99 rfl rfl ?_
  refine K_getC hE dX12_process_100 f_X12_81_10 ha0 rfl rfl (fun h45 => ?_)
  refine K_iload_n dX12_process_103 rfl rfl ?_
  refine K_chk (fun h46 => ?_)
  refine K_iald dX12_process_104 h45 h46 ?_
  refine K_chk (fun h47 => ?_)
  refine K_iast dX12_process_105 hb0 h47 ?_
  refine K_nmS (fun S48 => ?_)
  refine K_iinc (v := (x3 + 1)) (ls' := [(0, _), (1, _), (2, _), (3, _)]) dX12_process_106 rfl rfl (by decide) rfl ?_
  refine K_goto (tgt := 71) dX12_process_109 (by decide) ?_
  refine K.keep [0, 1, 2, 3] ?_
  exact hrc71 x1 x2 (x3 + 1) S48
def bd_X12_process_71 (fu : Nat) (E : Ev) (a0 : Nat) (rc17 : Int32 → Int32 → St → Option St) (rc71 : Int32 → Int32 → Int32 → St → Option St) (x1 : Int32) (x2 : Int32) (x3 : Int32) (S : St) : Option St :=
  if 26 ≤ x3 then (
    if inb x2 10 = true then
      (
      bnd (sG S (E.2 a0 40) ((12 : Int32).toNatClampNeg) (8 * (S.2.1 (E.2 a0 26) x2.toNatClampNeg))) fun S37 =>
      bnd (sG S37 (E.2 a0 40) ((24 : Int32).toNatClampNeg) 1) fun S39 =>
      if inb x2 10 = true then
        (
        (sp_X12_flow fu E S39 a0 (E.2 a0 40) (S39.2.1 (E.2 a0 25) x2.toNatClampNeg)).bind fun u43 =>
        rc17 x1 (x2 + 1) u43
        )
      else none
      )
    else none
  ) else (
    if x3 < 12 then (
      jb_X12_process_99 fu E a0 (E.2 a0 40) rc17 rc71 x1 x2 x3 x3 S
    ) else (
      if 24 ≤ x3 then (
        jb_X12_process_99 fu E a0 (E.2 a0 40) rc17 rc71 x1 x2 x3 x3 S
      ) else (
        if inb x3 26 = true then (
          bnd (sG S (E.2 a0 40) (x3.toNatClampNeg) (-2)) fun S50 =>
          rc71 x1 x2 (x3 + 1) S50
        ) else none
      )
    )
  )
def lp_X12_process_71 (fu : Nat) (E : Ev) (a0 : Nat) (rc17 : Int32 → Int32 → St → Option St) : Nat → Int32 → Int32 → Int32 → St → Option St
  | 0, _, _, _, _ => none
  | f + 1, x1, x2, x3, S => bd_X12_process_71 fu E a0 rc17 (lp_X12_process_71 fu E a0 rc17 f) x1 x2 x3 S
set_option maxRecDepth 100000 in
theorem kl_X12_process_71 {X : Cx} {E : Ev} {t : St} {a0 : Nat} {rc17 : Int32 → Int32 → St → Option St} (hQ : EndR mX12_process X (PoV E t)) (hE : WE E) (fu : Nat) (ha0 : E.1 a0 = some (0, 10, 0)) (hrc17 : ∀ (x1 : Int32) (x2 : Int32) (S : St), K mX12_process X E 17 [(0, .ref a0), (1, .int x1), (2, .int x2)] [] S 0 0 (rc17 x1 x2 S) t) : ∀ (f : Nat) (x1 : Int32) (x2 : Int32) (x3 : Int32) (S : St), K mX12_process X E 71 [(0, .ref a0), (1, .int x1), (2, .int x2), (3, .int x3)] [] S 0 0 (lp_X12_process_71 fu E a0 rc17 f x1 x2 x3 S) t := by
  intro f
  induction f with
  | zero => intro x1 x2 x3 S; exact K_none
  | succ f hrc71 =>
    intro x1 x2 x3 S
    show K _ _ _ _ _ _ _ _ _ (bd_X12_process_71 fu E a0 rc17 (lp_X12_process_71 fu E a0 rc17 f) x1 x2 x3 S) t
    unfold bd_X12_process_71
    refine K_iload_n dX12_process_71 rfl rfl ?_
    refine K_bipush (v := 26) dX12_process_72 (by decide) ?_
    refine K_icmp_ge (tgt := 112) dX12_process_74 (by decide) (fun c53 => ?_) (fun c53 => ?_)
    · refine K_aload_n dX12_process_112 rfl rfl ?_
      refine K_getC hE dX12_process_113 f_X12_84_10 ha0 rfl rfl (fun h34 => ?_)
      refine K_bipush (v := 12) dX12_process_116 (by decide) ?_
      refine K_bipush (v := 8) dX12_process_118 (by decide) ?_
      refine K_aload_n dX12_process_120 rfl rfl ?_
      refine K_getC hE dX12_process_121 f_X12_60_10 ha0 rfl rfl (fun h35 => ?_)
      refine K_iload_n dX12_process_124 rfl rfl ?_
      refine K_chk (fun h36 => ?_)
      refine K_iald dX12_process_125 h35 h36 ?_
      refine K_imul dX12_process_126 ?_
      refine K_iast dX12_process_127 h34 (by decide) ?_
      refine K_nmS (fun S37 => ?_)
      refine K_aload_n dX12_process_128 rfl rfl ?_
      refine K_getC hE dX12_process_129 f_X12_84_10 ha0 rfl rfl (fun h38 => ?_)
      refine K_bipush (v := 24) dX12_process_132 (by decide) ?_
      refine K_iconst (v := 1) dX12_process_134 (by decide) ?_
      refine K_iast dX12_process_135 h38 (by decide) ?_
      refine K_nmS (fun S39 => ?_)
      refine K_aload_n dX12_process_136 rfl rfl ?_
      refine K_aload_n dX12_process_137 rfl rfl ?_
      refine K_getC hE dX12_process_138 f_X12_84_10 ha0 rfl rfl (fun h40 => ?_)
      refine K_aload_n dX12_process_141 rfl rfl ?_
      refine K_getC hE dX12_process_142 f_X12_57_10 ha0 rfl rfl (fun h41 => ?_)
      refine K_iload_n dX12_process_145 rfl rfl ?_
      refine K_chk (fun h42 => ?_)
      refine K_iald dX12_process_146 h41 h42 ?_
      refine K_bind (fun u43 hu43 => ?_)
      refine K_callVV (As := [.ref (E.2 a0 40), .int (S39.2.1 (E.2 a0 25) x2.toNatClampNeg)]) (k_X12_flow fu hE ha0 h40 hu43) dX12_process_147 v_X12_332 ha0 rfl rfl rfl rfl (Nat.le_of_ble_eq_true rfl) ⟨Nat.le_of_ble_eq_true rfl, Nat.le_of_ble_eq_true rfl, Nat.le_of_ble_eq_true rfl, Nat.le_of_ble_eq_true rfl⟩ ?_
      refine K_iinc (v := (x2 + 1)) (ls' := [(0, _), (1, _), (2, _), (3, _)]) dX12_process_150 rfl rfl (by decide) rfl ?_
      refine K_goto (tgt := 17) dX12_process_153 (by decide) ?_
      refine K.keep [0, 1, 2] ?_
      exact hrc17 x1 (x2 + 1) u43
    · refine K_aload_n dX12_process_77 rfl rfl ?_
      refine K_getC hE dX12_process_78 f_X12_84_10 ha0 rfl rfl (fun h44 => ?_)
      refine K_iload_n dX12_process_81 rfl rfl ?_
      refine K_iload_n dX12_process_82 rfl rfl ?_
      refine K_bipush (v := 12) dX12_process_83 (by decide) ?_
      refine K_icmp_lt (tgt := 99) dX12_process_85 (by decide) (fun c52 => ?_) (fun c52 => ?_)
      · refine K.keep [0, 1, 2, 3] ?_
        exact kj_X12_process_99 hQ hE fu ha0 h44 hrc17 hrc71 x1 x2 x3 x3 S
      · refine K_iload_n dX12_process_88 rfl rfl ?_
        refine K_bipush (v := 24) dX12_process_89 (by decide) ?_
        refine K_icmp_ge (tgt := 99) dX12_process_91 (by decide) (fun c51 => ?_) (fun c51 => ?_)
        · refine K.keep [0, 1, 2, 3] ?_
          exact kj_X12_process_99 hQ hE fu ha0 h44 hrc17 hrc71 x1 x2 x3 x3 S
        · refine K_bipush (v := (-2)) dX12_process_94 (by decide) ?_
          refine K_goto (tgt := 105) dX12_process_96 (by decide) ?_
          refine K_chk (fun h49 => ?_)
          refine K_iast dX12_process_105 h44 h49 ?_
          refine K_nmS (fun S50 => ?_)
          refine K_iinc (v := (x3 + 1)) (ls' := [(0, _), (1, _), (2, _), (3, _)]) dX12_process_106 rfl rfl (by decide) rfl ?_
          refine K_goto (tgt := 71) dX12_process_109 (by decide) ?_
          refine K.keep [0, 1, 2, 3] ?_
          exact hrc71 x1 x2 (x3 + 1) S50
def bd_X12_process_17 (fu : Nat) (E : Ev) (a0 : Nat) (rc17 : Int32 → Int32 → St → Option St) (x1 : Int32) (x2 : Int32) (S : St) : Option St :=
  if (S.1 a0 22) ≤ x2 then (
    (sp_X12_isWell fu E S a0).bind fun u3 =>
    if u3.1 = 0 then (
      jb_X12_process_167 fu E a0 x1 u3.2
    ) else (
      (sp_X12_execute fu E u3.2 a0).bind fun u24 =>
      jb_X12_process_167 fu E a0 x1 u24
    )
  ) else (
    (sp_X12_isWell fu E S a0).bind fun u26 =>
    if u26.1 = 0 then (
      (sp_X12_isWell fu E u26.2 a0).bind fun u27 =>
      if u27.1 = 0 then (
        jb_X12_process_167 fu E a0 x1 u27.2
      ) else (
        (sp_X12_execute fu E u27.2 a0).bind fun u28 =>
        jb_X12_process_167 fu E a0 x1 u28
      )
    ) else (
      if inb x2 10 = true then
        (
        if x1 < (u26.2.2.1 (E.2 a0 23) x2.toNatClampNeg) then (
          rc17 x1 (x2 + 1) u26.2
        ) else (
          if inb x2 10 = true then
            (
            if x1 < (u26.2.2.1 (E.2 a0 24) x2.toNatClampNeg) then (
              if (u26.2.1 a0 17) = 0 then (
                (sp_X12_fail fu E u26.2 a0 6 x1).bind fun u54 =>
                lp_X12_process_71 fu E a0 rc17 fu x1 x2 0 u54
              ) else (
                lp_X12_process_71 fu E a0 rc17 fu x1 x2 0 u26.2
              )
            ) else (
              rc17 x1 (x2 + 1) u26.2
            )
            )
          else none
        )
        )
      else none
    )
  )
def lp_X12_process_17 (fu : Nat) (E : Ev) (a0 : Nat) : Nat → Int32 → Int32 → St → Option St
  | 0, _, _, _ => none
  | f + 1, x1, x2, S => bd_X12_process_17 fu E a0 (lp_X12_process_17 fu E a0 f) x1 x2 S
set_option maxRecDepth 100000 in
theorem kl_X12_process_17 {X : Cx} {E : Ev} {t : St} {a0 : Nat} (hQ : EndR mX12_process X (PoV E t)) (hE : WE E) (fu : Nat) (ha0 : E.1 a0 = some (0, 10, 0)) : ∀ (f : Nat) (x1 : Int32) (x2 : Int32) (S : St), K mX12_process X E 17 [(0, .ref a0), (1, .int x1), (2, .int x2)] [] S 0 0 (lp_X12_process_17 fu E a0 f x1 x2 S) t := by
  intro f
  induction f with
  | zero => intro x1 x2 S; exact K_none
  | succ f hrc17 =>
    intro x1 x2 S
    show K _ _ _ _ _ _ _ _ _ (bd_X12_process_17 fu E a0 (lp_X12_process_17 fu E a0 f) x1 x2 S) t
    unfold bd_X12_process_17
    refine K_iload_n dX12_process_17 rfl rfl ?_
    refine K_aload_n dX12_process_18 rfl rfl ?_
    refine K_getI dX12_process_19 f_X12_168_10 ha0 rfl ?_
    refine K_icmp_ge (tgt := 156) dX12_process_22 (by decide) (fun c59 => ?_) (fun c59 => ?_)
    · refine K_aload_n dX12_process_156 rfl rfl ?_
      refine K_bind (fun u3 hu3 => ?_)
      refine K_callVI (As := []) (k_X12_isWell fu hE ha0 hu3) dX12_process_157 v_X12_218 ha0 rfl rfl rfl rfl (Nat.le_of_ble_eq_true rfl) ⟨Nat.le_of_ble_eq_true rfl, Nat.le_of_ble_eq_true rfl, Nat.le_of_ble_eq_true rfl, Nat.le_of_ble_eq_true rfl⟩ ?_
      refine K_if_eq (tgt := 167) dX12_process_160 (by decide) (fun c25 => ?_) (fun c25 => ?_)
      · refine K.keep [0, 1] ?_
        exact kj_X12_process_167 hQ hE fu ha0 x1 u3.2
      · refine K_aload_n dX12_process_163 rfl rfl ?_
        refine K_bind (fun u24 hu24 => ?_)
        refine K_callVV (As := []) (k_X12_execute fu hE ha0 hu24) dX12_process_164 v_X12_335 ha0 rfl rfl rfl rfl (Nat.le_of_ble_eq_true rfl) ⟨Nat.le_of_ble_eq_true rfl, Nat.le_of_ble_eq_true rfl, Nat.le_of_ble_eq_true rfl, Nat.le_of_ble_eq_true rfl⟩ ?_
        refine K.keep [0, 1] ?_
        exact kj_X12_process_167 hQ hE fu ha0 x1 u24
    · refine K_aload_n dX12_process_25 rfl rfl ?_
      refine K_bind (fun u26 hu26 => ?_)
      refine K_callVI (As := []) (k_X12_isWell fu hE ha0 hu26) dX12_process_26 v_X12_218 ha0 rfl rfl rfl rfl (Nat.le_of_ble_eq_true rfl) ⟨Nat.le_of_ble_eq_true rfl, Nat.le_of_ble_eq_true rfl, Nat.le_of_ble_eq_true rfl, Nat.le_of_ble_eq_true rfl⟩ ?_
      refine K_if_eq (tgt := 156) dX12_process_29 (by decide) (fun c58 => ?_) (fun c58 => ?_)
      · refine K_aload_n dX12_process_156 rfl rfl ?_
        refine K_bind (fun u27 hu27 => ?_)
        refine K_callVI (As := []) (k_X12_isWell fu hE ha0 hu27) dX12_process_157 v_X12_218 ha0 rfl rfl rfl rfl (Nat.le_of_ble_eq_true rfl) ⟨Nat.le_of_ble_eq_true rfl, Nat.le_of_ble_eq_true rfl, Nat.le_of_ble_eq_true rfl, Nat.le_of_ble_eq_true rfl⟩ ?_
        refine K_if_eq (tgt := 167) dX12_process_160 (by decide) (fun c29 => ?_) (fun c29 => ?_)
        · refine K.keep [0, 1] ?_
          exact kj_X12_process_167 hQ hE fu ha0 x1 u27.2
        · refine K_aload_n dX12_process_163 rfl rfl ?_
          refine K_bind (fun u28 hu28 => ?_)
          refine K_callVV (As := []) (k_X12_execute fu hE ha0 hu28) dX12_process_164 v_X12_335 ha0 rfl rfl rfl rfl (Nat.le_of_ble_eq_true rfl) ⟨Nat.le_of_ble_eq_true rfl, Nat.le_of_ble_eq_true rfl, Nat.le_of_ble_eq_true rfl, Nat.le_of_ble_eq_true rfl⟩ ?_
          refine K.keep [0, 1] ?_
          exact kj_X12_process_167 hQ hE fu ha0 x1 u28
      · refine K_iload_n dX12_process_32 rfl rfl ?_
        refine K_aload_n dX12_process_33 rfl rfl ?_
        refine K_getC hE dX12_process_34 f_X12_51_10 ha0 rfl rfl (fun h30 => ?_)
        refine K_iload_n dX12_process_37 rfl rfl ?_
        refine K_chk (fun h31 => ?_)
        refine K_iald dX12_process_38 h30 h31 ?_
        refine K_icmp_lt (tgt := 150) dX12_process_39 (by decide) (fun c57 => ?_) (fun c57 => ?_)
        · refine K_iinc (v := (x2 + 1)) (ls' := [(0, _), (1, _), (2, _)]) dX12_process_150 rfl rfl (by decide) rfl ?_
          refine K_goto (tgt := 17) dX12_process_153 (by decide) ?_
          refine K.keep [0, 1, 2] ?_
          exact hrc17 x1 (x2 + 1) u26.2
        · refine K_iload_n dX12_process_42 rfl rfl ?_
          refine K_aload_n dX12_process_43 rfl rfl ?_
          refine K_getC hE dX12_process_44 f_X12_54_10 ha0 rfl rfl (fun h32 => ?_)
          refine K_iload_n dX12_process_47 rfl rfl ?_
          refine K_chk (fun h33 => ?_)
          refine K_iald dX12_process_48 h32 h33 ?_
          refine K_icmp_lt (tgt := 55) dX12_process_49 (by decide) (fun c56 => ?_) (fun c56 => ?_)
          · refine K_aload_n dX12_process_55 rfl rfl ?_
            refine K_getI dX12_process_56 f_X12_159_10 ha0 rfl ?_
            refine K_if_ne (tgt := 69) dX12_process_59 (by decide) (fun c55 => ?_) (fun c55 => ?_)
            · refine K_iconst (v := 0) dX12_process_69 (by decide) ?_
              refine K_istore_n (ls' := [(0, _), (1, _), (2, _), (3, _)]) dX12_process_70 rfl (by decide) rfl ?_
              refine K.keep [0, 1, 2, 3] ?_
              exact kl_X12_process_71 hQ hE fu ha0 hrc17 fu x1 x2 0 u26.2
            · refine K_aload_n dX12_process_62 rfl rfl ?_
              refine K_bipush (v := 6) dX12_process_63 (by decide) ?_
              refine K_iload_n dX12_process_65 rfl rfl ?_
              refine K_bind (fun u54 hu54 => ?_)
              refine K_callVV (As := [.int 6, .int x1]) (k_X12_fail fu hE ha0 hu54) dX12_process_66 v_X12_208 ha0 rfl rfl rfl rfl (Nat.le_of_ble_eq_true rfl) ⟨Nat.le_of_ble_eq_true rfl, Nat.le_of_ble_eq_true rfl, Nat.le_of_ble_eq_true rfl, Nat.le_of_ble_eq_true rfl⟩ ?_
              refine K_iconst (v := 0) dX12_process_69 (by decide) ?_
              refine K_istore_n (ls' := [(0, _), (1, _), (2, _), (3, _)]) dX12_process_70 rfl (by decide) rfl ?_
              refine K.keep [0, 1, 2, 3] ?_
              exact kl_X12_process_71 hQ hE fu ha0 hrc17 fu x1 x2 0 u54
          · refine K_goto (tgt := 150) dX12_process_52 (by decide) ?_
            refine K_iinc (v := (x2 + 1)) (ls' := [(0, _), (1, _), (2, _)]) dX12_process_150 rfl rfl (by decide) rfl ?_
            refine K_goto (tgt := 17) dX12_process_153 (by decide) ?_
            refine K.keep [0, 1, 2] ?_
            exact hrc17 x1 (x2 + 1) u26.2
def sp_X12_process (fu : Nat) (E : Ev) (S : St) (a0 : Nat) (x1 : Int32) : Option St :=
  bnd (sF S a0 43 x1) fun S1 =>
  bnd (sF S1 a0 37 ((S1.1 a0 37) + 1)) fun S2 =>
  lp_X12_process_17 fu E a0 fu x1 0 S2
set_option maxRecDepth 100000 in
theorem k_X12_process {l : Launch} (fu : Nat) {E : Ev} (hE : WE E) {a0 : Nat} (ha0 : E.1 a0 = some (0, 10, 0)) {x1 : Int32} {S : St} {t : St} (h : sp_X12_process fu E S a0 x1 = some t) : Cn l mX12_process [.ref a0, .int x1] (hp E S) (PoV E t) := by
  refine Cn.of (by decide) rfl (Nat.le_of_ble_eq_true rfl) (fun X _ _ hQ => ?_)
  refine (?_ : K mX12_process X E 0 [(0, .ref a0), (1, .int x1)] [] S 0 0 (sp_X12_process fu E S a0 x1) t) h
  unfold sp_X12_process
  refine K_aload_n dX12_process_0 rfl rfl ?_
  refine K_iload_n dX12_process_1 rfl rfl ?_
  refine K_putI dX12_process_2 p_X12_222_10 ha0 rfl ?_
  refine K_nmS (fun S1 => ?_)
  refine K_aload_n dX12_process_5 rfl rfl ?_
  refine K_dup dX12_process_6 rfl ?_
  refine K_getI dX12_process_7 f_X12_205_10 ha0 rfl ?_
  refine K_iconst (v := 1) dX12_process_10 (by decide) ?_
  refine K_iadd dX12_process_11 ?_
  refine K_putI dX12_process_12 p_X12_205_10 ha0 rfl ?_
  refine K_nmS (fun S2 => ?_)
  refine K_iconst (v := 0) dX12_process_15 (by decide) ?_
  refine K_istore_n (ls' := [(0, _), (1, _), (2, _)]) dX12_process_16 rfl (by decide) rfl ?_
  refine K.keep [0, 1, 2] ?_
  exact kl_X12_process_17 hQ hE fu ha0 fu x1 0 S2
def jb_X12_nextPending_25 (fu : Nat) (E : Ev) (a0 : Nat) (x1 : Int32) (S : St) : Option (Int32 × St) :=
  if (S.1 a0 19) ≤ x1 then (
    some ((-1), S)
  ) else (
    some (x1, S)
  )
set_option maxRecDepth 100000 in
theorem kj_X12_nextPending_25 {X : Cx} {E : Ev} {t : (Int32 × St)} {a0 : Nat} (hQ : EndR mX12_nextPending X (PoI E t)) (hE : WE E) (fu : Nat) (ha0 : E.1 a0 = some (0, 10, 0)) (x1 : Int32) (S : St) : K mX12_nextPending X E 25 [(0, .ref a0), (1, .int x1)] [] S 0 0 (jb_X12_nextPending_25 fu E a0 x1 S) t := by
  unfold jb_X12_nextPending_25
  refine K_iload_n dX12_nextPending_25 rfl rfl ?_
  refine K_aload_n dX12_nextPending_26 rfl rfl ?_
  refine K_getI dX12_nextPending_27 f_X12_165_10 ha0 rfl ?_
  refine K_icmp_ge (tgt := 37) dX12_nextPending_30 (by decide) (fun c1 => ?_) (fun c1 => ?_)
  · refine K_iconst (v := (-1)) dX12_nextPending_37 (by decide) ?_
    exact K_iret dX12_nextPending_38 hQ rfl (Nat.le_of_ble_eq_true rfl) (Nat.le_of_ble_eq_true rfl)
  · refine K_iload_n dX12_nextPending_33 rfl rfl ?_
    refine K_goto (tgt := 38) dX12_nextPending_34 (by decide) ?_
    exact K_iret dX12_nextPending_38 hQ rfl (Nat.le_of_ble_eq_true rfl) (Nat.le_of_ble_eq_true rfl)
def bd_X12_nextPending_2 (fu : Nat) (E : Ev) (a0 : Nat) (rc2 : Int32 → St → Option (Int32 × St)) (x1 : Int32) (S : St) : Option (Int32 × St) :=
  if (S.1 a0 19) ≤ x1 then (
    jb_X12_nextPending_25 fu E a0 x1 S
  ) else (
    if inb x1 100 = true then
      (
      if (S.2.1 (E.2 a0 42) x1.toNatClampNeg) = 0 then (
        rc2 (x1 + 1) S
      ) else (
        jb_X12_nextPending_25 fu E a0 x1 S
      )
      )
    else none
  )
def lp_X12_nextPending_2 (fu : Nat) (E : Ev) (a0 : Nat) : Nat → Int32 → St → Option (Int32 × St)
  | 0, _, _ => none
  | f + 1, x1, S => bd_X12_nextPending_2 fu E a0 (lp_X12_nextPending_2 fu E a0 f) x1 S
set_option maxRecDepth 100000 in
theorem kl_X12_nextPending_2 {X : Cx} {E : Ev} {t : (Int32 × St)} {a0 : Nat} (hQ : EndR mX12_nextPending X (PoI E t)) (hE : WE E) (fu : Nat) (ha0 : E.1 a0 = some (0, 10, 0)) : ∀ (f : Nat) (x1 : Int32) (S : St), K mX12_nextPending X E 2 [(0, .ref a0), (1, .int x1)] [] S 0 0 (lp_X12_nextPending_2 fu E a0 f x1 S) t := by
  intro f
  induction f with
  | zero => intro x1 S; exact K_none
  | succ f hrc2 =>
    intro x1 S
    show K _ _ _ _ _ _ _ _ _ (bd_X12_nextPending_2 fu E a0 (lp_X12_nextPending_2 fu E a0 f) x1 S) t
    unfold bd_X12_nextPending_2
    refine K_iload_n dX12_nextPending_2 rfl rfl ?_
    refine K_aload_n dX12_nextPending_3 rfl rfl ?_
    refine K_getI dX12_nextPending_4 f_X12_165_10 ha0 rfl ?_
    refine K_icmp_ge (tgt := 25) dX12_nextPending_7 (by decide) (fun c5 => ?_) (fun c5 => ?_)
    · refine K.keep [0, 1] ?_
      exact kj_X12_nextPending_25 hQ hE fu ha0 x1 S
    · refine K_aload_n dX12_nextPending_10 rfl rfl ?_
      refine K_getC hE dX12_nextPending_11 f_X12_87_10 ha0 rfl rfl (fun h2 => ?_)
      refine K_iload_n dX12_nextPending_14 rfl rfl ?_
      refine K_chk (fun h3 => ?_)
      refine K_zald dX12_nextPending_15 h2 h3 ?_
      refine K_if_ne (tgt := 25) dX12_nextPending_16 (by decide) (fun c4 => ?_) (fun c4 => ?_)
      · refine K.keep [0, 1] ?_
        exact kj_X12_nextPending_25 hQ hE fu ha0 x1 S
      · refine K_iinc (v := (x1 + 1)) (ls' := [(0, _), (1, _)]) dX12_nextPending_19 rfl rfl (by decide) rfl ?_
        refine K_goto (tgt := 2) dX12_nextPending_22 (by decide) ?_
        refine K.keep [0, 1] ?_
        exact hrc2 (x1 + 1) S
def sp_X12_nextPending (fu : Nat) (E : Ev) (S : St) (a0 : Nat) : Option (Int32 × St) :=
  lp_X12_nextPending_2 fu E a0 fu 0 S
set_option maxRecDepth 100000 in
theorem k_X12_nextPending {l : Launch} (fu : Nat) {E : Ev} (hE : WE E) {a0 : Nat} (ha0 : E.1 a0 = some (0, 10, 0)) {S : St} {t : (Int32 × St)} (h : sp_X12_nextPending fu E S a0 = some t) : Cn l mX12_nextPending [.ref a0] (hp E S) (PoI E t) := by
  refine Cn.of (by decide) rfl (Nat.le_of_ble_eq_true rfl) (fun X _ _ hQ => ?_)
  refine (?_ : K mX12_nextPending X E 0 [(0, .ref a0)] [] S 0 0 (sp_X12_nextPending fu E S a0) t) h
  unfold sp_X12_nextPending
  refine K_iconst (v := 0) dX12_nextPending_0 (by decide) ?_
  refine K_istore_n (ls' := [(0, _), (1, _)]) dX12_nextPending_1 rfl (by decide) rfl ?_
  refine K.keep [0, 1] ?_
  exact kl_X12_nextPending_2 hQ hE fu ha0 fu 0 S
def bd_X12_run_59 (fu : Nat) (E : Ev) (a0 : Nat) (rc39 : Int32 → St → Option St) (rc59 : Int32 → Int32 → St → Option St) (x1 : Int32) (x2 : Int32) (S : St) : Option St :=
  if 26 ≤ x2 then (
    (sp_X12_process fu E S a0 x1).bind fun u9 =>
    (sp_X12_nextPending fu E u9 a0).bind fun u10 =>
    rc39 u10.1 u10.2
  ) else (
    if inb ((26 * x1) + x2) 2600 = true then
      (
      if inb x2 26 = true then (
        bnd (sG S (E.2 a0 39) (x2.toNatClampNeg) (S.2.1 (E.2 a0 29) ((26 * x1) + x2).toNatClampNeg)) fun S15 =>
        rc59 x1 (x2 + 1) S15
      ) else none
      )
    else none
  )
def lp_X12_run_59 (fu : Nat) (E : Ev) (a0 : Nat) (rc39 : Int32 → St → Option St) : Nat → Int32 → Int32 → St → Option St
  | 0, _, _, _ => none
  | f + 1, x1, x2, S => bd_X12_run_59 fu E a0 rc39 (lp_X12_run_59 fu E a0 rc39 f) x1 x2 S
set_option maxRecDepth 100000 in
theorem kl_X12_run_59 {X : Cx} {E : Ev} {t : St} {a0 : Nat} {rc39 : Int32 → St → Option St} (hQ : EndR mX12_run X (PoV E t)) (hE : WE E) (fu : Nat) (ha0 : E.1 a0 = some (0, 10, 0)) (hrc39 : ∀ (x1 : Int32) (S : St), K mX12_run X E 39 [(0, .ref a0), (1, .int x1)] [] S 0 0 (rc39 x1 S) t) : ∀ (f : Nat) (x1 : Int32) (x2 : Int32) (S : St), K mX12_run X E 59 [(0, .ref a0), (1, .int x1), (2, .int x2)] [] S 0 0 (lp_X12_run_59 fu E a0 rc39 f x1 x2 S) t := by
  intro f
  induction f with
  | zero => intro x1 x2 S; exact K_none
  | succ f hrc59 =>
    intro x1 x2 S
    show K _ _ _ _ _ _ _ _ _ (bd_X12_run_59 fu E a0 rc39 (lp_X12_run_59 fu E a0 rc39 f) x1 x2 S) t
    unfold bd_X12_run_59
    refine K_iload_n dX12_run_59 rfl rfl ?_
    refine K_bipush (v := 26) dX12_run_60 (by decide) ?_
    refine K_icmp_ge (tgt := 88) dX12_run_62 (by decide) (fun c16 => ?_) (fun c16 => ?_)
    · refine K_aload_n dX12_run_88 rfl rfl ?_
      refine K_iload_n dX12_run_89 rfl rfl ?_
      refine K_bind (fun u9 hu9 => ?_)
      refine K_callVV (As := [.int x1]) (k_X12_process fu hE ha0 hu9) dX12_run_90 v_X12_353 ha0 rfl rfl rfl rfl (Nat.le_of_ble_eq_true rfl) ⟨Nat.le_of_ble_eq_true rfl, Nat.le_of_ble_eq_true rfl, Nat.le_of_ble_eq_true rfl, Nat.le_of_ble_eq_true rfl⟩ ?_
      refine K_aload_n dX12_run_93 rfl rfl ?_
      refine K_bind (fun u10 hu10 => ?_)
      refine K_callVI (As := []) (k_X12_nextPending fu hE ha0 hu10) dX12_run_94 v_X12_350 ha0 rfl rfl rfl rfl (Nat.le_of_ble_eq_true rfl) ⟨Nat.le_of_ble_eq_true rfl, Nat.le_of_ble_eq_true rfl, Nat.le_of_ble_eq_true rfl, Nat.le_of_ble_eq_true rfl⟩ ?_
      refine K_istore_n (ls' := [(0, _), (1, _), (2, _)]) dX12_run_97 rfl (by decide) rfl ?_
      refine K_goto (tgt := 39) dX12_run_98 (by decide) ?_
      refine K.keep [0, 1] ?_
      exact hrc39 u10.1 u10.2
    · refine K_aload_n dX12_run_65 rfl rfl ?_
      refine K_getC hE dX12_run_66 f_X12_81_10 ha0 rfl rfl (fun h11 => ?_)
      refine K_iload_n dX12_run_69 rfl rfl ?_
      refine K_aload_n dX12_run_70 rfl rfl ?_
      refine K_getC hE dX12_run_71 f_X12_66_10 ha0 rfl rfl (fun h12 => ?_)
      refine K_bipush (v := 26) dX12_run_74 (by decide) ?_
      refine K_iload_n dX12_run_76 rfl rfl ?_
      refine K_imul dX12_run_77 ?_
      refine K_iload_n dX12_run_78 rfl rfl ?_
      refine K_iadd dX12_run_79 ?_
      refine K_chk (fun h13 => ?_)
      refine K_iald dX12_run_80 h12 h13 ?_
      refine K_chk (fun h14 => ?_)
      refine K_iast dX12_run_81 h11 h14 ?_
      refine K_nmS (fun S15 => ?_)
      refine K_iinc (v := (x2 + 1)) (ls' := [(0, _), (1, _), (2, _)]) dX12_run_82 rfl rfl (by decide) rfl ?_
      refine K_goto (tgt := 59) dX12_run_85 (by decide) ?_
      refine K.keep [0, 1, 2] ?_
      exact hrc59 x1 (x2 + 1) S15
def bd_X12_run_39 (fu : Nat) (E : Ev) (a0 : Nat) (rc39 : Int32 → St → Option St) (x1 : Int32) (S : St) : Option St :=
  if x1 < 0 then (
    some S
  ) else (
    (sp_X12_isWell fu E S a0).bind fun u5 =>
    if u5.1 = 0 then (
      some u5.2
    ) else (
      if inb x1 100 = true then (
        bnd (sG u5.2 (E.2 a0 42) (x1.toNatClampNeg) 0) fun S8 =>
        lp_X12_run_59 fu E a0 rc39 fu x1 0 S8
      ) else none
    )
  )
def lp_X12_run_39 (fu : Nat) (E : Ev) (a0 : Nat) : Nat → Int32 → St → Option St
  | 0, _, _ => none
  | f + 1, x1, S => bd_X12_run_39 fu E a0 (lp_X12_run_39 fu E a0 f) x1 S
set_option maxRecDepth 100000 in
theorem kl_X12_run_39 {X : Cx} {E : Ev} {t : St} {a0 : Nat} (hQ : EndR mX12_run X (PoV E t)) (hE : WE E) (fu : Nat) (ha0 : E.1 a0 = some (0, 10, 0)) : ∀ (f : Nat) (x1 : Int32) (S : St), K mX12_run X E 39 [(0, .ref a0), (1, .int x1)] [] S 0 0 (lp_X12_run_39 fu E a0 f x1 S) t := by
  intro f
  induction f with
  | zero => intro x1 S; exact K_none
  | succ f hrc39 =>
    intro x1 S
    show K _ _ _ _ _ _ _ _ _ (bd_X12_run_39 fu E a0 (lp_X12_run_39 fu E a0 f) x1 S) t
    unfold bd_X12_run_39
    refine K_iload_n dX12_run_39 rfl rfl ?_
    refine K_if_lt (tgt := 101) dX12_run_40 (by decide) (fun c18 => ?_) (fun c18 => ?_)
    · exact K_vret dX12_run_101 hQ rfl (Nat.le_of_ble_eq_true rfl) (Nat.le_of_ble_eq_true rfl)
    · refine K_aload_n dX12_run_43 rfl rfl ?_
      refine K_bind (fun u5 hu5 => ?_)
      refine K_callVI (As := []) (k_X12_isWell fu hE ha0 hu5) dX12_run_44 v_X12_218 ha0 rfl rfl rfl rfl (Nat.le_of_ble_eq_true rfl) ⟨Nat.le_of_ble_eq_true rfl, Nat.le_of_ble_eq_true rfl, Nat.le_of_ble_eq_true rfl, Nat.le_of_ble_eq_true rfl⟩ ?_
      refine K_if_eq (tgt := 101) dX12_run_47 (by decide) (fun c17 => ?_) (fun c17 => ?_)
      · exact K_vret dX12_run_101 hQ rfl (Nat.le_of_ble_eq_true rfl) (Nat.le_of_ble_eq_true rfl)
      · refine K_aload_n dX12_run_50 rfl rfl ?_
        refine K_getC hE dX12_run_51 f_X12_87_10 ha0 rfl rfl (fun h6 => ?_)
        refine K_iload_n dX12_run_54 rfl rfl ?_
        refine K_iconst (v := 0) dX12_run_55 (by decide) ?_
        refine K_chk (fun h7 => ?_)
        refine K_zast dX12_run_56 h6 h7 rfl ?_
        refine K_nmS (fun S8 => ?_)
        refine K_iconst (v := 0) dX12_run_57 (by decide) ?_
        refine K_istore_n (ls' := [(0, _), (1, _), (2, _)]) dX12_run_58 rfl (by decide) rfl ?_
        refine K.keep [0, 1, 2] ?_
        exact kl_X12_run_59 hQ hE fu ha0 hrc39 fu x1 0 S8
def bd_X12_run_2 (fu : Nat) (E : Ev) (a0 : Nat) (rc2 : Int32 → St → Option St) (x1 : Int32) (S : St) : Option St :=
  if 100 ≤ x1 then (
    (sp_X12_setFirst fu E S a0).bind fun u1 =>
    (sp_X12_merge fu E u1 a0 (E.2 a0 39) 0).bind fun u3 =>
    (sp_X12_nextPending fu E u3 a0).bind fun u4 =>
    lp_X12_run_39 fu E a0 fu u4.1 u4.2
  ) else (
    if inb x1 100 = true then (
      bnd (sG S (E.2 a0 42) (x1.toNatClampNeg) 0) fun S21 =>
      rc2 (x1 + 1) S21
    ) else none
  )
def lp_X12_run_2 (fu : Nat) (E : Ev) (a0 : Nat) : Nat → Int32 → St → Option St
  | 0, _, _ => none
  | f + 1, x1, S => bd_X12_run_2 fu E a0 (lp_X12_run_2 fu E a0 f) x1 S
set_option maxRecDepth 100000 in
theorem kl_X12_run_2 {X : Cx} {E : Ev} {t : St} {a0 : Nat} (hQ : EndR mX12_run X (PoV E t)) (hE : WE E) (fu : Nat) (ha0 : E.1 a0 = some (0, 10, 0)) : ∀ (f : Nat) (x1 : Int32) (S : St), K mX12_run X E 2 [(0, .ref a0), (1, .int x1)] [] S 0 0 (lp_X12_run_2 fu E a0 f x1 S) t := by
  intro f
  induction f with
  | zero => intro x1 S; exact K_none
  | succ f hrc2 =>
    intro x1 S
    show K _ _ _ _ _ _ _ _ _ (bd_X12_run_2 fu E a0 (lp_X12_run_2 fu E a0 f) x1 S) t
    unfold bd_X12_run_2
    refine K_iload_n dX12_run_2 rfl rfl ?_
    refine K_bipush (v := 100) dX12_run_3 (by decide) ?_
    refine K_icmp_ge (tgt := 21) dX12_run_5 (by decide) (fun c22 => ?_) (fun c22 => ?_)
    · refine K_aload_n dX12_run_21 rfl rfl ?_
      refine K_bind (fun u1 hu1 => ?_)
      refine K_callVV (As := []) (k_X12_setFirst fu hE ha0 hu1) dX12_run_22 v_X12_347 ha0 rfl rfl rfl rfl (Nat.le_of_ble_eq_true rfl) ⟨Nat.le_of_ble_eq_true rfl, Nat.le_of_ble_eq_true rfl, Nat.le_of_ble_eq_true rfl, Nat.le_of_ble_eq_true rfl⟩ ?_
      refine K_aload_n dX12_run_25 rfl rfl ?_
      refine K_aload_n dX12_run_26 rfl rfl ?_
      refine K_getC hE dX12_run_27 f_X12_81_10 ha0 rfl rfl (fun h2 => ?_)
      refine K_iconst (v := 0) dX12_run_30 (by decide) ?_
      refine K_bind (fun u3 hu3 => ?_)
      refine K_callVV (As := [.ref (E.2 a0 39), .int 0]) (k_X12_merge fu hE ha0 h2 hu3) dX12_run_31 v_X12_319 ha0 rfl rfl rfl rfl (Nat.le_of_ble_eq_true rfl) ⟨Nat.le_of_ble_eq_true rfl, Nat.le_of_ble_eq_true rfl, Nat.le_of_ble_eq_true rfl, Nat.le_of_ble_eq_true rfl⟩ ?_
      refine K_aload_n dX12_run_34 rfl rfl ?_
      refine K_bind (fun u4 hu4 => ?_)
      refine K_callVI (As := []) (k_X12_nextPending fu hE ha0 hu4) dX12_run_35 v_X12_350 ha0 rfl rfl rfl rfl (Nat.le_of_ble_eq_true rfl) ⟨Nat.le_of_ble_eq_true rfl, Nat.le_of_ble_eq_true rfl, Nat.le_of_ble_eq_true rfl, Nat.le_of_ble_eq_true rfl⟩ ?_
      refine K_istore_n (ls' := [(0, _), (1, _)]) dX12_run_38 rfl (by decide) rfl ?_
      refine K.keep [0, 1] ?_
      exact kl_X12_run_39 hQ hE fu ha0 fu u4.1 u4.2
    · refine K_aload_n dX12_run_8 rfl rfl ?_
      refine K_getC hE dX12_run_9 f_X12_87_10 ha0 rfl rfl (fun h19 => ?_)
      refine K_iload_n dX12_run_12 rfl rfl ?_
      refine K_iconst (v := 0) dX12_run_13 (by decide) ?_
      refine K_chk (fun h20 => ?_)
      refine K_zast dX12_run_14 h19 h20 rfl ?_
      refine K_nmS (fun S21 => ?_)
      refine K_iinc (v := (x1 + 1)) (ls' := [(0, _), (1, _)]) dX12_run_15 rfl rfl (by decide) rfl ?_
      refine K_goto (tgt := 2) dX12_run_18 (by decide) ?_
      refine K.keep [0, 1] ?_
      exact hrc2 (x1 + 1) S21
def sp_X12_run (fu : Nat) (E : Ev) (S : St) (a0 : Nat) : Option St :=
  lp_X12_run_2 fu E a0 fu 0 S
set_option maxRecDepth 100000 in
theorem k_X12_run {l : Launch} (fu : Nat) {E : Ev} (hE : WE E) {a0 : Nat} (ha0 : E.1 a0 = some (0, 10, 0)) {S : St} {t : St} (h : sp_X12_run fu E S a0 = some t) : Cn l mX12_run [.ref a0] (hp E S) (PoV E t) := by
  refine Cn.of (by decide) rfl (Nat.le_of_ble_eq_true rfl) (fun X _ _ hQ => ?_)
  refine (?_ : K mX12_run X E 0 [(0, .ref a0)] [] S 0 0 (sp_X12_run fu E S a0) t) h
  unfold sp_X12_run
  refine K_iconst (v := 0) dX12_run_0 (by decide) ?_
  refine K_istore_n (ls' := [(0, _), (1, _)]) dX12_run_1 rfl (by decide) rfl ?_
  refine K.keep [0, 1] ?_
  exact kl_X12_run_2 hQ hE fu ha0 fu 0 S
