def sp_X3_copyCaught (fu : Nat) (E : Ev) (S : St) (a0 : Nat) (a1 : Nat) (x2 : Int32) : Option St :=
  (sp_X3_copyFrom fu E S a0 a1).bind fun u1 =>
  bnd (sG u1 (E.2 a0 1) ((0 : Int32).toNatClampNeg) (8 * x2)) fun S3 =>
  bnd (sF S3 a0 2 1) fun S4 =>
  some S4
set_option maxRecDepth 100000 in
theorem k_X3_copyCaught {l : Launch} (fu : Nat) {E : Ev} (hE : WE E) {a0 : Nat} (ha0 : E.1 a0 = some (0, 2, 0)) {a1 : Nat} (ha1 : E.1 a1 = some (0, 2, 0)) {x2 : Int32} {S : St} {t : St} (h : sp_X3_copyCaught fu E S a0 a1 x2 = some t) : Cn l mX3_copyCaught [.ref a0, .ref a1, .int x2] (hp E S) (PoV E t) := by
  refine Cn.of (by decide) rfl (Nat.le_of_ble_eq_true rfl) (fun X _ _ hQ => ?_)
  refine (?_ : K mX3_copyCaught X E 0 [(0, .ref a0), (1, .ref a1), (2, .int x2)] [] S 0 0 (sp_X3_copyCaught fu E S a0 a1 x2) t) h
  unfold sp_X3_copyCaught
  refine K_aload_n dX3_copyCaught_0 rfl rfl ?_
  refine K_aload_n dX3_copyCaught_1 rfl rfl ?_
  refine K_bind (fun u1 hu1 => ?_)
  refine K_callVV (As := [.ref a1]) (k_X3_copyFrom fu hE ha0 ha1 hu1) dX3_copyCaught_2 v_X3_32 ha0 rfl rfl rfl rfl (Nat.le_of_ble_eq_true rfl) ⟨Nat.le_of_ble_eq_true rfl, Nat.le_of_ble_eq_true rfl, Nat.le_of_ble_eq_true rfl, Nat.le_of_ble_eq_true rfl⟩ ?_
  refine K_aload_n dX3_copyCaught_5 rfl rfl ?_
  refine K_getC hE dX3_copyCaught_6 f_X3_15_2 ha0 rfl rfl (fun h2 => ?_)
  refine K_iconst (v := 0) dX3_copyCaught_9 (by decide) ?_
  refine K_bipush (v := 8) dX3_copyCaught_10 (by decide) ?_
  refine K_iload_n dX3_copyCaught_12 rfl rfl ?_
  refine K_imul dX3_copyCaught_13 ?_
  refine K_iast dX3_copyCaught_14 h2 (by decide) ?_
  refine K_nmS (fun S3 => ?_)
  refine K_aload_n dX3_copyCaught_15 rfl rfl ?_
  refine K_iconst (v := 1) dX3_copyCaught_16 (by decide) ?_
  refine K_putI dX3_copyCaught_17 p_X3_18_2 ha0 rfl ?_
  refine K_nmS (fun S4 => ?_)
  exact K_vret dX3_copyCaught_20 hQ rfl (Nat.le_of_ble_eq_true rfl) (Nat.le_of_ble_eq_true rfl)
def bd_X3_replaceLocals_2 (fu : Nat) (E : Ev) (a0 : Nat) (rc2 : Int32 → Int32 → Int32 → St → Option St) (x1 : Int32) (x2 : Int32) (x3 : Int32) (S : St) : Option St :=
  if 12 ≤ x3 then (
    some S
  ) else (
    if inb x3 12 = true then
      (
      if (S.2.1 (E.2 a0 0) x3.toNatClampNeg) = x1 then (
        if inb x3 12 = true then (
          bnd (sG S (E.2 a0 0) (x3.toNatClampNeg) x2) fun S5 =>
          rc2 x1 x2 (x3 + 1) S5
        ) else none
      ) else (
        rc2 x1 x2 (x3 + 1) S
      )
      )
    else none
  )
def lp_X3_replaceLocals_2 (fu : Nat) (E : Ev) (a0 : Nat) : Nat → Int32 → Int32 → Int32 → St → Option St
  | 0, _, _, _, _ => none
  | f + 1, x1, x2, x3, S => bd_X3_replaceLocals_2 fu E a0 (lp_X3_replaceLocals_2 fu E a0 f) x1 x2 x3 S
set_option maxRecDepth 100000 in
theorem kl_X3_replaceLocals_2 {X : Cx} {E : Ev} {t : St} {a0 : Nat} (hQ : EndR mX3_replaceLocals X (PoV E t)) (hE : WE E) (fu : Nat) (ha0 : E.1 a0 = some (0, 2, 0)) : ∀ (f : Nat) (x1 : Int32) (x2 : Int32) (x3 : Int32) (S : St), K mX3_replaceLocals X E 2 [(0, .ref a0), (1, .int x1), (2, .int x2), (3, .int x3)] [] S 0 0 (lp_X3_replaceLocals_2 fu E a0 f x1 x2 x3 S) t := by
  intro f
  induction f with
  | zero => intro x1 x2 x3 S; exact K_none
  | succ f hrc2 =>
    intro x1 x2 x3 S
    show K _ _ _ _ _ _ _ _ _ (bd_X3_replaceLocals_2 fu E a0 (lp_X3_replaceLocals_2 fu E a0 f) x1 x2 x3 S) t
    unfold bd_X3_replaceLocals_2
    refine K_iload_n dX3_replaceLocals_2 rfl rfl ?_
    refine K_bipush (v := 12) dX3_replaceLocals_3 (by decide) ?_
    refine K_icmp_ge (tgt := 31) dX3_replaceLocals_5 (by decide) (fun c7 => ?_) (fun c7 => ?_)
    · exact K_vret dX3_replaceLocals_31 hQ rfl (Nat.le_of_ble_eq_true rfl) (Nat.le_of_ble_eq_true rfl)
    · refine K_aload_n dX3_replaceLocals_8 rfl rfl ?_
      refine K_getC hE dX3_replaceLocals_9 f_X3_9_2 ha0 rfl rfl (fun h1 => ?_)
      refine K_iload_n dX3_replaceLocals_12 rfl rfl ?_
      refine K_chk (fun h2 => ?_)
      refine K_iald dX3_replaceLocals_13 h1 h2 ?_
      refine K_iload_n dX3_replaceLocals_14 rfl rfl ?_
      refine K_icmp_ne (tgt := 25) dX3_replaceLocals_15 (by decide) (fun c6 => ?_) (fun c6 => ?_)
      · refine K_iinc (v := (x3 + 1)) (ls' := [(0, _), (1, _), (2, _), (3, _)]) dX3_replaceLocals_25 rfl rfl (by decide) rfl ?_
        refine K_goto (tgt := 2) dX3_replaceLocals_28 (by decide) ?_
        refine K.keep [0, 1, 2, 3] ?_
        exact hrc2 x1 x2 (x3 + 1) S
      · refine K_aload_n dX3_replaceLocals_18 rfl rfl ?_
        refine K_getC hE dX3_replaceLocals_19 f_X3_9_2 ha0 rfl rfl (fun h3 => ?_)
        refine K_iload_n dX3_replaceLocals_22 rfl rfl ?_
        refine K_iload_n dX3_replaceLocals_23 rfl rfl ?_
        refine K_chk (fun h4 => ?_)
        refine K_iast dX3_replaceLocals_24 h3 h4 ?_
        refine K_nmS (fun S5 => ?_)
        refine K_iinc (v := (x3 + 1)) (ls' := [(0, _), (1, _), (2, _), (3, _)]) dX3_replaceLocals_25 rfl rfl (by decide) rfl ?_
        refine K_goto (tgt := 2) dX3_replaceLocals_28 (by decide) ?_
        refine K.keep [0, 1, 2, 3] ?_
        exact hrc2 x1 x2 (x3 + 1) S5
def sp_X3_replaceLocals (fu : Nat) (E : Ev) (S : St) (a0 : Nat) (x1 : Int32) (x2 : Int32) : Option St :=
  lp_X3_replaceLocals_2 fu E a0 fu x1 x2 0 S
set_option maxRecDepth 100000 in
theorem k_X3_replaceLocals {l : Launch} (fu : Nat) {E : Ev} (hE : WE E) {a0 : Nat} (ha0 : E.1 a0 = some (0, 2, 0)) {x1 : Int32} {x2 : Int32} {S : St} {t : St} (h : sp_X3_replaceLocals fu E S a0 x1 x2 = some t) : Cn l mX3_replaceLocals [.ref a0, .int x1, .int x2] (hp E S) (PoV E t) := by
  refine Cn.of (by decide) rfl (Nat.le_of_ble_eq_true rfl) (fun X _ _ hQ => ?_)
  refine (?_ : K mX3_replaceLocals X E 0 [(0, .ref a0), (1, .int x1), (2, .int x2)] [] S 0 0 (sp_X3_replaceLocals fu E S a0 x1 x2) t) h
  unfold sp_X3_replaceLocals
  refine K_iconst (v := 0) dX3_replaceLocals_0 (by decide) ?_
  refine K_istore_n (ls' := [(0, _), (1, _), (2, _), (3, _)]) dX3_replaceLocals_1 rfl (by decide) rfl ?_
  refine K.keep [0, 1, 2, 3] ?_
  exact kl_X3_replaceLocals_2 hQ hE fu ha0 fu x1 x2 0 S
def bd_X3_replaceStack_2 (fu : Nat) (E : Ev) (a0 : Nat) (rc2 : Int32 → Int32 → Int32 → St → Option St) (x1 : Int32) (x2 : Int32) (x3 : Int32) (S : St) : Option St :=
  if (S.1 a0 2) ≤ x3 then (
    some S
  ) else (
    if inb x3 12 = true then
      (
      if (S.2.1 (E.2 a0 1) x3.toNatClampNeg) = x1 then (
        if inb x3 12 = true then (
          bnd (sG S (E.2 a0 1) (x3.toNatClampNeg) x2) fun S5 =>
          rc2 x1 x2 (x3 + 1) S5
        ) else none
      ) else (
        rc2 x1 x2 (x3 + 1) S
      )
      )
    else none
  )
def lp_X3_replaceStack_2 (fu : Nat) (E : Ev) (a0 : Nat) : Nat → Int32 → Int32 → Int32 → St → Option St
  | 0, _, _, _, _ => none
  | f + 1, x1, x2, x3, S => bd_X3_replaceStack_2 fu E a0 (lp_X3_replaceStack_2 fu E a0 f) x1 x2 x3 S
set_option maxRecDepth 100000 in
theorem kl_X3_replaceStack_2 {X : Cx} {E : Ev} {t : St} {a0 : Nat} (hQ : EndR mX3_replaceStack X (PoV E t)) (hE : WE E) (fu : Nat) (ha0 : E.1 a0 = some (0, 2, 0)) : ∀ (f : Nat) (x1 : Int32) (x2 : Int32) (x3 : Int32) (S : St), K mX3_replaceStack X E 2 [(0, .ref a0), (1, .int x1), (2, .int x2), (3, .int x3)] [] S 0 0 (lp_X3_replaceStack_2 fu E a0 f x1 x2 x3 S) t := by
  intro f
  induction f with
  | zero => intro x1 x2 x3 S; exact K_none
  | succ f hrc2 =>
    intro x1 x2 x3 S
    show K _ _ _ _ _ _ _ _ _ (bd_X3_replaceStack_2 fu E a0 (lp_X3_replaceStack_2 fu E a0 f) x1 x2 x3 S) t
    unfold bd_X3_replaceStack_2
    refine K_iload_n dX3_replaceStack_2 rfl rfl ?_
    refine K_aload_n dX3_replaceStack_3 rfl rfl ?_
    refine K_getI dX3_replaceStack_4 f_X3_18_2 ha0 rfl ?_
    refine K_icmp_ge (tgt := 33) dX3_replaceStack_7 (by decide) (fun c7 => ?_) (fun c7 => ?_)
    · exact K_vret dX3_replaceStack_33 hQ rfl (Nat.le_of_ble_eq_true rfl) (Nat.le_of_ble_eq_true rfl)
    · refine K_aload_n dX3_replaceStack_10 rfl rfl ?_
      refine K_getC hE dX3_replaceStack_11 f_X3_15_2 ha0 rfl rfl (fun h1 => ?_)
      refine K_iload_n dX3_replaceStack_14 rfl rfl ?_
      refine K_chk (fun h2 => ?_)
      refine K_iald dX3_replaceStack_15 h1 h2 ?_
      refine K_iload_n dX3_replaceStack_16 rfl rfl ?_
      refine K_icmp_ne (tgt := 27) dX3_replaceStack_17 (by decide) (fun c6 => ?_) (fun c6 => ?_)
      · refine K_iinc (v := (x3 + 1)) (ls' := [(0, _), (1, _), (2, _), (3, _)]) dX3_replaceStack_27 rfl rfl (by decide) rfl ?_
        refine K_goto (tgt := 2) dX3_replaceStack_30 (by decide) ?_
        refine K.keep [0, 1, 2, 3] ?_
        exact hrc2 x1 x2 (x3 + 1) S
      · refine K_aload_n dX3_replaceStack_20 rfl rfl ?_
        refine K_getC hE dX3_replaceStack_21 f_X3_15_2 ha0 rfl rfl (fun h3 => ?_)
        refine K_iload_n dX3_replaceStack_24 rfl rfl ?_
        refine K_iload_n dX3_replaceStack_25 rfl rfl ?_
        refine K_chk (fun h4 => ?_)
        refine K_iast dX3_replaceStack_26 h3 h4 ?_
        refine K_nmS (fun S5 => ?_)
        refine K_iinc (v := (x3 + 1)) (ls' := [(0, _), (1, _), (2, _), (3, _)]) dX3_replaceStack_27 rfl rfl (by decide) rfl ?_
        refine K_goto (tgt := 2) dX3_replaceStack_30 (by decide) ?_
        refine K.keep [0, 1, 2, 3] ?_
        exact hrc2 x1 x2 (x3 + 1) S5
def sp_X3_replaceStack (fu : Nat) (E : Ev) (S : St) (a0 : Nat) (x1 : Int32) (x2 : Int32) : Option St :=
  lp_X3_replaceStack_2 fu E a0 fu x1 x2 0 S
set_option maxRecDepth 100000 in
theorem k_X3_replaceStack {l : Launch} (fu : Nat) {E : Ev} (hE : WE E) {a0 : Nat} (ha0 : E.1 a0 = some (0, 2, 0)) {x1 : Int32} {x2 : Int32} {S : St} {t : St} (h : sp_X3_replaceStack fu E S a0 x1 x2 = some t) : Cn l mX3_replaceStack [.ref a0, .int x1, .int x2] (hp E S) (PoV E t) := by
  refine Cn.of (by decide) rfl (Nat.le_of_ble_eq_true rfl) (fun X _ _ hQ => ?_)
  refine (?_ : K mX3_replaceStack X E 0 [(0, .ref a0), (1, .int x1), (2, .int x2)] [] S 0 0 (sp_X3_replaceStack fu E S a0 x1 x2) t) h
  unfold sp_X3_replaceStack
  refine K_iconst (v := 0) dX3_replaceStack_0 (by decide) ?_
  refine K_istore_n (ls' := [(0, _), (1, _), (2, _), (3, _)]) dX3_replaceStack_1 rfl (by decide) rfl ?_
  refine K.keep [0, 1, 2, 3] ?_
  exact kl_X3_replaceStack_2 hQ hE fu ha0 fu x1 x2 0 S
def bd_X3_hasOnStack_2 (fu : Nat) (E : Ev) (a0 : Nat) (rc2 : Int32 → Int32 → St → Option (Int32 × St)) (x1 : Int32) (x2 : Int32) (S : St) : Option (Int32 × St) :=
  if (S.1 a0 2) ≤ x2 then (
    some (0, S)
  ) else (
    if inb x2 12 = true then
      (
      if (S.2.1 (E.2 a0 1) x2.toNatClampNeg) = x1 then (
        some (1, S)
      ) else (
        rc2 x1 (x2 + 1) S
      )
      )
    else none
  )
def lp_X3_hasOnStack_2 (fu : Nat) (E : Ev) (a0 : Nat) : Nat → Int32 → Int32 → St → Option (Int32 × St)
  | 0, _, _, _ => none
  | f + 1, x1, x2, S => bd_X3_hasOnStack_2 fu E a0 (lp_X3_hasOnStack_2 fu E a0 f) x1 x2 S
set_option maxRecDepth 100000 in
theorem kl_X3_hasOnStack_2 {X : Cx} {E : Ev} {t : (Int32 × St)} {a0 : Nat} (hQ : EndR mX3_hasOnStack X (PoI E t)) (hE : WE E) (fu : Nat) (ha0 : E.1 a0 = some (0, 2, 0)) : ∀ (f : Nat) (x1 : Int32) (x2 : Int32) (S : St), K mX3_hasOnStack X E 2 [(0, .ref a0), (1, .int x1), (2, .int x2)] [] S 0 0 (lp_X3_hasOnStack_2 fu E a0 f x1 x2 S) t := by
  intro f
  induction f with
  | zero => intro x1 x2 S; exact K_none
  | succ f hrc2 =>
    intro x1 x2 S
    show K _ _ _ _ _ _ _ _ _ (bd_X3_hasOnStack_2 fu E a0 (lp_X3_hasOnStack_2 fu E a0 f) x1 x2 S) t
    unfold bd_X3_hasOnStack_2
    refine K_iload_n dX3_hasOnStack_2 rfl rfl ?_
    refine K_aload_n dX3_hasOnStack_3 rfl rfl ?_
    refine K_getI dX3_hasOnStack_4 f_X3_18_2 ha0 rfl ?_
    refine K_icmp_ge (tgt := 28) dX3_hasOnStack_7 (by decide) (fun c4 => ?_) (fun c4 => ?_)
    · refine K_iconst (v := 0) dX3_hasOnStack_28 (by decide) ?_
      exact K_zret dX3_hasOnStack_29 hQ rfl rfl (Nat.le_of_ble_eq_true rfl) (Nat.le_of_ble_eq_true rfl)
    · refine K_aload_n dX3_hasOnStack_10 rfl rfl ?_
      refine K_getC hE dX3_hasOnStack_11 f_X3_15_2 ha0 rfl rfl (fun h1 => ?_)
      refine K_iload_n dX3_hasOnStack_14 rfl rfl ?_
      refine K_chk (fun h2 => ?_)
      refine K_iald dX3_hasOnStack_15 h1 h2 ?_
      refine K_iload_n dX3_hasOnStack_16 rfl rfl ?_
      refine K_icmp_ne (tgt := 22) dX3_hasOnStack_17 (by decide) (fun c3 => ?_) (fun c3 => ?_)
      · refine K_iinc (v := (x2 + 1)) (ls' := [(0, _), (1, _), (2, _)]) dX3_hasOnStack_22 rfl rfl (by decide) rfl ?_
        refine K_goto (tgt := 2) dX3_hasOnStack_25 (by decide) ?_
        refine K.keep [0, 1, 2] ?_
        exact hrc2 x1 (x2 + 1) S
      · refine K_iconst (v := 1) dX3_hasOnStack_20 (by decide) ?_
        exact K_zret dX3_hasOnStack_21 hQ rfl rfl (Nat.le_of_ble_eq_true rfl) (Nat.le_of_ble_eq_true rfl)
def sp_X3_hasOnStack (fu : Nat) (E : Ev) (S : St) (a0 : Nat) (x1 : Int32) : Option (Int32 × St) :=
  lp_X3_hasOnStack_2 fu E a0 fu x1 0 S
set_option maxRecDepth 100000 in
theorem k_X3_hasOnStack {l : Launch} (fu : Nat) {E : Ev} (hE : WE E) {a0 : Nat} (ha0 : E.1 a0 = some (0, 2, 0)) {x1 : Int32} {S : St} {t : (Int32 × St)} (h : sp_X3_hasOnStack fu E S a0 x1 = some t) : Cn l mX3_hasOnStack [.ref a0, .int x1] (hp E S) (PoI E t) := by
  refine Cn.of (by decide) rfl (Nat.le_of_ble_eq_true rfl) (fun X _ _ hQ => ?_)
  refine (?_ : K mX3_hasOnStack X E 0 [(0, .ref a0), (1, .int x1)] [] S 0 0 (sp_X3_hasOnStack fu E S a0 x1) t) h
  unfold sp_X3_hasOnStack
  refine K_iconst (v := 0) dX3_hasOnStack_0 (by decide) ?_
  refine K_istore_n (ls' := [(0, _), (1, _), (2, _)]) dX3_hasOnStack_1 rfl (by decide) rfl ?_
  refine K.keep [0, 1, 2] ?_
  exact kl_X3_hasOnStack_2 hQ hE fu ha0 fu x1 0 S
def bd_X4_clear_2 (fu : Nat) (E : Ev) (a0 : Nat) (rc2 : Int32 → St → Option St) (x1 : Int32) (S : St) : Option St :=
  if 100 ≤ x1 then (
    bnd (sF S a0 2 0) fun S1 =>
    some S1
  ) else (
    if inb x1 100 = true then (
      bnd (sG S (E.2 a0 1) (x1.toNatClampNeg) 0) fun S4 =>
      rc2 (x1 + 1) S4
    ) else none
  )
def lp_X4_clear_2 (fu : Nat) (E : Ev) (a0 : Nat) : Nat → Int32 → St → Option St
  | 0, _, _ => none
  | f + 1, x1, S => bd_X4_clear_2 fu E a0 (lp_X4_clear_2 fu E a0 f) x1 S
set_option maxRecDepth 100000 in
theorem kl_X4_clear_2 {X : Cx} {E : Ev} {t : St} {a0 : Nat} (hQ : EndR mX4_clear X (PoV E t)) (hE : WE E) (fu : Nat) (ha0 : E.1 a0 = some (0, 3, 0)) : ∀ (f : Nat) (x1 : Int32) (S : St), K mX4_clear X E 2 [(0, .ref a0), (1, .int x1)] [] S 0 0 (lp_X4_clear_2 fu E a0 f x1 S) t := by
  intro f
  induction f with
  | zero => intro x1 S; exact K_none
  | succ f hrc2 =>
    intro x1 S
    show K _ _ _ _ _ _ _ _ _ (bd_X4_clear_2 fu E a0 (lp_X4_clear_2 fu E a0 f) x1 S) t
    unfold bd_X4_clear_2
    refine K_iload_n dX4_clear_2 rfl rfl ?_
    refine K_bipush (v := 100) dX4_clear_3 (by decide) ?_
    refine K_icmp_ge (tgt := 21) dX4_clear_5 (by decide) (fun c5 => ?_) (fun c5 => ?_)
    · refine K_aload_n dX4_clear_21 rfl rfl ?_
      refine K_iconst (v := 0) dX4_clear_22 (by decide) ?_
      refine K_putI dX4_clear_23 p_X4_22_3 ha0 rfl ?_
      refine K_nmS (fun S1 => ?_)
      exact K_vret dX4_clear_26 hQ rfl (Nat.le_of_ble_eq_true rfl) (Nat.le_of_ble_eq_true rfl)
    · refine K_aload_n dX4_clear_8 rfl rfl ?_
      refine K_getC hE dX4_clear_9 f_X4_17_3 ha0 rfl rfl (fun h2 => ?_)
      refine K_iload_n dX4_clear_12 rfl rfl ?_
      refine K_iconst (v := 0) dX4_clear_13 (by decide) ?_
      refine K_chk (fun h3 => ?_)
      refine K_zast dX4_clear_14 h2 h3 rfl ?_
      refine K_nmS (fun S4 => ?_)
      refine K_iinc (v := (x1 + 1)) (ls' := [(0, _), (1, _)]) dX4_clear_15 rfl rfl (by decide) rfl ?_
      refine K_goto (tgt := 2) dX4_clear_18 (by decide) ?_
      refine K.keep [0, 1] ?_
      exact hrc2 (x1 + 1) S4
def sp_X4_clear (fu : Nat) (E : Ev) (S : St) (a0 : Nat) : Option St :=
  lp_X4_clear_2 fu E a0 fu 0 S
set_option maxRecDepth 100000 in
theorem k_X4_clear {l : Launch} (fu : Nat) {E : Ev} (hE : WE E) {a0 : Nat} (ha0 : E.1 a0 = some (0, 3, 0)) {S : St} {t : St} (h : sp_X4_clear fu E S a0 = some t) : Cn l mX4_clear [.ref a0] (hp E S) (PoV E t) := by
  refine Cn.of (by decide) rfl (Nat.le_of_ble_eq_true rfl) (fun X _ _ hQ => ?_)
  refine (?_ : K mX4_clear X E 0 [(0, .ref a0)] [] S 0 0 (sp_X4_clear fu E S a0) t) h
  unfold sp_X4_clear
  refine K_iconst (v := 0) dX4_clear_0 (by decide) ?_
  refine K_istore_n (ls' := [(0, _), (1, _)]) dX4_clear_1 rfl (by decide) rfl ?_
  refine K.keep [0, 1] ?_
  exact kl_X4_clear_2 hQ hE fu ha0 fu 0 S
def sp_X4_contains (fu : Nat) (E : Ev) (S : St) (a0 : Nat) (x1 : Int32) : Option (Int32 × St) :=
  if inb x1 100 = true then
    (
    if isB (S.2.1 (E.2 a0 1) x1.toNatClampNeg) = true then some (S.2.1 (E.2 a0 1) x1.toNatClampNeg, S) else none
    )
  else none
set_option maxRecDepth 100000 in
theorem k_X4_contains {l : Launch} (fu : Nat) {E : Ev} (hE : WE E) {a0 : Nat} (ha0 : E.1 a0 = some (0, 3, 0)) {x1 : Int32} {S : St} {t : (Int32 × St)} (h : sp_X4_contains fu E S a0 x1 = some t) : Cn l mX4_contains [.ref a0, .int x1] (hp E S) (PoI E t) := by
  refine Cn.of (by decide) rfl (Nat.le_of_ble_eq_true rfl) (fun X _ _ hQ => ?_)
  refine (?_ : K mX4_contains X E 0 [(0, .ref a0), (1, .int x1)] [] S 0 0 (sp_X4_contains fu E S a0 x1) t) h
  unfold sp_X4_contains
  refine K_aload_n dX4_contains_0 rfl rfl ?_
  refine K_getC hE dX4_contains_1 f_X4_17_3 ha0 rfl rfl (fun h1 => ?_)
  refine K_iload_n dX4_contains_4 rfl rfl ?_
  refine K_chk (fun h2 => ?_)
  refine K_zald dX4_contains_5 h1 h2 ?_
  refine K_chk (fun h3 => ?_)
  exact K_zret dX4_contains_6 hQ rfl h3 (Nat.le_of_ble_eq_true rfl) (Nat.le_of_ble_eq_true rfl)
def sp_X4_put (fu : Nat) (E : Ev) (S : St) (a0 : Nat) (x1 : Int32) (a2 : Nat) : Option St :=
  if inb x1 100 = true then
    (
    if (S.2.1 (E.2 a0 1) x1.toNatClampNeg) = 0 then (
      if inb x1 100 = true then (
        bnd (sG S (E.2 a0 1) (x1.toNatClampNeg) 1) fun S9 =>
        bnd (sF S9 a0 2 ((S9.1 a0 2) + 1)) fun S10 =>
        if inb x1 100 = true then
          (
          (sp_X3_copyFrom fu E S10 (E.2 (E.2 a0 0) x1.toNatClampNeg) a2).bind fun u14 =>
          some u14
          )
        else none
      ) else none
    ) else (
      if inb x1 100 = true then
        (
        (sp_X3_copyFrom fu E S (E.2 (E.2 a0 0) x1.toNatClampNeg) a2).bind fun u6 =>
        some u6
        )
      else none
    )
    )
  else none
set_option maxRecDepth 100000 in
theorem k_X4_put {l : Launch} (fu : Nat) {E : Ev} (hE : WE E) {a0 : Nat} (ha0 : E.1 a0 = some (0, 3, 0)) {a2 : Nat} (ha2 : E.1 a2 = some (0, 2, 0)) {x1 : Int32} {S : St} {t : St} (h : sp_X4_put fu E S a0 x1 a2 = some t) : Cn l mX4_put [.ref a0, .int x1, .ref a2] (hp E S) (PoV E t) := by
  refine Cn.of (by decide) rfl (Nat.le_of_ble_eq_true rfl) (fun X _ _ hQ => ?_)
  refine (?_ : K mX4_put X E 0 [(0, .ref a0), (1, .int x1), (2, .ref a2)] [] S 0 0 (sp_X4_put fu E S a0 x1 a2) t) h
  unfold sp_X4_put
  refine K_aload_n dX4_put_0 rfl rfl ?_
  refine K_getC hE dX4_put_1 f_X4_17_3 ha0 rfl rfl (fun h1 => ?_)
  refine K_iload_n dX4_put_4 rfl rfl ?_
  refine K_chk (fun h2 => ?_)
  refine K_zald dX4_put_5 h1 h2 ?_
  refine K_if_ne (tgt := 26) dX4_put_6 (by decide) (fun c15 => ?_) (fun c15 => ?_)
  · refine K_aload_n dX4_put_26 rfl rfl ?_
    refine K_getC hE dX4_put_27 f_X4_11_3 ha0 rfl rfl (fun h3 => ?_)
    refine K_iload_n dX4_put_30 rfl rfl ?_
    refine K_chk (fun h4 => ?_)
    refine K_qald hE dX4_put_31 h3 h4 (fun h5 => ?_)
    refine K_aload_n dX4_put_32 rfl rfl ?_
    refine K_bind (fun u6 hu6 => ?_)
    refine K_callVV (As := [.ref a2]) (k_X3_copyFrom fu hE h5 ha2 hu6) dX4_put_33 v_X4_26 h5 rfl rfl rfl rfl (Nat.le_of_ble_eq_true rfl) ⟨Nat.le_of_ble_eq_true rfl, Nat.le_of_ble_eq_true rfl, Nat.le_of_ble_eq_true rfl, Nat.le_of_ble_eq_true rfl⟩ ?_
    exact K_vret dX4_put_36 hQ rfl (Nat.le_of_ble_eq_true rfl) (Nat.le_of_ble_eq_true rfl)
  · refine K_aload_n dX4_put_9 rfl rfl ?_
    refine K_getC hE dX4_put_10 f_X4_17_3 ha0 rfl rfl (fun h7 => ?_)
    refine K_iload_n dX4_put_13 rfl rfl ?_
    refine K_iconst (v := 1) dX4_put_14 (by decide) ?_
    refine K_chk (fun h8 => ?_)
    refine K_zast dX4_put_15 h7 h8 rfl ?_
    refine K_nmS (fun S9 => ?_)
    refine K_aload_n dX4_put_16 rfl rfl ?_
    refine K_dup dX4_put_17 rfl ?_
    refine K_getI dX4_put_18 f_X4_22_3 ha0 rfl ?_
    refine K_iconst (v := 1) dX4_put_21 (by decide) ?_
    refine K_iadd dX4_put_22 ?_
    refine K_putI dX4_put_23 p_X4_22_3 ha0 rfl ?_
    refine K_nmS (fun S10 => ?_)
    refine K_aload_n dX4_put_26 rfl rfl ?_
    refine K_getC hE dX4_put_27 f_X4_11_3 ha0 rfl rfl (fun h11 => ?_)
    refine K_iload_n dX4_put_30 rfl rfl ?_
    refine K_chk (fun h12 => ?_)
    refine K_qald hE dX4_put_31 h11 h12 (fun h13 => ?_)
    refine K_aload_n dX4_put_32 rfl rfl ?_
    refine K_bind (fun u14 hu14 => ?_)
    refine K_callVV (As := [.ref a2]) (k_X3_copyFrom fu hE h13 ha2 hu14) dX4_put_33 v_X4_26 h13 rfl rfl rfl rfl (Nat.le_of_ble_eq_true rfl) ⟨Nat.le_of_ble_eq_true rfl, Nat.le_of_ble_eq_true rfl, Nat.le_of_ble_eq_true rfl, Nat.le_of_ble_eq_true rfl⟩ ?_
    exact K_vret dX4_put_36 hQ rfl (Nat.le_of_ble_eq_true rfl) (Nat.le_of_ble_eq_true rfl)
def sp_X0_examine_4 (fu : Nat) (E : Ev) (S : St) (a0 : Nat) : Option (Int32 × St) :=
  (sp_X2_run fu E S (E.2 a0 6)).bind fun u2 =>
  bnd (sF u2.2 a0 3 (u2.2.1 (E.2 a0 6) 3)) fun S4 =>
  bnd (sF S4 a0 4 0) fun S5 =>
  some (u2.1, S5)
set_option maxRecDepth 100000 in
theorem k_X0_examine_4 {l : Launch} (fu : Nat) {E : Ev} (hE : WE E) {a0 : Nat} (ha0 : E.1 a0 = some (0, 4, 0)) {S : St} {t : (Int32 × St)} (h : sp_X0_examine_4 fu E S a0 = some t) : Cn l mX0_examine [.ref a0] (hp E S) (PoI E t) := by
  refine Cn.of (by decide) rfl (Nat.le_of_ble_eq_true rfl) (fun X _ _ hQ => ?_)
  refine (?_ : K mX0_examine X E 0 [(0, .ref a0)] [] S 0 0 (sp_X0_examine_4 fu E S a0) t) h
  unfold sp_X0_examine_4
  refine K_aload_n dX0_examine_0 rfl rfl ?_
  refine K_getC hE dX0_examine_1 f_X0_38_4 ha0 rfl rfl (fun h1 => ?_)
  refine K_bind (fun u2 hu2 => ?_)
  refine K_callVI (As := []) (k_X2_run fu hE h1 hu2) dX0_examine_4 v_X0_56 h1 rfl rfl rfl rfl (Nat.le_of_ble_eq_true rfl) ⟨Nat.le_of_ble_eq_true rfl, Nat.le_of_ble_eq_true rfl, Nat.le_of_ble_eq_true rfl, Nat.le_of_ble_eq_true rfl⟩ ?_
  refine K_istore_n (ls' := [(0, _), (1, _)]) dX0_examine_7 rfl (by decide) rfl ?_
  refine K_aload_n dX0_examine_8 rfl rfl ?_
  refine K_aload_n dX0_examine_9 rfl rfl ?_
  refine K_getC hE dX0_examine_10 f_X0_38_4 ha0 rfl rfl (fun h3 => ?_)
  refine K_getI dX0_examine_13 f_X0_60_1 h3 rfl ?_
  refine K_putI dX0_examine_16 p_X0_49_4 ha0 rfl ?_
  refine K_nmS (fun S4 => ?_)
  refine K_aload_n dX0_examine_19 rfl rfl ?_
  refine K_iconst (v := 0) dX0_examine_20 (by decide) ?_
  refine K_putI dX0_examine_21 p_X0_53_4 ha0 rfl ?_
  refine K_nmS (fun S5 => ?_)
  refine K_iload_n dX0_examine_24 rfl rfl ?_
  exact K_iret dX0_examine_25 hQ rfl (Nat.le_of_ble_eq_true rfl) (Nat.le_of_ble_eq_true rfl)
def bd_X10_inherits_5 (fu : Nat) (E : Ev) (a0 : Nat) (rc5 : Int32 → Int32 → Int32 → St → Option (Int32 × St)) (x2 : Int32) (x3 : Int32) (x4 : Int32) (S : St) : Option (Int32 × St) :=
  if 20 ≤ x4 then (
    some (0, S)
  ) else (
    if x3 = (-1) then (
      some (0, S)
    ) else (
      if x3 = x2 then (
        some (1, S)
      ) else (
        if inb x3 20 = true then
          (
          bnd (S.2.1 (E.2 a0 0) x3.toNatClampNeg) fun v3 =>
          rc5 x2 v3 (x4 + 1) S
          )
        else none
      )
    )
  )
def lp_X10_inherits_5 (fu : Nat) (E : Ev) (a0 : Nat) : Nat → Int32 → Int32 → Int32 → St → Option (Int32 × St)
  | 0, _, _, _, _ => none
  | f + 1, x2, x3, x4, S => bd_X10_inherits_5 fu E a0 (lp_X10_inherits_5 fu E a0 f) x2 x3 x4 S
set_option maxRecDepth 100000 in
theorem kl_X10_inherits_5 {X : Cx} {E : Ev} {t : (Int32 × St)} {a0 : Nat} (hQ : EndR mX10_inherits X (PoI E t)) (hE : WE E) (fu : Nat) (ha0 : E.1 a0 = some (0, 8, 0)) : ∀ (f : Nat) (x2 : Int32) (x3 : Int32) (x4 : Int32) (S : St), K mX10_inherits X E 5 [(0, .ref a0), (2, .int x2), (3, .int x3), (4, .int x4)] [] S 0 0 (lp_X10_inherits_5 fu E a0 f x2 x3 x4 S) t := by
  intro f
  induction f with
  | zero => intro x2 x3 x4 S; exact K_none
  | succ f hrc5 =>
    intro x2 x3 x4 S
    show K _ _ _ _ _ _ _ _ _ (bd_X10_inherits_5 fu E a0 (lp_X10_inherits_5 fu E a0 f) x2 x3 x4 S) t
    unfold bd_X10_inherits_5
    refine K_iload dX10_inherits_5 rfl ?_
    refine K_bipush (v := 20) dX10_inherits_7 (by decide) ?_
    refine K_icmp_ge (tgt := 37) dX10_inherits_9 (by decide) (fun c6 => ?_) (fun c6 => ?_)
    · refine K_iconst (v := 0) dX10_inherits_37 (by decide) ?_
      exact K_zret dX10_inherits_38 hQ rfl rfl (Nat.le_of_ble_eq_true rfl) (Nat.le_of_ble_eq_true rfl)
    · refine K_iload_n dX10_inherits_12 rfl rfl ?_
      refine K_iconst (v := (-1)) dX10_inherits_13 (by decide) ?_
      refine K_icmp_eq (tgt := 37) dX10_inherits_14 (by decide) (fun c5 => ?_) (fun c5 => ?_)
      · refine K_iconst (v := 0) dX10_inherits_37 (by decide) ?_
        exact K_zret dX10_inherits_38 hQ rfl rfl (Nat.le_of_ble_eq_true rfl) (Nat.le_of_ble_eq_true rfl)
      · refine K_iload_n dX10_inherits_17 rfl rfl ?_
        refine K_iload_n dX10_inherits_18 rfl rfl ?_
        refine K_icmp_ne (tgt := 24) dX10_inherits_19 (by decide) (fun c4 => ?_) (fun c4 => ?_)
        · refine K_aload_n dX10_inherits_24 rfl rfl ?_
          refine K_getC hE dX10_inherits_25 f_X10_9_8 ha0 rfl rfl (fun h1 => ?_)
          refine K_iload_n dX10_inherits_28 rfl rfl ?_
          refine K_chk (fun h2 => ?_)
          refine K_iald dX10_inherits_29 h1 h2 ?_
          refine K_nmI (fun v3 => ?_)
          refine K_istore_n (ls' := [(0, _), (2, _), (3, _), (4, _)]) dX10_inherits_30 rfl (by decide) rfl ?_
          refine K_iinc (v := (x4 + 1)) (ls' := [(0, _), (2, _), (3, _), (4, _)]) dX10_inherits_31 rfl rfl (by decide) rfl ?_
          refine K_goto (tgt := 5) dX10_inherits_34 (by decide) ?_
          refine K.keep [0, 2, 3, 4] ?_
          exact hrc5 x2 v3 (x4 + 1) S
        · refine K_iconst (v := 1) dX10_inherits_22 (by decide) ?_
          exact K_zret dX10_inherits_23 hQ rfl rfl (Nat.le_of_ble_eq_true rfl) (Nat.le_of_ble_eq_true rfl)
def sp_X10_inherits (fu : Nat) (E : Ev) (S : St) (a0 : Nat) (x1 : Int32) (x2 : Int32) : Option (Int32 × St) :=
  lp_X10_inherits_5 fu E a0 fu x2 x1 0 S
set_option maxRecDepth 100000 in
theorem k_X10_inherits {l : Launch} (fu : Nat) {E : Ev} (hE : WE E) {a0 : Nat} (ha0 : E.1 a0 = some (0, 8, 0)) {x1 : Int32} {x2 : Int32} {S : St} {t : (Int32 × St)} (h : sp_X10_inherits fu E S a0 x1 x2 = some t) : Cn l mX10_inherits [.ref a0, .int x1, .int x2] (hp E S) (PoI E t) := by
  refine Cn.of (by decide) rfl (Nat.le_of_ble_eq_true rfl) (fun X _ _ hQ => ?_)
  refine (?_ : K mX10_inherits X E 0 [(0, .ref a0), (1, .int x1), (2, .int x2)] [] S 0 0 (sp_X10_inherits fu E S a0 x1 x2) t) h
  unfold sp_X10_inherits
  refine K_iload_n dX10_inherits_0 rfl rfl ?_
  refine K_istore_n (ls' := [(0, _), (1, _), (2, _), (3, _)]) dX10_inherits_1 rfl (by decide) rfl ?_
  refine K_iconst (v := 0) dX10_inherits_2 (by decide) ?_
  refine K_istore (ls' := [(0, _), (1, _), (2, _), (3, _), (4, _)]) dX10_inherits_3 (by decide) rfl ?_
  refine K.keep [0, 2, 3, 4] ?_
  exact kl_X10_inherits_5 hQ hE fu ha0 fu x2 x1 0 S
def bd_X10_commonClass_23 (fu : Nat) (E : Ev) (a0 : Nat) (rc23 : Int32 → Int32 → Int32 → St → Option (Int32 × St)) (x2 : Int32) (x3 : Int32) (x4 : Int32) (S : St) : Option (Int32 × St) :=
  if 20 ≤ x4 then (
    some (2, S)
  ) else (
    if x3 = (-1) then (
      some (2, S)
    ) else (
      (sp_X10_inherits fu E S a0 x2 x3).bind fun u3 =>
      if u3.1 = 0 then (
        if inb x3 20 = true then
          (
          bnd (u3.2.2.1 (E.2 a0 0) x3.toNatClampNeg) fun v6 =>
          rc23 x2 v6 (x4 + 1) u3.2
          )
        else none
      ) else (
        some (x3, u3.2)
      )
    )
  )
def lp_X10_commonClass_23 (fu : Nat) (E : Ev) (a0 : Nat) : Nat → Int32 → Int32 → Int32 → St → Option (Int32 × St)
  | 0, _, _, _, _ => none
  | f + 1, x2, x3, x4, S => bd_X10_commonClass_23 fu E a0 (lp_X10_commonClass_23 fu E a0 f) x2 x3 x4 S
set_option maxRecDepth 100000 in
theorem kl_X10_commonClass_23 {X : Cx} {E : Ev} {t : (Int32 × St)} {a0 : Nat} (hQ : EndR mX10_commonClass X (PoI E t)) (hE : WE E) (fu : Nat) (ha0 : E.1 a0 = some (0, 8, 0)) : ∀ (f : Nat) (x2 : Int32) (x3 : Int32) (x4 : Int32) (S : St), K mX10_commonClass X E 23 [(0, .ref a0), (2, .int x2), (3, .int x3), (4, .int x4)] [] S 0 0 (lp_X10_commonClass_23 fu E a0 f x2 x3 x4 S) t := by
  intro f
  induction f with
  | zero => intro x2 x3 x4 S; exact K_none
  | succ f hrc23 =>
    intro x2 x3 x4 S
    show K _ _ _ _ _ _ _ _ _ (bd_X10_commonClass_23 fu E a0 (lp_X10_commonClass_23 fu E a0 f) x2 x3 x4 S) t
    unfold bd_X10_commonClass_23
    refine K_iload dX10_commonClass_23 rfl ?_
    refine K_bipush (v := 20) dX10_commonClass_25 (by decide) ?_
    refine K_icmp_ge (tgt := 59) dX10_commonClass_27 (by decide) (fun c9 => ?_) (fun c9 => ?_)
    · refine K_iconst (v := 2) dX10_commonClass_59 (by decide) ?_
      exact K_iret dX10_commonClass_60 hQ rfl (Nat.le_of_ble_eq_true rfl) (Nat.le_of_ble_eq_true rfl)
    · refine K_iload_n dX10_commonClass_30 rfl rfl ?_
      refine K_iconst (v := (-1)) dX10_commonClass_31 (by decide) ?_
      refine K_icmp_eq (tgt := 59) dX10_commonClass_32 (by decide) (fun c8 => ?_) (fun c8 => ?_)
      · refine K_iconst (v := 2) dX10_commonClass_59 (by decide) ?_
        exact K_iret dX10_commonClass_60 hQ rfl (Nat.le_of_ble_eq_true rfl) (Nat.le_of_ble_eq_true rfl)
      · refine K_aload_n dX10_commonClass_35 rfl rfl ?_
        refine K_iload_n dX10_commonClass_36 rfl rfl ?_
        refine K_iload_n dX10_commonClass_37 rfl rfl ?_
        refine K_bind (fun u3 hu3 => ?_)
        refine K_callVI (As := [.int x2, .int x3]) (k_X10_inherits fu hE ha0 hu3) dX10_commonClass_38 v_X10_43 ha0 rfl rfl rfl rfl (Nat.le_of_ble_eq_true rfl) ⟨Nat.le_of_ble_eq_true rfl, Nat.le_of_ble_eq_true rfl, Nat.le_of_ble_eq_true rfl, Nat.le_of_ble_eq_true rfl⟩ ?_
        refine K_if_eq (tgt := 46) dX10_commonClass_41 (by decide) (fun c7 => ?_) (fun c7 => ?_)
        · refine K_aload_n dX10_commonClass_46 rfl rfl ?_
          refine K_getC hE dX10_commonClass_47 f_X10_9_8 ha0 rfl rfl (fun h4 => ?_)
          refine K_iload_n dX10_commonClass_50 rfl rfl ?_
          refine K_chk (fun h5 => ?_)
          refine K_iald dX10_commonClass_51 h4 h5 ?_
          refine K_nmI (fun v6 => ?_)
          refine K_istore_n (ls' := [(0, _), (2, _), (3, _), (4, _)]) dX10_commonClass_52 rfl (by decide) rfl ?_
          refine K_iinc (v := (x4 + 1)) (ls' := [(0, _), (2, _), (3, _), (4, _)]) dX10_commonClass_53 rfl rfl (by decide) rfl ?_
          refine K_goto (tgt := 23) dX10_commonClass_56 (by decide) ?_
          refine K.keep [0, 2, 3, 4] ?_
          exact hrc23 x2 v6 (x4 + 1) u3.2
        · refine K_iload_n dX10_commonClass_44 rfl rfl ?_
          exact K_iret dX10_commonClass_45 hQ rfl (Nat.le_of_ble_eq_true rfl) (Nat.le_of_ble_eq_true rfl)
def sp_X10_commonClass (fu : Nat) (E : Ev) (S : St) (a0 : Nat) (x1 : Int32) (x2 : Int32) : Option (Int32 × St) :=
  (sp_X10_isClass fu E S a0 x1).bind fun u1 =>
  if u1.1 = 0 then (
    some (2, u1.2)
  ) else (
    (sp_X10_isClass fu E u1.2 a0 x2).bind fun u2 =>
    if u2.1 = 0 then (
      some (2, u2.2)
    ) else (
      lp_X10_commonClass_23 fu E a0 fu x2 x1 0 u2.2
    )
  )
set_option maxRecDepth 100000 in
theorem k_X10_commonClass {l : Launch} (fu : Nat) {E : Ev} (hE : WE E) {a0 : Nat} (ha0 : E.1 a0 = some (0, 8, 0)) {x1 : Int32} {x2 : Int32} {S : St} {t : (Int32 × St)} (h : sp_X10_commonClass fu E S a0 x1 x2 = some t) : Cn l mX10_commonClass [.ref a0, .int x1, .int x2] (hp E S) (PoI E t) := by
  refine Cn.of (by decide) rfl (Nat.le_of_ble_eq_true rfl) (fun X _ _ hQ => ?_)
  refine (?_ : K mX10_commonClass X E 0 [(0, .ref a0), (1, .int x1), (2, .int x2)] [] S 0 0 (sp_X10_commonClass fu E S a0 x1 x2) t) h
  unfold sp_X10_commonClass
  refine K_aload_n dX10_commonClass_0 rfl rfl ?_
  refine K_iload_n dX10_commonClass_1 rfl rfl ?_
  refine K_bind (fun u1 hu1 => ?_)
  refine K_callVI (As := [.int x1]) (k_X10_isClass fu hE ha0 hu1) dX10_commonClass_2 v_X10_53 ha0 rfl rfl rfl rfl (Nat.le_of_ble_eq_true rfl) ⟨Nat.le_of_ble_eq_true rfl, Nat.le_of_ble_eq_true rfl, Nat.le_of_ble_eq_true rfl, Nat.le_of_ble_eq_true rfl⟩ ?_
  refine K_if_eq (tgt := 16) dX10_commonClass_5 (by decide) (fun c11 => ?_) (fun c11 => ?_)
  · refine K_iconst (v := 2) dX10_commonClass_16 (by decide) ?_
    exact K_iret dX10_commonClass_17 hQ rfl (Nat.le_of_ble_eq_true rfl) (Nat.le_of_ble_eq_true rfl)
  · refine K_aload_n dX10_commonClass_8 rfl rfl ?_
    refine K_iload_n dX10_commonClass_9 rfl rfl ?_
    refine K_bind (fun u2 hu2 => ?_)
    refine K_callVI (As := [.int x2]) (k_X10_isClass fu hE ha0 hu2) dX10_commonClass_10 v_X10_53 ha0 rfl rfl rfl rfl (Nat.le_of_ble_eq_true rfl) ⟨Nat.le_of_ble_eq_true rfl, Nat.le_of_ble_eq_true rfl, Nat.le_of_ble_eq_true rfl, Nat.le_of_ble_eq_true rfl⟩ ?_
    refine K_if_ne (tgt := 18) dX10_commonClass_13 (by decide) (fun c10 => ?_) (fun c10 => ?_)
    · refine K_iload_n dX10_commonClass_18 rfl rfl ?_
      refine K_istore_n (ls' := [(0, _), (1, _), (2, _), (3, _)]) dX10_commonClass_19 rfl (by decide) rfl ?_
      refine K_iconst (v := 0) dX10_commonClass_20 (by decide) ?_
      refine K_istore (ls' := [(0, _), (1, _), (2, _), (3, _), (4, _)]) dX10_commonClass_21 (by decide) rfl ?_
      refine K.keep [0, 2, 3, 4] ?_
      exact kl_X10_commonClass_23 hQ hE fu ha0 fu x2 x1 0 u2.2
    · refine K_iconst (v := 2) dX10_commonClass_16 (by decide) ?_
      exact K_iret dX10_commonClass_17 hQ rfl (Nat.le_of_ble_eq_true rfl) (Nat.le_of_ble_eq_true rfl)
def jb_X10_referenceLevels_18 (fu : Nat) (E : Ev) (x1 : Int32) (y0 : Int32) (S : St) : Option (Int32 × St) :=
  if y0 = 0 then (
    some (x1, S)
  ) else (
    if x1 ≤ 0 then (
      some (x1, S)
    ) else (
      some (x1 - 1, S)
    )
  )
set_option maxRecDepth 100000 in
theorem kj_X10_referenceLevels_18 {X : Cx} {E : Ev} {t : (Int32 × St)} (hQ : EndR mX10_referenceLevels X (PoI E t)) (hE : WE E) (fu : Nat) (x1 : Int32) (y0 : Int32) (S : St) : K mX10_referenceLevels X E 18 [(1, .int x1)] [.int y0] S 0 0 (jb_X10_referenceLevels_18 fu E x1 y0 S) t := by
  unfold jb_X10_referenceLevels_18
  refine K_istore_n (ls' := [(1, _), (2, _)]) dX10_referenceLevels_18 rfl (by decide) rfl ?_
  refine K_iload_n dX10_referenceLevels_19 rfl rfl ?_
  refine K_if_eq (tgt := 33) dX10_referenceLevels_20 (by decide) (fun c3 => ?_) (fun c3 => ?_)
  · refine K_iload_n dX10_referenceLevels_33 rfl rfl ?_
    exact K_iret dX10_referenceLevels_34 hQ rfl (Nat.le_of_ble_eq_true rfl) (Nat.le_of_ble_eq_true rfl)
  · refine K_iload_n dX10_referenceLevels_23 rfl rfl ?_
    refine K_if_le (tgt := 33) dX10_referenceLevels_24 (by decide) (fun c2 => ?_) (fun c2 => ?_)
    · refine K_iload_n dX10_referenceLevels_33 rfl rfl ?_
      exact K_iret dX10_referenceLevels_34 hQ rfl (Nat.le_of_ble_eq_true rfl) (Nat.le_of_ble_eq_true rfl)
    · refine K_iload_n dX10_referenceLevels_27 rfl rfl ?_
      refine K_iconst (v := 1) dX10_referenceLevels_28 (by decide) ?_
      refine K_isub dX10_referenceLevels_29 ?_
      refine K_goto (tgt := 34) dX10_referenceLevels_30 (by decide) ?_
      exact K_iret dX10_referenceLevels_34 hQ rfl (Nat.le_of_ble_eq_true rfl) (Nat.le_of_ble_eq_true rfl)
def sp_X10_referenceLevels (fu : Nat) (E : Ev) (S : St) (x0 : Int32) : Option (Int32 × St) :=
  bnd (x0 - x0 / 8 * 8) fun v1 =>
  if 2 ≤ (x0 / 8) then (
    jb_X10_referenceLevels_18 fu E  v1 0 S
  ) else (
    jb_X10_referenceLevels_18 fu E  v1 1 S
  )
set_option maxRecDepth 100000 in
theorem k_X10_referenceLevels {l : Launch} (fu : Nat) {E : Ev} (hE : WE E) {x0 : Int32} {S : St} {t : (Int32 × St)} (h : sp_X10_referenceLevels fu E S x0 = some t) : Cn l mX10_referenceLevels [.int x0] (hp E S) (PoI E t) := by
  refine Cn.of (by decide) rfl (Nat.le_of_ble_eq_true rfl) (fun X _ _ hQ => ?_)
  refine (?_ : K mX10_referenceLevels X E 0 [(0, .int x0)] [] S 0 0 (sp_X10_referenceLevels fu E S x0) t) h
  unfold sp_X10_referenceLevels
  refine K_iload_n dX10_referenceLevels_0 rfl rfl ?_
  refine K_bipush (v := 8) dX10_referenceLevels_1 (by decide) ?_
  refine K_irem dX10_referenceLevels_3 (by decide) ?_
  refine K_nmI (fun v1 => ?_)
  refine K_istore_n (ls' := [(0, _), (1, _)]) dX10_referenceLevels_4 rfl (by decide) rfl ?_
  refine K_iload_n dX10_referenceLevels_5 rfl rfl ?_
  refine K_bipush (v := 8) dX10_referenceLevels_6 (by decide) ?_
  refine K_idiv dX10_referenceLevels_8 (by decide) ?_
  refine K_iconst (v := 2) dX10_referenceLevels_9 (by decide) ?_
  refine K_icmp_ge (tgt := 17) dX10_referenceLevels_10 (by decide) (fun c4 => ?_) (fun c4 => ?_)
  · refine K_iconst (v := 0) dX10_referenceLevels_17 (by decide) ?_
    refine K.keep [1] ?_
    exact kj_X10_referenceLevels_18 hQ hE fu  v1 0 S
  · refine K_iconst (v := 1) dX10_referenceLevels_13 (by decide) ?_
    refine K_goto (tgt := 18) dX10_referenceLevels_14 (by decide) ?_
    refine K.keep [1] ?_
    exact kj_X10_referenceLevels_18 hQ hE fu  v1 1 S
def sp_X11_isReference (fu : Nat) (E : Ev) (S : St) (x0 : Int32) : Option (Int32 × St) :=
  if x0 = (-1) then (
    some (1, S)
  ) else (
    (sp_X11_isReferenceType fu E S x0).bind fun u1 =>
    if u1.1 = 0 then (
      some (0, u1.2)
    ) else (
      some (1, u1.2)
    )
  )
set_option maxRecDepth 100000 in
theorem k_X11_isReference {l : Launch} (fu : Nat) {E : Ev} (hE : WE E) {x0 : Int32} {S : St} {t : (Int32 × St)} (h : sp_X11_isReference fu E S x0 = some t) : Cn l mX11_isReference [.int x0] (hp E S) (PoI E t) := by
  refine Cn.of (by decide) rfl (Nat.le_of_ble_eq_true rfl) (fun X _ _ hQ => ?_)
  refine (?_ : K mX11_isReference X E 0 [(0, .int x0)] [] S 0 0 (sp_X11_isReference fu E S x0) t) h
  unfold sp_X11_isReference
  refine K_iload_n dX11_isReference_0 rfl rfl ?_
  refine K_iconst (v := (-1)) dX11_isReference_1 (by decide) ?_
  refine K_icmp_eq (tgt := 12) dX11_isReference_2 (by decide) (fun c3 => ?_) (fun c3 => ?_)
  · refine K_iconst (v := 1) dX11_isReference_12 (by decide) ?_
    refine K_goto (tgt := 17) dX11_isReference_13 (by decide) ?_
    exact K_zret dX11_isReference_17 hQ rfl rfl (Nat.le_of_ble_eq_true rfl) (Nat.le_of_ble_eq_true rfl)
  · refine K_iload_n dX11_isReference_5 rfl rfl ?_
    refine K_bind (fun u1 hu1 => ?_)
    refine K_callSI (As := [.int x0]) (k_X11_isReferenceType fu hE hu1) dX11_isReference_6 s_X11_330 rfl rfl (Nat.le_of_ble_eq_true rfl) ⟨Nat.le_of_ble_eq_true rfl, Nat.le_of_ble_eq_true rfl, Nat.le_of_ble_eq_true rfl, Nat.le_of_ble_eq_true rfl⟩ ?_
    refine K_if_eq (tgt := 16) dX11_isReference_9 (by decide) (fun c2 => ?_) (fun c2 => ?_)
    · refine K_iconst (v := 0) dX11_isReference_16 (by decide) ?_
      exact K_zret dX11_isReference_17 hQ rfl rfl (Nat.le_of_ble_eq_true rfl) (Nat.le_of_ble_eq_true rfl)
    · refine K_iconst (v := 1) dX11_isReference_12 (by decide) ?_
      refine K_goto (tgt := 17) dX11_isReference_13 (by decide) ?_
      exact K_zret dX11_isReference_17 hQ rfl rfl (Nat.le_of_ble_eq_true rfl) (Nat.le_of_ble_eq_true rfl)
def sp_X10_commonSlot (fu : Nat) (E : Ev) (S : St) (a0 : Nat) (x1 : Int32) (x2 : Int32) : Option (Int32 × St) :=
  if x1 = x2 then (
    some (x1, S)
  ) else (
    (sp_X11_isReference fu E S x1).bind fun u1 =>
    if u1.1 = 0 then (
      some ((-2), u1.2)
    ) else (
      (sp_X11_isReference fu E u1.2 x2).bind fun u2 =>
      if u2.1 = 0 then (
        some ((-2), u2.2)
      ) else (
        if x1 = (-1) then (
          some (x2, u2.2)
        ) else (
          if x2 = (-1) then (
            some (x1, u2.2)
          ) else (
            (sp_X10_referenceLevels fu E u2.2 x1).bind fun u3 =>
            (sp_X10_referenceLevels fu E u3.2 x2).bind fun u4 =>
            bnd (if u4.1 < u3.1 then u4.1 else u3.1) fun v5 =>
            bnd (x1 - v5) fun v6 =>
            bnd (x2 - v5) fun v7 =>
            if (v6 - v6 / 8 * 8) = 0 then (
              if (v7 - v7 / 8 * 8) = 0 then (
                (sp_X10_commonClass fu E u4.2 a0 (v6 / 8) (v7 / 8)).bind fun u8 =>
                some ((8 * u8.1) + v5, u8.2)
              ) else (
                some (16 + v5, u4.2)
              )
            ) else (
              some (16 + v5, u4.2)
            )
          )
        )
      )
    )
  )
set_option maxRecDepth 100000 in
theorem k_X10_commonSlot {l : Launch} (fu : Nat) {E : Ev} (hE : WE E) {a0 : Nat} (ha0 : E.1 a0 = some (0, 8, 0)) {x1 : Int32} {x2 : Int32} {S : St} {t : (Int32 × St)} (h : sp_X10_commonSlot fu E S a0 x1 x2 = some t) : Cn l mX10_commonSlot [.ref a0, .int x1, .int x2] (hp E S) (PoI E t) := by
  refine Cn.of (by decide) rfl (Nat.le_of_ble_eq_true rfl) (fun X _ _ hQ => ?_)
  refine (?_ : K mX10_commonSlot X E 0 [(0, .ref a0), (1, .int x1), (2, .int x2)] [] S 0 0 (sp_X10_commonSlot fu E S a0 x1 x2) t) h
  unfold sp_X10_commonSlot
  refine K_iload_n dX10_commonSlot_0 rfl rfl ?_
  refine K_iload_n dX10_commonSlot_1 rfl rfl ?_
  refine K_icmp_ne (tgt := 7) dX10_commonSlot_2 (by decide) (fun c15 => ?_) (fun c15 => ?_)
  · refine K_iload_n dX10_commonSlot_7 rfl rfl ?_
    refine K_bind (fun u1 hu1 => ?_)
    refine K_callSI (As := [.int x1]) (k_X11_isReference fu hE hu1) dX10_commonSlot_8 s_X10_47 rfl rfl (Nat.le_of_ble_eq_true rfl) ⟨Nat.le_of_ble_eq_true rfl, Nat.le_of_ble_eq_true rfl, Nat.le_of_ble_eq_true rfl, Nat.le_of_ble_eq_true rfl⟩ ?_
    refine K_if_eq (tgt := 21) dX10_commonSlot_11 (by decide) (fun c14 => ?_) (fun c14 => ?_)
    · refine K_bipush (v := (-2)) dX10_commonSlot_21 (by decide) ?_
      exact K_iret dX10_commonSlot_23 hQ rfl (Nat.le_of_ble_eq_true rfl) (Nat.le_of_ble_eq_true rfl)
    · refine K_iload_n dX10_commonSlot_14 rfl rfl ?_
      refine K_bind (fun u2 hu2 => ?_)
      refine K_callSI (As := [.int x2]) (k_X11_isReference fu hE hu2) dX10_commonSlot_15 s_X10_47 rfl rfl (Nat.le_of_ble_eq_true rfl) ⟨Nat.le_of_ble_eq_true rfl, Nat.le_of_ble_eq_true rfl, Nat.le_of_ble_eq_true rfl, Nat.le_of_ble_eq_true rfl⟩ ?_
      refine K_if_ne (tgt := 24) dX10_commonSlot_18 (by decide) (fun c13 => ?_) (fun c13 => ?_)
      · refine K_iload_n dX10_commonSlot_24 rfl rfl ?_
        refine K_iconst (v := (-1)) dX10_commonSlot_25 (by decide) ?_
        refine K_icmp_ne (tgt := 31) dX10_commonSlot_26 (by decide) (fun c12 => ?_) (fun c12 => ?_)
        · refine K_iload_n dX10_commonSlot_31 rfl rfl ?_
          refine K_iconst (v := (-1)) dX10_commonSlot_32 (by decide) ?_
          refine K_icmp_ne (tgt := 38) dX10_commonSlot_33 (by decide) (fun c11 => ?_) (fun c11 => ?_)
          · refine K_iload_n dX10_commonSlot_38 rfl rfl ?_
            refine K_bind (fun u3 hu3 => ?_)
            refine K_callSI (As := [.int x1]) (k_X10_referenceLevels fu hE hu3) dX10_commonSlot_39 s_X10_30 rfl rfl (Nat.le_of_ble_eq_true rfl) ⟨Nat.le_of_ble_eq_true rfl, Nat.le_of_ble_eq_true rfl, Nat.le_of_ble_eq_true rfl, Nat.le_of_ble_eq_true rfl⟩ ?_
            refine K_iload_n dX10_commonSlot_42 rfl rfl ?_
            refine K_bind (fun u4 hu4 => ?_)
            refine K_callSI (As := [.int x2]) (k_X10_referenceLevels fu hE hu4) dX10_commonSlot_43 s_X10_30 rfl rfl (Nat.le_of_ble_eq_true rfl) ⟨Nat.le_of_ble_eq_true rfl, Nat.le_of_ble_eq_true rfl, Nat.le_of_ble_eq_true rfl, Nat.le_of_ble_eq_true rfl⟩ ?_
            refine K_mmin dX10_commonSlot_46 h_X10_34 (Nat.le_of_ble_eq_true rfl) (Nat.le_of_ble_eq_true rfl) (Nat.le_of_ble_eq_true rfl) (Nat.le_of_ble_eq_true rfl) ?_
            refine K_nmI (fun v5 => ?_)
            refine K_istore_n (ls' := [(0, _), (1, _), (2, _), (3, _)]) dX10_commonSlot_49 rfl (by decide) rfl ?_
            refine K_iload_n dX10_commonSlot_50 rfl rfl ?_
            refine K_iload_n dX10_commonSlot_51 rfl rfl ?_
            refine K_isub dX10_commonSlot_52 ?_
            refine K_nmI (fun v6 => ?_)
            refine K_istore (ls' := [(0, _), (1, _), (2, _), (3, _), (4, _)]) dX10_commonSlot_53 (by decide) rfl ?_
            refine K_iload_n dX10_commonSlot_55 rfl rfl ?_
            refine K_iload_n dX10_commonSlot_56 rfl rfl ?_
            refine K_isub dX10_commonSlot_57 ?_
            refine K_nmI (fun v7 => ?_)
            refine K_istore (ls' := [(0, _), (1, _), (2, _), (3, _), (4, _), (5, _)]) dX10_commonSlot_58 (by decide) rfl ?_
            refine K_iload dX10_commonSlot_60 rfl ?_
            refine K_bipush (v := 8) dX10_commonSlot_62 (by decide) ?_
            refine K_irem dX10_commonSlot_64 (by decide) ?_
            refine K_if_ne (tgt := 76) dX10_commonSlot_65 (by decide) (fun c10 => ?_) (fun c10 => ?_)
            · refine K_bipush (v := 16) dX10_commonSlot_76 (by decide) ?_
              refine K_iload_n dX10_commonSlot_78 rfl rfl ?_
              refine K_iadd dX10_commonSlot_79 ?_
              exact K_iret dX10_commonSlot_80 hQ rfl (Nat.le_of_ble_eq_true rfl) (Nat.le_of_ble_eq_true rfl)
            · refine K_iload dX10_commonSlot_68 rfl ?_
              refine K_bipush (v := 8) dX10_commonSlot_70 (by decide) ?_
              refine K_irem dX10_commonSlot_72 (by decide) ?_
              refine K_if_eq (tgt := 81) dX10_commonSlot_73 (by decide) (fun c9 => ?_) (fun c9 => ?_)
              · refine K_bipush (v := 8) dX10_commonSlot_81 (by decide) ?_
                refine K_aload_n dX10_commonSlot_83 rfl rfl ?_
                refine K_iload dX10_commonSlot_84 rfl ?_
                refine K_bipush (v := 8) dX10_commonSlot_86 (by decide) ?_
                refine K_idiv dX10_commonSlot_88 (by decide) ?_
                refine K_iload dX10_commonSlot_89 rfl ?_
                refine K_bipush (v := 8) dX10_commonSlot_91 (by decide) ?_
                refine K_idiv dX10_commonSlot_93 (by decide) ?_
                refine K_bind (fun u8 hu8 => ?_)
                refine K_callVI (As := [.int (v6 / 8), .int (v7 / 8)]) (k_X10_commonClass fu hE ha0 hu8) dX10_commonSlot_94 v_X10_50 ha0 rfl rfl rfl rfl (Nat.le_of_ble_eq_true rfl) ⟨Nat.le_of_ble_eq_true rfl, Nat.le_of_ble_eq_true rfl, Nat.le_of_ble_eq_true rfl, Nat.le_of_ble_eq_true rfl⟩ ?_
                refine K_imul dX10_commonSlot_97 ?_
                refine K_iload_n dX10_commonSlot_98 rfl rfl ?_
                refine K_iadd dX10_commonSlot_99 ?_
                exact K_iret dX10_commonSlot_100 hQ rfl (Nat.le_of_ble_eq_true rfl) (Nat.le_of_ble_eq_true rfl)
              · refine K_bipush (v := 16) dX10_commonSlot_76 (by decide) ?_
                refine K_iload_n dX10_commonSlot_78 rfl rfl ?_
                refine K_iadd dX10_commonSlot_79 ?_
                exact K_iret dX10_commonSlot_80 hQ rfl (Nat.le_of_ble_eq_true rfl) (Nat.le_of_ble_eq_true rfl)
          · refine K_iload_n dX10_commonSlot_36 rfl rfl ?_
            exact K_iret dX10_commonSlot_37 hQ rfl (Nat.le_of_ble_eq_true rfl) (Nat.le_of_ble_eq_true rfl)
        · refine K_iload_n dX10_commonSlot_29 rfl rfl ?_
          exact K_iret dX10_commonSlot_30 hQ rfl (Nat.le_of_ble_eq_true rfl) (Nat.le_of_ble_eq_true rfl)
      · refine K_bipush (v := (-2)) dX10_commonSlot_21 (by decide) ?_
        exact K_iret dX10_commonSlot_23 hQ rfl (Nat.le_of_ble_eq_true rfl) (Nat.le_of_ble_eq_true rfl)
  · refine K_iload_n dX10_commonSlot_5 rfl rfl ?_
    exact K_iret dX10_commonSlot_6 hQ rfl (Nat.le_of_ble_eq_true rfl) (Nat.le_of_ble_eq_true rfl)
def jb_X5_flow_265 (fu : Nat) (E : Ev) (a0 a2 a4 : Nat) (rc211 : Int32 → Int32 → Int32 → St → Option (Int32 × St)) (x1 : Int32) (x6 : Int32) (x7 : Int32) (y0 : Int32) (S : St) : Option (Int32 × St) :=
  if inb x6 12 = true then (
    bnd (sG S (E.2 a4 0) (x6.toNatClampNeg) x7) fun S27 =>
    rc211 x1 y0 (x6 + 1) S27
  ) else none
set_option maxRecDepth 100000 in
theorem kj_X5_flow_265 {X : Cx} {E : Ev} {t : (Int32 × St)} {a0 a2 a4 : Nat} {rc211 : Int32 → Int32 → Int32 → St → Option (Int32 × St)} (hQ : EndR mX5_flow X (PoI E t)) (hE : WE E) (fu : Nat) (ha0 : E.1 a0 = some (0, 4, 0)) (ha2 : E.1 a2 = some (0, 2, 0)) (ha4 : E.1 a4 = some (0, 2, 0)) (hrc211 : ∀ (x1 : Int32) (x5 : Int32) (x6 : Int32) (S : St), K mX5_flow X E 211 [(0, .ref a0), (1, .int x1), (2, .ref a2), (4, .ref a4), (5, .int x5), (6, .int x6)] [] S 0 0 (rc211 x1 x5 x6 S) t) (x1 : Int32) (x6 : Int32) (x7 : Int32) (y0 : Int32) (S : St) : K mX5_flow X E 265 [(0, .ref a0), (1, .int x1), (2, .ref a2), (4, .ref a4), (6, .int x6), (7, .int x7)] [.int y0] S 0 0 (jb_X5_flow_265 fu E a0 a2 a4 rc211 x1 x6 x7 y0 S) t := by
  unfold jb_X5_flow_265
  refine K_istore (ls' := [(0, _), (1, _), (2, _), (4, _), (6, _), (7, _), (5, _)]) dX5_flow_265 (by decide) rfl ?_
  refine K_aload dX5_flow_267 rfl ?_
  refine K_getC hE dX5_flow_269 f_X5_96_2 ha4 rfl rfl (fun h25 => ?_)
  refine K_iload dX5_flow_272 rfl ?_
  refine K_iload dX5_flow_274 rfl ?_
  refine K_chk (fun h26 => ?_)
  refine K_iast dX5_flow_276 h25 h26 ?_
  refine K_nmS (fun S27 => ?_)
  refine K_iinc (v := (x6 + 1)) (ls' := [(0, _), (1, _), (2, _), (4, _), (6, _), (7, _), (5, _)]) dX5_flow_277 rfl rfl (by decide) rfl ?_
  refine K_goto (tgt := 211) dX5_flow_280 (by decide) ?_
  refine K.keep [0, 1, 2, 4, 5, 6] ?_
  exact hrc211 x1 y0 (x6 + 1) S27
def bd_X5_flow_211 (fu : Nat) (E : Ev) (a0 a2 a4 : Nat) (rc211 : Int32 → Int32 → Int32 → St → Option (Int32 × St)) (x1 : Int32) (x5 : Int32) (x6 : Int32) (S : St) : Option (Int32 × St) :=
  if 12 ≤ x6 then (
    if inb x1 100 = true then
      (
      if (S.2.1 (E.2 a0 10) x1.toNatClampNeg) = 0 then (
        if x5 = 0 then (
          if inb x1 100 = true then (
            bnd (sG S (E.2 a0 10) (x1.toNatClampNeg) 0) fun S14 =>
            some (0, S14)
          ) else none
        ) else (
          if inb x1 100 = true then (
            bnd (sG S (E.2 a0 10) (x1.toNatClampNeg) 1) fun S16 =>
            some (0, S16)
          ) else none
        )
      ) else (
        if inb x1 100 = true then (
          bnd (sG S (E.2 a0 10) (x1.toNatClampNeg) 1) fun S12 =>
          some (0, S12)
        ) else none
      )
      )
    else none
  ) else (
    if inb x6 12 = true then
      (
      if inb x6 12 = true then
        (
        (sp_X10_commonSlot fu E S (E.2 a0 1) (S.2.1 (E.2 a4 0) x6.toNatClampNeg) (S.2.1 (E.2 a2 0) x6.toNatClampNeg)).bind fun u24 =>
        if x5 = 0 then (
          if inb x6 12 = true then
            (
            if u24.1 = (u24.2.2.1 (E.2 a4 0) x6.toNatClampNeg) then (
              jb_X5_flow_265 fu E a0 a2 a4 rc211 x1 x6 u24.1 0 u24.2
            ) else (
              jb_X5_flow_265 fu E a0 a2 a4 rc211 x1 x6 u24.1 1 u24.2
            )
            )
          else none
        ) else (
          jb_X5_flow_265 fu E a0 a2 a4 rc211 x1 x6 u24.1 1 u24.2
        )
        )
      else none
      )
    else none
  )
def lp_X5_flow_211 (fu : Nat) (E : Ev) (a0 a2 a4 : Nat) : Nat → Int32 → Int32 → Int32 → St → Option (Int32 × St)
  | 0, _, _, _, _ => none
  | f + 1, x1, x5, x6, S => bd_X5_flow_211 fu E a0 a2 a4 (lp_X5_flow_211 fu E a0 a2 a4 f) x1 x5 x6 S
set_option maxRecDepth 100000 in
theorem kl_X5_flow_211 {X : Cx} {E : Ev} {t : (Int32 × St)} {a0 a2 a4 : Nat} (hQ : EndR mX5_flow X (PoI E t)) (hE : WE E) (fu : Nat) (ha0 : E.1 a0 = some (0, 4, 0)) (ha2 : E.1 a2 = some (0, 2, 0)) (ha4 : E.1 a4 = some (0, 2, 0)) : ∀ (f : Nat) (x1 : Int32) (x5 : Int32) (x6 : Int32) (S : St), K mX5_flow X E 211 [(0, .ref a0), (1, .int x1), (2, .ref a2), (4, .ref a4), (5, .int x5), (6, .int x6)] [] S 0 0 (lp_X5_flow_211 fu E a0 a2 a4 f x1 x5 x6 S) t := by
  intro f
  induction f with
  | zero => intro x1 x5 x6 S; exact K_none
  | succ f hrc211 =>
    intro x1 x5 x6 S
    show K _ _ _ _ _ _ _ _ _ (bd_X5_flow_211 fu E a0 a2 a4 (lp_X5_flow_211 fu E a0 a2 a4 f) x1 x5 x6 S) t
    unfold bd_X5_flow_211
    refine K_iload dX5_flow_211 rfl ?_
    refine K_bipush (v := 12) dX5_flow_213 (by decide) ?_
    refine K_icmp_ge (tgt := 283) dX5_flow_215 (by decide) (fun c32 => ?_) (fun c32 => ?_)
    · refine K_aload_n dX5_flow_283 rfl rfl ?_
      refine K_getC hE dX5_flow_284 f_X5_9_4 ha0 rfl rfl (fun h8 => ?_)
      refine K_iload_n dX5_flow_287 rfl rfl ?_
      refine K_aload_n dX5_flow_288 rfl rfl ?_
      refine K_getC hE dX5_flow_289 f_X5_9_4 ha0 rfl rfl (fun h9 => ?_)
      refine K_iload_n dX5_flow_292 rfl rfl ?_
      refine K_chk (fun h10 => ?_)
      refine K_zald dX5_flow_293 h9 h10 ?_
      refine K_if_ne (tgt := 302) dX5_flow_294 (by decide) (fun c18 => ?_) (fun c18 => ?_)
      · refine K_iconst (v := 1) dX5_flow_302 (by decide) ?_
        refine K_goto (tgt := 307) dX5_flow_303 (by decide) ?_
        refine K_chk (fun h11 => ?_)
        refine K_zast dX5_flow_307 h8 h11 rfl ?_
        refine K_nmS (fun S12 => ?_)
        refine K_iconst (v := 0) dX5_flow_308 (by decide) ?_
        exact K_iret dX5_flow_309 hQ rfl (Nat.le_of_ble_eq_true rfl) (Nat.le_of_ble_eq_true rfl)
      · refine K_iload dX5_flow_297 rfl ?_
        refine K_if_eq (tgt := 306) dX5_flow_299 (by decide) (fun c17 => ?_) (fun c17 => ?_)
        · refine K_iconst (v := 0) dX5_flow_306 (by decide) ?_
          refine K_chk (fun h13 => ?_)
          refine K_zast dX5_flow_307 h8 h13 rfl ?_
          refine K_nmS (fun S14 => ?_)
          refine K_iconst (v := 0) dX5_flow_308 (by decide) ?_
          exact K_iret dX5_flow_309 hQ rfl (Nat.le_of_ble_eq_true rfl) (Nat.le_of_ble_eq_true rfl)
        · refine K_iconst (v := 1) dX5_flow_302 (by decide) ?_
          refine K_goto (tgt := 307) dX5_flow_303 (by decide) ?_
          refine K_chk (fun h15 => ?_)
          refine K_zast dX5_flow_307 h8 h15 rfl ?_
          refine K_nmS (fun S16 => ?_)
          refine K_iconst (v := 0) dX5_flow_308 (by decide) ?_
          exact K_iret dX5_flow_309 hQ rfl (Nat.le_of_ble_eq_true rfl) (Nat.le_of_ble_eq_true rfl)
    · refine K_aload_n dX5_flow_218 rfl rfl ?_
      refine K_getC hE dX5_flow_219 f_X5_82_4 ha0 rfl rfl (fun h19 => ?_)
      refine K_aload dX5_flow_222 rfl ?_
      refine K_getC hE dX5_flow_224 f_X5_96_2 ha4 rfl rfl (fun h20 => ?_)
      refine K_iload dX5_flow_227 rfl ?_
      refine K_chk (fun h21 => ?_)
      refine K_iald dX5_flow_229 h20 h21 ?_
      refine K_aload_n dX5_flow_230 rfl rfl ?_
      refine K_getC hE dX5_flow_231 f_X5_96_2 ha2 rfl rfl (fun h22 => ?_)
      refine K_iload dX5_flow_234 rfl ?_
      refine K_chk (fun h23 => ?_)
      refine K_iald dX5_flow_236 h22 h23 ?_
      refine K_bind (fun u24 hu24 => ?_)
      refine K_callVI (As := [.int (S.2.1 (E.2 a4 0) x6.toNatClampNeg), .int (S.2.1 (E.2 a2 0) x6.toNatClampNeg)]) (k_X10_commonSlot fu hE h19 hu24) dX5_flow_237 v_X5_90 h19 rfl rfl rfl rfl (Nat.le_of_ble_eq_true rfl) ⟨Nat.le_of_ble_eq_true rfl, Nat.le_of_ble_eq_true rfl, Nat.le_of_ble_eq_true rfl, Nat.le_of_ble_eq_true rfl⟩ ?_
      refine K_istore (ls' := [(0, _), (1, _), (2, _), (4, _), (5, _), (6, _), (7, _)]) dX5_flow_240 (by decide) rfl ?_
      refine K_iload dX5_flow_242 rfl ?_
      refine K_if_ne (tgt := 260) dX5_flow_244 (by decide) (fun c31 => ?_) (fun c31 => ?_)
      · refine K_iconst (v := 1) dX5_flow_260 (by decide) ?_
        refine K_goto (tgt := 265) dX5_flow_261 (by decide) ?_
        refine K.keep [0, 1, 2, 4, 6, 7] ?_
        exact kj_X5_flow_265 hQ hE fu ha0 ha2 ha4 hrc211 x1 x6 u24.1 1 u24.2
      · refine K_iload dX5_flow_247 rfl ?_
        refine K_aload dX5_flow_249 rfl ?_
        refine K_getC hE dX5_flow_251 f_X5_96_2 ha4 rfl rfl (fun h28 => ?_)
        refine K_iload dX5_flow_254 rfl ?_
        refine K_chk (fun h29 => ?_)
        refine K_iald dX5_flow_256 h28 h29 ?_
        refine K_icmp_eq (tgt := 264) dX5_flow_257 (by decide) (fun c30 => ?_) (fun c30 => ?_)
        · refine K_iconst (v := 0) dX5_flow_264 (by decide) ?_
          refine K.keep [0, 1, 2, 4, 6, 7] ?_
          exact kj_X5_flow_265 hQ hE fu ha0 ha2 ha4 hrc211 x1 x6 u24.1 0 u24.2
        · refine K_iconst (v := 1) dX5_flow_260 (by decide) ?_
          refine K_goto (tgt := 265) dX5_flow_261 (by decide) ?_
          refine K.keep [0, 1, 2, 4, 6, 7] ?_
          exact kj_X5_flow_265 hQ hE fu ha0 ha2 ha4 hrc211 x1 x6 u24.1 1 u24.2
def jb_X5_flow_190 (fu : Nat) (E : Ev) (a0 a2 a4 : Nat) (rc105 : Int32 → Int32 → Int32 → St → Option (Int32 × St)) (x1 : Int32) (x6 : Int32) (x7 : Int32) (y0 : Int32) (S : St) : Option (Int32 × St) :=
  if inb x6 12 = true then (
    bnd (sG S (E.2 a4 1) (x6.toNatClampNeg) x7) fun S41 =>
    rc105 x1 y0 (x6 + 1) S41
  ) else none
set_option maxRecDepth 100000 in
theorem kj_X5_flow_190 {X : Cx} {E : Ev} {t : (Int32 × St)} {a0 a2 a4 : Nat} {rc105 : Int32 → Int32 → Int32 → St → Option (Int32 × St)} (hQ : EndR mX5_flow X (PoI E t)) (hE : WE E) (fu : Nat) (ha0 : E.1 a0 = some (0, 4, 0)) (ha2 : E.1 a2 = some (0, 2, 0)) (ha4 : E.1 a4 = some (0, 2, 0)) (hrc105 : ∀ (x1 : Int32) (x5 : Int32) (x6 : Int32) (S : St), K mX5_flow X E 105 [(0, .ref a0), (1, .int x1), (2, .ref a2), (4, .ref a4), (5, .int x5), (6, .int x6)] [] S 0 0 (rc105 x1 x5 x6 S) t) (x1 : Int32) (x6 : Int32) (x7 : Int32) (y0 : Int32) (S : St) : K mX5_flow X E 190 [(0, .ref a0), (1, .int x1), (2, .ref a2), (4, .ref a4), (6, .int x6), (7, .int x7)] [.int y0] S 0 0 (jb_X5_flow_190 fu E a0 a2 a4 rc105 x1 x6 x7 y0 S) t := by
  unfold jb_X5_flow_190
  refine K_istore (ls' := [(0, _), (1, _), (2, _), (4, _), (6, _), (7, _), (5, _)]) dX5_flow_190 (by decide) rfl ?_
  refine K_aload dX5_flow_192 rfl ?_
  refine K_getC hE dX5_flow_194 f_X5_86_2 ha4 rfl rfl (fun h39 => ?_)
  refine K_iload dX5_flow_197 rfl ?_
  refine K_iload dX5_flow_199 rfl ?_
  refine K_chk (fun h40 => ?_)
  refine K_iast dX5_flow_201 h39 h40 ?_
  refine K_nmS (fun S41 => ?_)
  refine K_iinc (v := (x6 + 1)) (ls' := [(0, _), (1, _), (2, _), (4, _), (6, _), (7, _), (5, _)]) dX5_flow_202 rfl rfl (by decide) rfl ?_
  refine K_goto (tgt := 105) dX5_flow_205 (by decide) ?_
  refine K.keep [0, 1, 2, 4, 5, 6] ?_
  exact hrc105 x1 y0 (x6 + 1) S41
def jb_X5_flow_167 (fu : Nat) (E : Ev) (a0 a2 a4 : Nat) (rc105 : Int32 → Int32 → Int32 → St → Option (Int32 × St)) (x1 : Int32) (x5 : Int32) (x6 : Int32) (x7 : Int32) (S : St) : Option (Int32 × St) :=
  if x5 = 0 then (
    if inb x6 12 = true then
      (
      if x7 = (S.2.1 (E.2 a4 1) x6.toNatClampNeg) then (
        jb_X5_flow_190 fu E a0 a2 a4 rc105 x1 x6 x7 0 S
      ) else (
        jb_X5_flow_190 fu E a0 a2 a4 rc105 x1 x6 x7 1 S
      )
      )
    else none
  ) else (
    jb_X5_flow_190 fu E a0 a2 a4 rc105 x1 x6 x7 1 S
  )
set_option maxRecDepth 100000 in
theorem kj_X5_flow_167 {X : Cx} {E : Ev} {t : (Int32 × St)} {a0 a2 a4 : Nat} {rc105 : Int32 → Int32 → Int32 → St → Option (Int32 × St)} (hQ : EndR mX5_flow X (PoI E t)) (hE : WE E) (fu : Nat) (ha0 : E.1 a0 = some (0, 4, 0)) (ha2 : E.1 a2 = some (0, 2, 0)) (ha4 : E.1 a4 = some (0, 2, 0)) (hrc105 : ∀ (x1 : Int32) (x5 : Int32) (x6 : Int32) (S : St), K mX5_flow X E 105 [(0, .ref a0), (1, .int x1), (2, .ref a2), (4, .ref a4), (5, .int x5), (6, .int x6)] [] S 0 0 (rc105 x1 x5 x6 S) t) (x1 : Int32) (x5 : Int32) (x6 : Int32) (x7 : Int32) (S : St) : K mX5_flow X E 167 [(0, .ref a0), (1, .int x1), (2, .ref a2), (4, .ref a4), (5, .int x5), (6, .int x6), (7, .int x7)] [] S 0 0 (jb_X5_flow_167 fu E a0 a2 a4 rc105 x1 x5 x6 x7 S) t := by
  unfold jb_X5_flow_167
  refine K_iload dX5_flow_167 rfl ?_
  refine K_if_ne (tgt := 185) dX5_flow_169 (by decide) (fun c45 => ?_) (fun c45 => ?_)
  · refine K_iconst (v := 1) dX5_flow_185 (by decide) ?_
    refine K_goto (tgt := 190) dX5_flow_186 (by decide) ?_
    refine K.keep [0, 1, 2, 4, 6, 7] ?_
    exact kj_X5_flow_190 hQ hE fu ha0 ha2 ha4 hrc105 x1 x6 x7 1 S
  · refine K_iload dX5_flow_172 rfl ?_
    refine K_aload dX5_flow_174 rfl ?_
    refine K_getC hE dX5_flow_176 f_X5_86_2 ha4 rfl rfl (fun h42 => ?_)
    refine K_iload dX5_flow_179 rfl ?_
    refine K_chk (fun h43 => ?_)
    refine K_iald dX5_flow_181 h42 h43 ?_
    refine K_icmp_eq (tgt := 189) dX5_flow_182 (by decide) (fun c44 => ?_) (fun c44 => ?_)
    · refine K_iconst (v := 0) dX5_flow_189 (by decide) ?_
      refine K.keep [0, 1, 2, 4, 6, 7] ?_
      exact kj_X5_flow_190 hQ hE fu ha0 ha2 ha4 hrc105 x1 x6 x7 0 S
    · refine K_iconst (v := 1) dX5_flow_185 (by decide) ?_
      refine K_goto (tgt := 190) dX5_flow_186 (by decide) ?_
      refine K.keep [0, 1, 2, 4, 6, 7] ?_
      exact kj_X5_flow_190 hQ hE fu ha0 ha2 ha4 hrc105 x1 x6 x7 1 S
def bd_X5_flow_105 (fu : Nat) (E : Ev) (a0 a2 a4 : Nat) (rc105 : Int32 → Int32 → Int32 → St → Option (Int32 × St)) (x1 : Int32) (x5 : Int32) (x6 : Int32) (S : St) : Option (Int32 × St) :=
  if (S.1 a4 2) ≤ x6 then (
    lp_X5_flow_211 fu E a0 a2 a4 fu x1 x5 0 S
  ) else (
    if inb x6 12 = true then
      (
      if inb x6 12 = true then
        (
        (sp_X10_commonSlot fu E S (E.2 a0 1) (S.2.1 (E.2 a4 1) x6.toNatClampNeg) (S.2.1 (E.2 a2 1) x6.toNatClampNeg)).bind fun u38 =>
        if u38.1 = (-2) then (
          if inb x6 12 = true then
            (
            if inb x6 12 = true then
              (
              if (u38.2.2.1 (E.2 a4 1) x6.toNatClampNeg) = (u38.2.2.1 (E.2 a2 1) x6.toNatClampNeg) then (
                jb_X5_flow_167 fu E a0 a2 a4 rc105 x1 x5 x6 u38.1 u38.2
              ) else (
                some (8, u38.2)
              )
              )
            else none
            )
          else none
        ) else (
          jb_X5_flow_167 fu E a0 a2 a4 rc105 x1 x5 x6 u38.1 u38.2
        )
        )
      else none
      )
    else none
  )
def lp_X5_flow_105 (fu : Nat) (E : Ev) (a0 a2 a4 : Nat) : Nat → Int32 → Int32 → Int32 → St → Option (Int32 × St)
  | 0, _, _, _, _ => none
  | f + 1, x1, x5, x6, S => bd_X5_flow_105 fu E a0 a2 a4 (lp_X5_flow_105 fu E a0 a2 a4 f) x1 x5 x6 S
set_option maxRecDepth 100000 in
theorem kl_X5_flow_105 {X : Cx} {E : Ev} {t : (Int32 × St)} {a0 a2 a4 : Nat} (hQ : EndR mX5_flow X (PoI E t)) (hE : WE E) (fu : Nat) (ha0 : E.1 a0 = some (0, 4, 0)) (ha2 : E.1 a2 = some (0, 2, 0)) (ha4 : E.1 a4 = some (0, 2, 0)) : ∀ (f : Nat) (x1 : Int32) (x5 : Int32) (x6 : Int32) (S : St), K mX5_flow X E 105 [(0, .ref a0), (1, .int x1), (2, .ref a2), (4, .ref a4), (5, .int x5), (6, .int x6)] [] S 0 0 (lp_X5_flow_105 fu E a0 a2 a4 f x1 x5 x6 S) t := by
  intro f
  induction f with
  | zero => intro x1 x5 x6 S; exact K_none
  | succ f hrc105 =>
    intro x1 x5 x6 S
    show K _ _ _ _ _ _ _ _ _ (bd_X5_flow_105 fu E a0 a2 a4 (lp_X5_flow_105 fu E a0 a2 a4 f) x1 x5 x6 S) t
    unfold bd_X5_flow_105
    refine K_iload dX5_flow_105 rfl ?_
    refine K_aload dX5_flow_107 rfl ?_
    refine K_getI dX5_flow_109 f_X5_75_2 ha4 rfl ?_
    refine K_icmp_ge (tgt := 208) dX5_flow_112 (by decide) (fun c52 => ?_) (fun c52 => ?_)
    · refine K_iconst (v := 0) dX5_flow_208 (by decide) ?_
      refine K_istore (ls' := [(0, _), (1, _), (2, _), (4, _), (5, _), (6, _)]) dX5_flow_209 (by decide) rfl ?_
      refine K.keep [0, 1, 2, 4, 5, 6] ?_
      exact kl_X5_flow_211 hQ hE fu ha0 ha2 ha4 fu x1 x5 0 S
    · refine K_aload_n dX5_flow_115 rfl rfl ?_
      refine K_getC hE dX5_flow_116 f_X5_82_4 ha0 rfl rfl (fun h33 => ?_)
      refine K_aload dX5_flow_119 rfl ?_
      refine K_getC hE dX5_flow_121 f_X5_86_2 ha4 rfl rfl (fun h34 => ?_)
      refine K_iload dX5_flow_124 rfl ?_
      refine K_chk (fun h35 => ?_)
      refine K_iald dX5_flow_126 h34 h35 ?_
      refine K_aload_n dX5_flow_127 rfl rfl ?_
      refine K_getC hE dX5_flow_128 f_X5_86_2 ha2 rfl rfl (fun h36 => ?_)
      refine K_iload dX5_flow_131 rfl ?_
      refine K_chk (fun h37 => ?_)
      refine K_iald dX5_flow_133 h36 h37 ?_
      refine K_bind (fun u38 hu38 => ?_)
      refine K_callVI (As := [.int (S.2.1 (E.2 a4 1) x6.toNatClampNeg), .int (S.2.1 (E.2 a2 1) x6.toNatClampNeg)]) (k_X10_commonSlot fu hE h33 hu38) dX5_flow_134 v_X5_90 h33 rfl rfl rfl rfl (Nat.le_of_ble_eq_true rfl) ⟨Nat.le_of_ble_eq_true rfl, Nat.le_of_ble_eq_true rfl, Nat.le_of_ble_eq_true rfl, Nat.le_of_ble_eq_true rfl⟩ ?_
      refine K_istore (ls' := [(0, _), (1, _), (2, _), (4, _), (5, _), (6, _), (7, _)]) dX5_flow_137 (by decide) rfl ?_
      refine K_iload dX5_flow_139 rfl ?_
      refine K_bipush (v := (-2)) dX5_flow_141 (by decide) ?_
      refine K_icmp_ne (tgt := 167) dX5_flow_143 (by decide) (fun c51 => ?_) (fun c51 => ?_)
      · refine K.keep [0, 1, 2, 4, 5, 6, 7] ?_
        exact kj_X5_flow_167 hQ hE fu ha0 ha2 ha4 hrc105 x1 x5 x6 u38.1 u38.2
      · refine K_aload dX5_flow_146 rfl ?_
        refine K_getC hE dX5_flow_148 f_X5_86_2 ha4 rfl rfl (fun h46 => ?_)
        refine K_iload dX5_flow_151 rfl ?_
        refine K_chk (fun h47 => ?_)
        refine K_iald dX5_flow_153 h46 h47 ?_
        refine K_aload_n dX5_flow_154 rfl rfl ?_
        refine K_getC hE dX5_flow_155 f_X5_86_2 ha2 rfl rfl (fun h48 => ?_)
        refine K_iload dX5_flow_158 rfl ?_
        refine K_chk (fun h49 => ?_)
        refine K_iald dX5_flow_160 h48 h49 ?_
        refine K_icmp_eq (tgt := 167) dX5_flow_161 (by decide) (fun c50 => ?_) (fun c50 => ?_)
        · refine K.keep [0, 1, 2, 4, 5, 6, 7] ?_
          exact kj_X5_flow_167 hQ hE fu ha0 ha2 ha4 hrc105 x1 x5 x6 u38.1 u38.2
        · refine K_bipush (v := 8) dX5_flow_164 (by decide) ?_
          exact K_iret dX5_flow_166 hQ rfl (Nat.le_of_ble_eq_true rfl) (Nat.le_of_ble_eq_true rfl)
def jb_X5_flow_75 (fu : Nat) (E : Ev) (a0 a2 a4 : Nat) (x1 : Int32) (y0 : Int32) (S : St) : Option (Int32 × St) :=
  if (S.1 a4 3) = 0 then (
    if (S.1 a2 3) = 0 then (
      bnd (sF S a4 3 0) fun S53 =>
      lp_X5_flow_105 fu E a0 a2 a4 fu x1 y0 0 S53
    ) else (
      bnd (sF S a4 3 1) fun S54 =>
      lp_X5_flow_105 fu E a0 a2 a4 fu x1 y0 0 S54
    )
  ) else (
    bnd (sF S a4 3 1) fun S7 =>
    lp_X5_flow_105 fu E a0 a2 a4 fu x1 y0 0 S7
  )
set_option maxRecDepth 100000 in
theorem kj_X5_flow_75 {X : Cx} {E : Ev} {t : (Int32 × St)} {a0 a2 a4 : Nat} (hQ : EndR mX5_flow X (PoI E t)) (hE : WE E) (fu : Nat) (ha0 : E.1 a0 = some (0, 4, 0)) (ha2 : E.1 a2 = some (0, 2, 0)) (ha4 : E.1 a4 = some (0, 2, 0)) (x1 : Int32) (y0 : Int32) (S : St) : K mX5_flow X E 75 [(0, .ref a0), (1, .int x1), (2, .ref a2), (4, .ref a4)] [.int y0] S 0 0 (jb_X5_flow_75 fu E a0 a2 a4 x1 y0 S) t := by
  unfold jb_X5_flow_75
  refine K_istore (ls' := [(0, _), (1, _), (2, _), (4, _), (5, _)]) dX5_flow_75 (by decide) rfl ?_
  refine K_aload dX5_flow_77 rfl ?_
  refine K_aload dX5_flow_79 rfl ?_
  refine K_getI dX5_flow_81 f_X5_78_2 ha4 rfl ?_
  refine K_if_ne (tgt := 94) dX5_flow_84 (by decide) (fun c56 => ?_) (fun c56 => ?_)
  · refine K_iconst (v := 1) dX5_flow_94 (by decide) ?_
    refine K_goto (tgt := 99) dX5_flow_95 (by decide) ?_
    refine K_putZ dX5_flow_99 p_X5_78_2 ha4 rfl rfl ?_
    refine K_nmS (fun S7 => ?_)
    refine K_iconst (v := 0) dX5_flow_102 (by decide) ?_
    refine K_istore (ls' := [(0, _), (1, _), (2, _), (4, _), (5, _), (6, _)]) dX5_flow_103 (by decide) rfl ?_
    refine K.keep [0, 1, 2, 4, 5, 6] ?_
    exact kl_X5_flow_105 hQ hE fu ha0 ha2 ha4 fu x1 y0 0 S7
  · refine K_aload_n dX5_flow_87 rfl rfl ?_
    refine K_getI dX5_flow_88 f_X5_78_2 ha2 rfl ?_
    refine K_if_eq (tgt := 98) dX5_flow_91 (by decide) (fun c55 => ?_) (fun c55 => ?_)
    · refine K_iconst (v := 0) dX5_flow_98 (by decide) ?_
      refine K_putZ dX5_flow_99 p_X5_78_2 ha4 rfl rfl ?_
      refine K_nmS (fun S53 => ?_)
      refine K_iconst (v := 0) dX5_flow_102 (by decide) ?_
      refine K_istore (ls' := [(0, _), (1, _), (2, _), (4, _), (5, _), (6, _)]) dX5_flow_103 (by decide) rfl ?_
      refine K.keep [0, 1, 2, 4, 5, 6] ?_
      exact kl_X5_flow_105 hQ hE fu ha0 ha2 ha4 fu x1 y0 0 S53
    · refine K_iconst (v := 1) dX5_flow_94 (by decide) ?_
      refine K_goto (tgt := 99) dX5_flow_95 (by decide) ?_
      refine K_putZ dX5_flow_99 p_X5_78_2 ha4 rfl rfl ?_
      refine K_nmS (fun S54 => ?_)
      refine K_iconst (v := 0) dX5_flow_102 (by decide) ?_
      refine K_istore (ls' := [(0, _), (1, _), (2, _), (4, _), (5, _), (6, _)]) dX5_flow_103 (by decide) rfl ?_
      refine K.keep [0, 1, 2, 4, 5, 6] ?_
      exact kl_X5_flow_105 hQ hE fu ha0 ha2 ha4 fu x1 y0 0 S54
def sp_X5_flow (fu : Nat) (E : Ev) (S : St) (a0 : Nat) (x1 : Int32) (a2 : Nat) (x3 : Int32) : Option (Int32 × St) :=
  (sp_X4_contains fu E S (E.2 a0 9) x1).bind fun u2 =>
  if u2.1 = 0 then (
    (sp_X4_put fu E u2.2 (E.2 a0 9) x1 a2).bind fun u61 =>
    if inb x1 100 = true then (
      bnd (sG u61 (E.2 a0 10) (x1.toNatClampNeg) 1) fun S64 =>
      some (0, S64)
    ) else none
  ) else (
    if inb x1 100 = true then
      (
      if (u2.2.1 (E.2 (E.2 (E.2 a0 9) 0) x1.toNatClampNeg) 2) = (u2.2.1 a2 2) then (
        if (u2.2.1 a2 3) = 0 then (
          jb_X5_flow_75 fu E a0 a2 (E.2 (E.2 (E.2 a0 9) 0) x1.toNatClampNeg) x1 0 u2.2
        ) else (
          if (u2.2.1 (E.2 (E.2 (E.2 a0 9) 0) x1.toNatClampNeg) 3) = 0 then (
            jb_X5_flow_75 fu E a0 a2 (E.2 (E.2 (E.2 a0 9) 0) x1.toNatClampNeg) x1 1 u2.2
          ) else (
            jb_X5_flow_75 fu E a0 a2 (E.2 (E.2 (E.2 a0 9) 0) x1.toNatClampNeg) x1 0 u2.2
          )
        )
      ) else (
        some (8, u2.2)
      )
      )
    else none
  )
set_option maxRecDepth 100000 in
theorem k_X5_flow {l : Launch} (fu : Nat) {E : Ev} (hE : WE E) {a0 : Nat} (ha0 : E.1 a0 = some (0, 4, 0)) {a2 : Nat} (ha2 : E.1 a2 = some (0, 2, 0)) {x1 : Int32} {x3 : Int32} {S : St} {t : (Int32 × St)} (h : sp_X5_flow fu E S a0 x1 a2 x3 = some t) : Cn l mX5_flow [.ref a0, .int x1, .ref a2, .int x3] (hp E S) (PoI E t) := by
  refine Cn.of (by decide) rfl (Nat.le_of_ble_eq_true rfl) (fun X _ _ hQ => ?_)
  refine (?_ : K mX5_flow X E 0 [(0, .ref a0), (1, .int x1), (2, .ref a2), (3, .int x3)] [] S 0 0 (sp_X5_flow fu E S a0 x1 a2 x3) t) h
  unfold sp_X5_flow
  refine K_aload_n dX5_flow_0 rfl rfl ?_
  refine K_getC hE dX5_flow_1 f_X5_15_4 ha0 rfl rfl (fun h1 => ?_)
  refine K_iload_n dX5_flow_4 rfl rfl ?_
  refine K_bind (fun u2 hu2 => ?_)
  refine K_callVI (As := [.int x1]) (k_X4_contains fu hE h1 hu2) dX5_flow_5 v_X5_71 h1 rfl rfl rfl rfl (Nat.le_of_ble_eq_true rfl) ⟨Nat.le_of_ble_eq_true rfl, Nat.le_of_ble_eq_true rfl, Nat.le_of_ble_eq_true rfl, Nat.le_of_ble_eq_true rfl⟩ ?_
  refine K_if_ne (tgt := 29) dX5_flow_8 (by decide) (fun c65 => ?_) (fun c65 => ?_)
  · refine K_aload_n dX5_flow_29 rfl rfl ?_
    refine K_getC hE dX5_flow_30 f_X5_15_4 ha0 rfl rfl (fun h3 => ?_)
    refine K_getC hE dX5_flow_33 f_X5_40_3 h3 rfl rfl (fun h4 => ?_)
    refine K_iload_n dX5_flow_36 rfl rfl ?_
    refine K_chk (fun h5 => ?_)
    refine K_qald hE dX5_flow_37 h4 h5 (fun h6 => ?_)
    refine K_astore (ls' := [(0, _), (1, _), (2, _), (3, _), (4, _)]) dX5_flow_38 (by decide) rfl ?_
    refine K_aload dX5_flow_40 rfl ?_
    refine K_getI dX5_flow_42 f_X5_75_2 h6 rfl ?_
    refine K_aload_n dX5_flow_45 rfl rfl ?_
    refine K_getI dX5_flow_46 f_X5_75_2 ha2 rfl ?_
    refine K_icmp_eq (tgt := 55) dX5_flow_49 (by decide) (fun c59 => ?_) (fun c59 => ?_)
    · refine K_aload_n dX5_flow_55 rfl rfl ?_
      refine K_getI dX5_flow_56 f_X5_78_2 ha2 rfl ?_
      refine K_if_eq (tgt := 74) dX5_flow_59 (by decide) (fun c58 => ?_) (fun c58 => ?_)
      · refine K_iconst (v := 0) dX5_flow_74 (by decide) ?_
        refine K.keep [0, 1, 2, 4] ?_
        exact kj_X5_flow_75 hQ hE fu ha0 ha2 h6 x1 0 u2.2
      · refine K_aload dX5_flow_62 rfl ?_
        refine K_getI dX5_flow_64 f_X5_78_2 h6 rfl ?_
        refine K_if_ne (tgt := 74) dX5_flow_67 (by decide) (fun c57 => ?_) (fun c57 => ?_)
        · refine K_iconst (v := 0) dX5_flow_74 (by decide) ?_
          refine K.keep [0, 1, 2, 4] ?_
          exact kj_X5_flow_75 hQ hE fu ha0 ha2 h6 x1 0 u2.2
        · refine K_iconst (v := 1) dX5_flow_70 (by decide) ?_
          refine K_goto (tgt := 75) dX5_flow_71 (by decide) ?_
          refine K.keep [0, 1, 2, 4] ?_
          exact kj_X5_flow_75 hQ hE fu ha0 ha2 h6 x1 1 u2.2
    · refine K_bipush (v := 8) dX5_flow_52 (by decide) ?_
      exact K_iret dX5_flow_54 hQ rfl (Nat.le_of_ble_eq_true rfl) (Nat.le_of_ble_eq_true rfl)
  · refine K_aload_n dX5_flow_11 rfl rfl ?_
    refine K_getC hE dX5_flow_12 f_X5_15_4 ha0 rfl rfl (fun h60 => ?_)
    refine K_iload_n dX5_flow_15 rfl rfl ?_
    refine K_aload_n dX5_flow_16 rfl rfl ?_
    refine K_bind (fun u61 hu61 => ?_)
    refine K_callVV (As := [.int x1, .ref a2]) (k_X4_put fu hE h60 ha2 hu61) dX5_flow_17 v_X5_57 h60 rfl rfl rfl rfl (Nat.le_of_ble_eq_true rfl) ⟨Nat.le_of_ble_eq_true rfl, Nat.le_of_ble_eq_true rfl, Nat.le_of_ble_eq_true rfl, Nat.le_of_ble_eq_true rfl⟩ ?_
    refine K_aload_n dX5_flow_20 rfl rfl ?_
    refine K_getC hE dX5_flow_21 f_X5_9_4 ha0 rfl rfl (fun h62 => ?_)
    refine K_iload_n dX5_flow_24 rfl rfl ?_
    refine K_iconst (v := 1) dX5_flow_25 (by decide) ?_
    refine K_chk (fun h63 => ?_)
    refine K_zast dX5_flow_26 h62 h63 rfl ?_
    refine K_nmS (fun S64 => ?_)
    refine K_iconst (v := 0) dX5_flow_27 (by decide) ?_
    exact K_iret dX5_flow_28 hQ rfl (Nat.le_of_ble_eq_true rfl) (Nat.le_of_ble_eq_true rfl)
def bd_X0_flowToHandlers_4_2 (fu : Nat) (E : Ev) (a0 : Nat) (rc2 : Int32 → Int32 → St → Option (Int32 × St)) (x1 : Int32) (x2 : Int32) (S : St) : Option (Int32 × St) :=
  if (S.1 (E.2 a0 0) 11) ≤ x2 then (
    some (0, S)
  ) else (
    (sp_X1_protects fu E S (E.2 a0 0) x2 x1).bind fun u3 =>
    if u3.1 = 0 then (
      rc2 x1 (x2 + 1) u3.2
    ) else (
      if (u3.2.1 (E.2 a0 0) 2) = 0 then (
        some (6, u3.2)
      ) else (
        if inb x2 10 = true then
          (
          (sp_X3_copyCaught fu E u3.2 (E.2 a0 8) (E.2 a0 2) (u3.2.2.1 (E.2 (E.2 a0 0) 10) x2.toNatClampNeg)).bind fun u10 =>
          if inb x2 10 = true then
            (
            (sp_X5_flow fu E u10 a0 (u10.2.1 (E.2 (E.2 a0 0) 9) x2.toNatClampNeg) (E.2 a0 8) 0).bind fun u15 =>
            if u15.1 = 0 then (
              rc2 x1 (x2 + 1) u15.2
            ) else (
              some (u15.1, u15.2)
            )
            )
          else none
          )
        else none
      )
    )
  )
def lp_X0_flowToHandlers_4_2 (fu : Nat) (E : Ev) (a0 : Nat) : Nat → Int32 → Int32 → St → Option (Int32 × St)
  | 0, _, _, _ => none
  | f + 1, x1, x2, S => bd_X0_flowToHandlers_4_2 fu E a0 (lp_X0_flowToHandlers_4_2 fu E a0 f) x1 x2 S
set_option maxRecDepth 100000 in
theorem kl_X0_flowToHandlers_4_2 {X : Cx} {E : Ev} {t : (Int32 × St)} {a0 : Nat} (hQ : EndR mX0_flowToHandlers X (PoI E t)) (hE : WE E) (fu : Nat) (ha0 : E.1 a0 = some (0, 4, 0)) : ∀ (f : Nat) (x1 : Int32) (x2 : Int32) (S : St), K mX0_flowToHandlers X E 2 [(0, .ref a0), (1, .int x1), (2, .int x2)] [] S 0 0 (lp_X0_flowToHandlers_4_2 fu E a0 f x1 x2 S) t := by
  intro f
  induction f with
  | zero => intro x1 x2 S; exact K_none
  | succ f hrc2 =>
    intro x1 x2 S
    show K _ _ _ _ _ _ _ _ _ (bd_X0_flowToHandlers_4_2 fu E a0 (lp_X0_flowToHandlers_4_2 fu E a0 f) x1 x2 S) t
    unfold bd_X0_flowToHandlers_4_2
    refine K_iload_n dX0_flowToHandlers_2 rfl rfl ?_
    refine K_aload_n dX0_flowToHandlers_3 rfl rfl ?_
    refine K_getC hE dX0_flowToHandlers_4 f_X0_29_4 ha0 rfl rfl (fun h1 => ?_)
    refine K_getI dX0_flowToHandlers_7 f_X0_106_0 h1 rfl ?_
    refine K_icmp_ge (tgt := 89) dX0_flowToHandlers_10 (by decide) (fun c19 => ?_) (fun c19 => ?_)
    · refine K_iconst (v := 0) dX0_flowToHandlers_89 (by decide) ?_
      exact K_iret dX0_flowToHandlers_90 hQ rfl (Nat.le_of_ble_eq_true rfl) (Nat.le_of_ble_eq_true rfl)
    · refine K_aload_n dX0_flowToHandlers_13 rfl rfl ?_
      refine K_getC hE dX0_flowToHandlers_14 f_X0_29_4 ha0 rfl rfl (fun h2 => ?_)
      refine K_iload_n dX0_flowToHandlers_17 rfl rfl ?_
      refine K_iload_n dX0_flowToHandlers_18 rfl rfl ?_
      refine K_bind (fun u3 hu3 => ?_)
      refine K_callVI (As := [.int x2, .int x1]) (k_X1_protects fu hE h2 hu3) dX0_flowToHandlers_19 v_X0_109 h2 rfl rfl rfl rfl (Nat.le_of_ble_eq_true rfl) ⟨Nat.le_of_ble_eq_true rfl, Nat.le_of_ble_eq_true rfl, Nat.le_of_ble_eq_true rfl, Nat.le_of_ble_eq_true rfl⟩ ?_
      refine K_if_eq (tgt := 83) dX0_flowToHandlers_22 (by decide) (fun c18 => ?_) (fun c18 => ?_)
      · refine K_iinc (v := (x2 + 1)) (ls' := [(0, _), (1, _), (2, _)]) dX0_flowToHandlers_83 rfl rfl (by decide) rfl ?_
        refine K_goto (tgt := 2) dX0_flowToHandlers_86 (by decide) ?_
        refine K.keep [0, 1, 2] ?_
        exact hrc2 x1 (x2 + 1) u3.2
      · refine K_aload_n dX0_flowToHandlers_25 rfl rfl ?_
        refine K_getC hE dX0_flowToHandlers_26 f_X0_29_4 ha0 rfl rfl (fun h4 => ?_)
        refine K_getI dX0_flowToHandlers_29 f_X0_113_0 h4 rfl ?_
        refine K_if_ne (tgt := 38) dX0_flowToHandlers_32 (by decide) (fun c17 => ?_) (fun c17 => ?_)
        · refine K_aload_n dX0_flowToHandlers_38 rfl rfl ?_
          refine K_getC hE dX0_flowToHandlers_39 f_X0_18_4 ha0 rfl rfl (fun h5 => ?_)
          refine K_aload_n dX0_flowToHandlers_42 rfl rfl ?_
          refine K_getC hE dX0_flowToHandlers_43 f_X0_12_4 ha0 rfl rfl (fun h6 => ?_)
          refine K_aload_n dX0_flowToHandlers_46 rfl rfl ?_
          refine K_getC hE dX0_flowToHandlers_47 f_X0_29_4 ha0 rfl rfl (fun h7 => ?_)
          refine K_getC hE dX0_flowToHandlers_50 f_X0_116_0 h7 rfl rfl (fun h8 => ?_)
          refine K_iload_n dX0_flowToHandlers_53 rfl rfl ?_
          refine K_chk (fun h9 => ?_)
          refine K_iald dX0_flowToHandlers_54 h8 h9 ?_
          refine K_bind (fun u10 hu10 => ?_)
          refine K_callVV (As := [.ref (E.2 a0 2), .int (u3.2.2.1 (E.2 (E.2 a0 0) 10) x2.toNatClampNeg)]) (k_X3_copyCaught fu hE h5 h6 hu10) dX0_flowToHandlers_55 v_X0_119 h5 rfl rfl rfl rfl (Nat.le_of_ble_eq_true rfl) ⟨Nat.le_of_ble_eq_true rfl, Nat.le_of_ble_eq_true rfl, Nat.le_of_ble_eq_true rfl, Nat.le_of_ble_eq_true rfl⟩ ?_
          refine K_aload_n dX0_flowToHandlers_58 rfl rfl ?_
          refine K_aload_n dX0_flowToHandlers_59 rfl rfl ?_
          refine K_getC hE dX0_flowToHandlers_60 f_X0_29_4 ha0 rfl rfl (fun h11 => ?_)
          refine K_getC hE dX0_flowToHandlers_63 f_X0_123_0 h11 rfl rfl (fun h12 => ?_)
          refine K_iload_n dX0_flowToHandlers_66 rfl rfl ?_
          refine K_chk (fun h13 => ?_)
          refine K_iald dX0_flowToHandlers_67 h12 h13 ?_
          refine K_aload_n dX0_flowToHandlers_68 rfl rfl ?_
          refine K_getC hE dX0_flowToHandlers_69 f_X0_18_4 ha0 rfl rfl (fun h14 => ?_)
          refine K_iconst (v := 0) dX0_flowToHandlers_72 (by decide) ?_
          refine K_bind (fun u15 hu15 => ?_)
          refine K_callUI (r := (RX5, TX5, 11)) (As := [.int (u10.2.1 (E.2 (E.2 a0 0) 9) x2.toNatClampNeg), .ref (E.2 a0 8), .int 0]) (k_X5_flow fu hE ha0 h14 hu15) dX0_flowToHandlers_73 u_X0_126_4 ha0 rfl rfl rfl (Nat.le_of_ble_eq_true rfl) ⟨Nat.le_of_ble_eq_true rfl, Nat.le_of_ble_eq_true rfl, Nat.le_of_ble_eq_true rfl, Nat.le_of_ble_eq_true rfl⟩ ?_
          refine K_istore_n (ls' := [(0, _), (1, _), (2, _), (3, _)]) dX0_flowToHandlers_76 rfl (by decide) rfl ?_
          refine K_iload_n dX0_flowToHandlers_77 rfl rfl ?_
          refine K_if_eq (tgt := 83) dX0_flowToHandlers_78 (by decide) (fun c16 => ?_) (fun c16 => ?_)
          · refine K_iinc (v := (x2 + 1)) (ls' := [(0, _), (1, _), (2, _), (3, _)]) dX0_flowToHandlers_83 rfl rfl (by decide) rfl ?_
            refine K_goto (tgt := 2) dX0_flowToHandlers_86 (by decide) ?_
            refine K.keep [0, 1, 2] ?_
            exact hrc2 x1 (x2 + 1) u15.2
          · refine K_iload_n dX0_flowToHandlers_81 rfl rfl ?_
            exact K_iret dX0_flowToHandlers_82 hQ rfl (Nat.le_of_ble_eq_true rfl) (Nat.le_of_ble_eq_true rfl)
        · refine K_bipush (v := 6) dX0_flowToHandlers_35 (by decide) ?_
          exact K_iret dX0_flowToHandlers_37 hQ rfl (Nat.le_of_ble_eq_true rfl) (Nat.le_of_ble_eq_true rfl)
def sp_X0_flowToHandlers_4 (fu : Nat) (E : Ev) (S : St) (a0 : Nat) (x1 : Int32) : Option (Int32 × St) :=
  lp_X0_flowToHandlers_4_2 fu E a0 fu x1 0 S
set_option maxRecDepth 100000 in
theorem k_X0_flowToHandlers_4 {l : Launch} (fu : Nat) {E : Ev} (hE : WE E) {a0 : Nat} (ha0 : E.1 a0 = some (0, 4, 0)) {x1 : Int32} {S : St} {t : (Int32 × St)} (h : sp_X0_flowToHandlers_4 fu E S a0 x1 = some t) : Cn l mX0_flowToHandlers [.ref a0, .int x1] (hp E S) (PoI E t) := by
  refine Cn.of (by decide) rfl (Nat.le_of_ble_eq_true rfl) (fun X _ _ hQ => ?_)
  refine (?_ : K mX0_flowToHandlers X E 0 [(0, .ref a0), (1, .int x1)] [] S 0 0 (sp_X0_flowToHandlers_4 fu E S a0 x1) t) h
  unfold sp_X0_flowToHandlers_4
  refine K_iconst (v := 0) dX0_flowToHandlers_0 (by decide) ?_
  refine K_istore_n (ls' := [(0, _), (1, _), (2, _)]) dX0_flowToHandlers_1 rfl (by decide) rfl ?_
  refine K.keep [0, 1, 2] ?_
  exact kl_X0_flowToHandlers_4_2 hQ hE fu ha0 fu x1 0 S
def sp_X9_fallsThrough (fu : Nat) (E : Ev) (S : St) (x0 : Int32) : Option (Int32 × St) :=
  if x0 = 22 then (
    some (0, S)
  ) else (
    if x0 < 27 then (
      some (1, S)
    ) else (
      if x0 ≤ 31 then (
        some (0, S)
      ) else (
        some (1, S)
      )
    )
  )
set_option maxRecDepth 100000 in
theorem k_X9_fallsThrough {l : Launch} (fu : Nat) {E : Ev} (hE : WE E) {x0 : Int32} {S : St} {t : (Int32 × St)} (h : sp_X9_fallsThrough fu E S x0 = some t) : Cn l mX9_fallsThrough [.int x0] (hp E S) (PoI E t) := by
  refine Cn.of (by decide) rfl (Nat.le_of_ble_eq_true rfl) (fun X _ _ hQ => ?_)
  refine (?_ : K mX9_fallsThrough X E 0 [(0, .int x0)] [] S 0 0 (sp_X9_fallsThrough fu E S x0) t) h
  unfold sp_X9_fallsThrough
  refine K_iload_n dX9_fallsThrough_0 rfl rfl ?_
  refine K_bipush (v := 22) dX9_fallsThrough_1 (by decide) ?_
  refine K_icmp_eq (tgt := 22) dX9_fallsThrough_3 (by decide) (fun c3 => ?_) (fun c3 => ?_)
  · refine K_iconst (v := 0) dX9_fallsThrough_22 (by decide) ?_
    exact K_zret dX9_fallsThrough_23 hQ rfl rfl (Nat.le_of_ble_eq_true rfl) (Nat.le_of_ble_eq_true rfl)
  · refine K_iload_n dX9_fallsThrough_6 rfl rfl ?_
    refine K_bipush (v := 27) dX9_fallsThrough_7 (by decide) ?_
    refine K_icmp_lt (tgt := 18) dX9_fallsThrough_9 (by decide) (fun c2 => ?_) (fun c2 => ?_)
    · refine K_iconst (v := 1) dX9_fallsThrough_18 (by decide) ?_
      refine K_goto (tgt := 23) dX9_fallsThrough_19 (by decide) ?_
      exact K_zret dX9_fallsThrough_23 hQ rfl rfl (Nat.le_of_ble_eq_true rfl) (Nat.le_of_ble_eq_true rfl)
    · refine K_iload_n dX9_fallsThrough_12 rfl rfl ?_
      refine K_bipush (v := 31) dX9_fallsThrough_13 (by decide) ?_
      refine K_icmp_le (tgt := 22) dX9_fallsThrough_15 (by decide) (fun c1 => ?_) (fun c1 => ?_)
      · refine K_iconst (v := 0) dX9_fallsThrough_22 (by decide) ?_
        exact K_zret dX9_fallsThrough_23 hQ rfl rfl (Nat.le_of_ble_eq_true rfl) (Nat.le_of_ble_eq_true rfl)
      · refine K_iconst (v := 1) dX9_fallsThrough_18 (by decide) ?_
        refine K_goto (tgt := 23) dX9_fallsThrough_19 (by decide) ?_
        exact K_zret dX9_fallsThrough_23 hQ rfl rfl (Nat.le_of_ble_eq_true rfl) (Nat.le_of_ble_eq_true rfl)
def sp_X9_jumps (fu : Nat) (E : Ev) (S : St) (x0 : Int32) : Option (Int32 × St) :=
  if x0 < 22 then (
    some (0, S)
  ) else (
    if 26 < x0 then (
      some (0, S)
    ) else (
      some (1, S)
    )
  )
set_option maxRecDepth 100000 in
theorem k_X9_jumps {l : Launch} (fu : Nat) {E : Ev} (hE : WE E) {x0 : Int32} {S : St} {t : (Int32 × St)} (h : sp_X9_jumps fu E S x0 = some t) : Cn l mX9_jumps [.int x0] (hp E S) (PoI E t) := by
  refine Cn.of (by decide) rfl (Nat.le_of_ble_eq_true rfl) (fun X _ _ hQ => ?_)
  refine (?_ : K mX9_jumps X E 0 [(0, .int x0)] [] S 0 0 (sp_X9_jumps fu E S x0) t) h
  unfold sp_X9_jumps
  refine K_iload_n dX9_jumps_0 rfl rfl ?_
  refine K_bipush (v := 22) dX9_jumps_1 (by decide) ?_
  refine K_icmp_lt (tgt := 16) dX9_jumps_3 (by decide) (fun c2 => ?_) (fun c2 => ?_)
  · refine K_iconst (v := 0) dX9_jumps_16 (by decide) ?_
    exact K_zret dX9_jumps_17 hQ rfl rfl (Nat.le_of_ble_eq_true rfl) (Nat.le_of_ble_eq_true rfl)
  · refine K_iload_n dX9_jumps_6 rfl rfl ?_
    refine K_bipush (v := 26) dX9_jumps_7 (by decide) ?_
    refine K_icmp_gt (tgt := 16) dX9_jumps_9 (by decide) (fun c1 => ?_) (fun c1 => ?_)
    · refine K_iconst (v := 0) dX9_jumps_16 (by decide) ?_
      exact K_zret dX9_jumps_17 hQ rfl rfl (Nat.le_of_ble_eq_true rfl) (Nat.le_of_ble_eq_true rfl)
    · refine K_iconst (v := 1) dX9_jumps_12 (by decide) ?_
      refine K_goto (tgt := 17) dX9_jumps_13 (by decide) ?_
      exact K_zret dX9_jumps_17 hQ rfl rfl (Nat.le_of_ble_eq_true rfl) (Nat.le_of_ble_eq_true rfl)
def jb_X0_flowToSuccessors_4_50 (fu : Nat) (E : Ev) (a0 : Nat) (x1 : Int32) (x2 : Int32) (x3 : Int32) (S : St) : Option (Int32 × St) :=
  if x3 = 0 then (
    (sp_X9_jumps fu E S x2).bind fun u6 =>
    if u6.1 = 0 then (
      some (x3, u6.2)
    ) else (
      if inb x1 100 = true then
        (
        (sp_X5_flow fu E u6.2 a0 (u6.2.2.1 (E.2 (E.2 a0 0) 5) x1.toNatClampNeg) (E.2 a0 2) 0).bind fun u11 =>
        some (u11.1, u11.2)
        )
      else none
    )
  ) else (
    some (x3, S)
  )
set_option maxRecDepth 100000 in
theorem kj_X0_flowToSuccessors_4_50 {X : Cx} {E : Ev} {t : (Int32 × St)} {a0 : Nat} (hQ : EndR mX0_flowToSuccessors X (PoI E t)) (hE : WE E) (fu : Nat) (ha0 : E.1 a0 = some (0, 4, 0)) (x1 : Int32) (x2 : Int32) (x3 : Int32) (S : St) : K mX0_flowToSuccessors X E 50 [(0, .ref a0), (1, .int x1), (2, .int x2), (3, .int x3)] [] S 0 0 (jb_X0_flowToSuccessors_4_50 fu E a0 x1 x2 x3 S) t := by
  unfold jb_X0_flowToSuccessors_4_50
  refine K_iload_n dX0_flowToSuccessors_50 rfl rfl ?_
  refine K_if_ne (tgt := 80) dX0_flowToSuccessors_51 (by decide) (fun c13 => ?_) (fun c13 => ?_)
  · refine K_iload_n dX0_flowToSuccessors_80 rfl rfl ?_
    exact K_iret dX0_flowToSuccessors_81 hQ rfl (Nat.le_of_ble_eq_true rfl) (Nat.le_of_ble_eq_true rfl)
  · refine K_iload_n dX0_flowToSuccessors_54 rfl rfl ?_
    refine K_bind (fun u6 hu6 => ?_)
    refine K_callSI (As := [.int x2]) (k_X9_jumps fu hE hu6) dX0_flowToSuccessors_55 s_X0_142 rfl rfl (Nat.le_of_ble_eq_true rfl) ⟨Nat.le_of_ble_eq_true rfl, Nat.le_of_ble_eq_true rfl, Nat.le_of_ble_eq_true rfl, Nat.le_of_ble_eq_true rfl⟩ ?_
    refine K_if_eq (tgt := 80) dX0_flowToSuccessors_58 (by decide) (fun c12 => ?_) (fun c12 => ?_)
    · refine K_iload_n dX0_flowToSuccessors_80 rfl rfl ?_
      exact K_iret dX0_flowToSuccessors_81 hQ rfl (Nat.le_of_ble_eq_true rfl) (Nat.le_of_ble_eq_true rfl)
    · refine K_aload_n dX0_flowToSuccessors_61 rfl rfl ?_
      refine K_aload_n dX0_flowToSuccessors_62 rfl rfl ?_
      refine K_getC hE dX0_flowToSuccessors_63 f_X0_29_4 ha0 rfl rfl (fun h7 => ?_)
      refine K_getC hE dX0_flowToSuccessors_66 f_X0_145_0 h7 rfl rfl (fun h8 => ?_)
      refine K_iload_n dX0_flowToSuccessors_69 rfl rfl ?_
      refine K_chk (fun h9 => ?_)
      refine K_iald dX0_flowToSuccessors_70 h8 h9 ?_
      refine K_aload_n dX0_flowToSuccessors_71 rfl rfl ?_
      refine K_getC hE dX0_flowToSuccessors_72 f_X0_12_4 ha0 rfl rfl (fun h10 => ?_)
      refine K_iconst (v := 0) dX0_flowToSuccessors_75 (by decide) ?_
      refine K_bind (fun u11 hu11 => ?_)
      refine K_callUI (r := (RX5, TX5, 11)) (As := [.int (u6.2.2.1 (E.2 (E.2 a0 0) 5) x1.toNatClampNeg), .ref (E.2 a0 2), .int 0]) (k_X5_flow fu hE ha0 h10 hu11) dX0_flowToSuccessors_76 u_X0_126_4 ha0 rfl rfl rfl (Nat.le_of_ble_eq_true rfl) ⟨Nat.le_of_ble_eq_true rfl, Nat.le_of_ble_eq_true rfl, Nat.le_of_ble_eq_true rfl, Nat.le_of_ble_eq_true rfl⟩ ?_
      refine K_istore_n (ls' := [(0, _), (1, _), (2, _), (3, _)]) dX0_flowToSuccessors_79 rfl (by decide) rfl ?_
      refine K_iload_n dX0_flowToSuccessors_80 rfl rfl ?_
      exact K_iret dX0_flowToSuccessors_81 hQ rfl (Nat.le_of_ble_eq_true rfl) (Nat.le_of_ble_eq_true rfl)
def sp_X0_flowToSuccessors_4 (fu : Nat) (E : Ev) (S : St) (a0 : Nat) (x1 : Int32) : Option (Int32 × St) :=
  if inb x1 100 = true then
    (
    bnd (S.2.1 (E.2 (E.2 a0 0) 4) x1.toNatClampNeg) fun v4 =>
    (sp_X9_fallsThrough fu E S v4).bind fun u5 =>
    if u5.1 = 0 then (
      jb_X0_flowToSuccessors_4_50 fu E a0 x1 v4 0 u5.2
    ) else (
      (sp_X1_isIndex fu E u5.2 (E.2 a0 0) (x1 + 1)).bind fun u15 =>
      if u15.1 = 0 then (
        jb_X0_flowToSuccessors_4_50 fu E a0 x1 v4 7 u15.2
      ) else (
        (sp_X5_flow fu E u15.2 a0 (x1 + 1) (E.2 a0 2) 1).bind fun u17 =>
        jb_X0_flowToSuccessors_4_50 fu E a0 x1 v4 u17.1 u17.2
      )
    )
    )
  else none
set_option maxRecDepth 100000 in
theorem k_X0_flowToSuccessors_4 {l : Launch} (fu : Nat) {E : Ev} (hE : WE E) {a0 : Nat} (ha0 : E.1 a0 = some (0, 4, 0)) {x1 : Int32} {S : St} {t : (Int32 × St)} (h : sp_X0_flowToSuccessors_4 fu E S a0 x1 = some t) : Cn l mX0_flowToSuccessors [.ref a0, .int x1] (hp E S) (PoI E t) := by
  refine Cn.of (by decide) rfl (Nat.le_of_ble_eq_true rfl) (fun X _ _ hQ => ?_)
  refine (?_ : K mX0_flowToSuccessors X E 0 [(0, .ref a0), (1, .int x1)] [] S 0 0 (sp_X0_flowToSuccessors_4 fu E S a0 x1) t) h
  unfold sp_X0_flowToSuccessors_4
  refine K_aload_n dX0_flowToSuccessors_0 rfl rfl ?_
  refine K_getC hE dX0_flowToSuccessors_1 f_X0_29_4 ha0 rfl rfl (fun h1 => ?_)
  refine K_getC hE dX0_flowToSuccessors_4 f_X0_130_0 h1 rfl rfl (fun h2 => ?_)
  refine K_iload_n dX0_flowToSuccessors_7 rfl rfl ?_
  refine K_chk (fun h3 => ?_)
  refine K_iald dX0_flowToSuccessors_8 h2 h3 ?_
  refine K_nmI (fun v4 => ?_)
  refine K_istore_n (ls' := [(0, _), (1, _), (2, _)]) dX0_flowToSuccessors_9 rfl (by decide) rfl ?_
  refine K_iconst (v := 0) dX0_flowToSuccessors_10 (by decide) ?_
  refine K_istore_n (ls' := [(0, _), (1, _), (2, _), (3, _)]) dX0_flowToSuccessors_11 rfl (by decide) rfl ?_
  refine K_iload_n dX0_flowToSuccessors_12 rfl rfl ?_
  refine K_bind (fun u5 hu5 => ?_)
  refine K_callSI (As := [.int v4]) (k_X9_fallsThrough fu hE hu5) dX0_flowToSuccessors_13 s_X0_133 rfl rfl (Nat.le_of_ble_eq_true rfl) ⟨Nat.le_of_ble_eq_true rfl, Nat.le_of_ble_eq_true rfl, Nat.le_of_ble_eq_true rfl, Nat.le_of_ble_eq_true rfl⟩ ?_
  refine K_if_eq (tgt := 50) dX0_flowToSuccessors_16 (by decide) (fun c19 => ?_) (fun c19 => ?_)
  · refine K.keep [0, 1, 2, 3] ?_
    exact kj_X0_flowToSuccessors_4_50 hQ hE fu ha0 x1 v4 0 u5.2
  · refine K_aload_n dX0_flowToSuccessors_19 rfl rfl ?_
    refine K_getC hE dX0_flowToSuccessors_20 f_X0_29_4 ha0 rfl rfl (fun h14 => ?_)
    refine K_iload_n dX0_flowToSuccessors_23 rfl rfl ?_
    refine K_iconst (v := 1) dX0_flowToSuccessors_24 (by decide) ?_
    refine K_iadd dX0_flowToSuccessors_25 ?_
    refine K_bind (fun u15 hu15 => ?_)
    refine K_callVI (As := [.int (x1 + 1)]) (k_X1_isIndex fu hE h14 hu15) dX0_flowToSuccessors_26 v_X0_139 h14 rfl rfl rfl rfl (Nat.le_of_ble_eq_true rfl) ⟨Nat.le_of_ble_eq_true rfl, Nat.le_of_ble_eq_true rfl, Nat.le_of_ble_eq_true rfl, Nat.le_of_ble_eq_true rfl⟩ ?_
    refine K_if_eq (tgt := 47) dX0_flowToSuccessors_29 (by decide) (fun c18 => ?_) (fun c18 => ?_)
    · refine K_bipush (v := 7) dX0_flowToSuccessors_47 (by decide) ?_
      refine K_istore_n (ls' := [(0, _), (1, _), (2, _), (3, _)]) dX0_flowToSuccessors_49 rfl (by decide) rfl ?_
      refine K.keep [0, 1, 2, 3] ?_
      exact kj_X0_flowToSuccessors_4_50 hQ hE fu ha0 x1 v4 7 u15.2
    · refine K_aload_n dX0_flowToSuccessors_32 rfl rfl ?_
      refine K_iload_n dX0_flowToSuccessors_33 rfl rfl ?_
      refine K_iconst (v := 1) dX0_flowToSuccessors_34 (by decide) ?_
      refine K_iadd dX0_flowToSuccessors_35 ?_
      refine K_aload_n dX0_flowToSuccessors_36 rfl rfl ?_
      refine K_getC hE dX0_flowToSuccessors_37 f_X0_12_4 ha0 rfl rfl (fun h16 => ?_)
      refine K_iconst (v := 1) dX0_flowToSuccessors_40 (by decide) ?_
      refine K_bind (fun u17 hu17 => ?_)
      refine K_callUI (r := (RX5, TX5, 11)) (As := [.int (x1 + 1), .ref (E.2 a0 2), .int 1]) (k_X5_flow fu hE ha0 h16 hu17) dX0_flowToSuccessors_41 u_X0_126_4 ha0 rfl rfl rfl (Nat.le_of_ble_eq_true rfl) ⟨Nat.le_of_ble_eq_true rfl, Nat.le_of_ble_eq_true rfl, Nat.le_of_ble_eq_true rfl, Nat.le_of_ble_eq_true rfl⟩ ?_
      refine K_goto (tgt := 49) dX0_flowToSuccessors_44 (by decide) ?_
      refine K_istore_n (ls' := [(0, _), (1, _), (2, _), (3, _)]) dX0_flowToSuccessors_49 rfl (by decide) rfl ?_
      refine K.keep [0, 1, 2, 3] ?_
      exact kj_X0_flowToSuccessors_4_50 hQ hE fu ha0 x1 v4 u17.1 u17.2
def sp_X7_require (fu : Nat) (E : Ev) (S : St) (a0 : Nat) (x1 : Int32) (x2 : Int32) : Option St :=
  if (S.1 a0 4) = 0 then (
    if x1 = 0 then (
      bnd (sF S a0 4 x2) fun S1 =>
      some S1
    ) else (
      some S
    )
  ) else (
    some S
  )
set_option maxRecDepth 100000 in
theorem k_X7_require {l : Launch} (fu : Nat) {E : Ev} (hE : WE E) {a0 : Nat} (ha0 : E.1 a0 = some (0, 6, 0)) {x1 : Int32} {x2 : Int32} {S : St} {t : St} (h : sp_X7_require fu E S a0 x1 x2 = some t) : Cn l mX7_require [.ref a0, .int x1, .int x2] (hp E S) (PoV E t) := by
  refine Cn.of (by decide) rfl (Nat.le_of_ble_eq_true rfl) (fun X _ _ hQ => ?_)
  refine (?_ : K mX7_require X E 0 [(0, .ref a0), (1, .int x1), (2, .int x2)] [] S 0 0 (sp_X7_require fu E S a0 x1 x2) t) h
  unfold sp_X7_require
  refine K_aload_n dX7_require_0 rfl rfl ?_
  refine K_getI dX7_require_1 f_X7_30_6 ha0 rfl ?_
  refine K_if_ne (tgt := 16) dX7_require_4 (by decide) (fun c3 => ?_) (fun c3 => ?_)
  · exact K_vret dX7_require_16 hQ rfl (Nat.le_of_ble_eq_true rfl) (Nat.le_of_ble_eq_true rfl)
  · refine K_iload_n dX7_require_7 rfl rfl ?_
    refine K_if_ne (tgt := 16) dX7_require_8 (by decide) (fun c2 => ?_) (fun c2 => ?_)
    · exact K_vret dX7_require_16 hQ rfl (Nat.le_of_ble_eq_true rfl) (Nat.le_of_ble_eq_true rfl)
    · refine K_aload_n dX7_require_11 rfl rfl ?_
      refine K_iload_n dX7_require_12 rfl rfl ?_
      refine K_putI dX7_require_13 p_X7_30_6 ha0 rfl ?_
      refine K_nmS (fun S1 => ?_)
      exact K_vret dX7_require_16 hQ rfl (Nat.le_of_ble_eq_true rfl) (Nat.le_of_ble_eq_true rfl)
def jb_X7_popSlot_17 (fu : Nat) (E : Ev) (a0 b0 : Nat) (y1 : Int32) (S : St) : Option (Int32 × St) :=
  (sp_X7_require fu E S b0 y1 3).bind fun u2 =>
  if (u2.1 a0 4) = 0 then (
    if E.1 (u2.2.2.1 a0 3) = some (0, 2, 0) then
      (
      bnd (sF u2 (u2.2.2.1 a0 3) 2 ((u2.1 (u2.2.2.1 a0 3) 2) - 1)) fun S4 =>
      if E.1 (S4.2.2.1 a0 3) = some (0, 2, 0) then
        (
        if E.1 (S4.2.2.1 a0 3) = some (0, 2, 0) then
          (
          if inb (S4.1 (S4.2.2.1 a0 3) 2) 12 = true then
            (
            some (S4.2.1 (E.2 (S4.2.2.1 a0 3) 1) (S4.1 (S4.2.2.1 a0 3) 2).toNatClampNeg, S4)
            )
          else none
          )
        else none
        )
      else none
      )
    else none
  ) else (
    some ((-2), u2)
  )
set_option maxRecDepth 100000 in
theorem kj_X7_popSlot_17 {X : Cx} {E : Ev} {t : (Int32 × St)} {a0 b0 : Nat} (hQ : EndR mX7_popSlot X (PoI E t)) (hE : WE E) (fu : Nat) (ha0 : E.1 a0 = some (0, 6, 0)) (hb0 : E.1 b0 = some (0, 6, 0)) (y1 : Int32) (S : St) : K mX7_popSlot X E 17 [(0, .ref a0)] [.int y1, .ref b0] S 0 0 (jb_X7_popSlot_17 fu E a0 b0 y1 S) t := by
  unfold jb_X7_popSlot_17
  refine K_iconst (v := 3) dX7_popSlot_17 (by decide) ?_
  refine K_bind (fun u2 hu2 => ?_)
  refine K_callVV (As := [.int y1, .int 3]) (k_X7_require fu hE hb0 hu2) dX7_popSlot_18 v_X7_80 hb0 rfl rfl rfl rfl (Nat.le_of_ble_eq_true rfl) ⟨Nat.le_of_ble_eq_true rfl, Nat.le_of_ble_eq_true rfl, Nat.le_of_ble_eq_true rfl, Nat.le_of_ble_eq_true rfl⟩ ?_
  refine K_aload_n dX7_popSlot_21 rfl rfl ?_
  refine K_getI dX7_popSlot_22 f_X7_30_6 ha0 rfl ?_
  refine K_if_eq (tgt := 31) dX7_popSlot_25 (by decide) (fun c9 => ?_) (fun c9 => ?_)
  · refine K_aload_n dX7_popSlot_31 rfl rfl ?_
    refine K_ite (fun h3 => ?_) (fun _ => K_none)
    refine K_getM hE dX7_popSlot_32 f_X7_26_6 ha0 rfl h3 ?_
    refine K_dup dX7_popSlot_35 rfl ?_
    refine K_getI dX7_popSlot_36 f_X7_180_2 h3 rfl ?_
    refine K_iconst (v := 1) dX7_popSlot_39 (by decide) ?_
    refine K_isub dX7_popSlot_40 ?_
    refine K_putI dX7_popSlot_41 p_X7_180_2 h3 rfl ?_
    refine K_nmS (fun S4 => ?_)
    refine K_aload_n dX7_popSlot_44 rfl rfl ?_
    refine K_ite (fun h5 => ?_) (fun _ => K_none)
    refine K_getM hE dX7_popSlot_45 f_X7_26_6 ha0 rfl h5 ?_
    refine K_getC hE dX7_popSlot_48 f_X7_183_2 h5 rfl rfl (fun h6 => ?_)
    refine K_aload_n dX7_popSlot_51 rfl rfl ?_
    refine K_ite (fun h7 => ?_) (fun _ => K_none)
    refine K_getM hE dX7_popSlot_52 f_X7_26_6 ha0 rfl h7 ?_
    refine K_getI dX7_popSlot_55 f_X7_180_2 h7 rfl ?_
    refine K_chk (fun h8 => ?_)
    refine K_iald dX7_popSlot_58 h6 h8 ?_
    exact K_iret dX7_popSlot_59 hQ rfl (Nat.le_of_ble_eq_true rfl) (Nat.le_of_ble_eq_true rfl)
  · refine K_bipush (v := (-2)) dX7_popSlot_28 (by decide) ?_
    exact K_iret dX7_popSlot_30 hQ rfl (Nat.le_of_ble_eq_true rfl) (Nat.le_of_ble_eq_true rfl)
def sp_X7_popSlot (fu : Nat) (E : Ev) (S : St) (a0 : Nat) : Option (Int32 × St) :=
  if E.1 (S.2.2.1 a0 3) = some (0, 2, 0) then
    (
    if (S.1 (S.2.2.1 a0 3) 2) < 1 then (
      jb_X7_popSlot_17 fu E a0 a0 0 S
    ) else (
      jb_X7_popSlot_17 fu E a0 a0 1 S
    )
    )
  else none
set_option maxRecDepth 100000 in
theorem k_X7_popSlot {l : Launch} (fu : Nat) {E : Ev} (hE : WE E) {a0 : Nat} (ha0 : E.1 a0 = some (0, 6, 0)) {S : St} {t : (Int32 × St)} (h : sp_X7_popSlot fu E S a0 = some t) : Cn l mX7_popSlot [.ref a0] (hp E S) (PoI E t) := by
  refine Cn.of (by decide) rfl (Nat.le_of_ble_eq_true rfl) (fun X _ _ hQ => ?_)
  refine (?_ : K mX7_popSlot X E 0 [(0, .ref a0)] [] S 0 0 (sp_X7_popSlot fu E S a0) t) h
  unfold sp_X7_popSlot
  refine K_aload_n dX7_popSlot_0 rfl rfl ?_
  refine K_aload_n dX7_popSlot_1 rfl rfl ?_
  refine K_ite (fun h1 => ?_) (fun _ => K_none)
  refine K_getM hE dX7_popSlot_2 f_X7_26_6 ha0 rfl h1 ?_
  refine K_getI dX7_popSlot_5 f_X7_180_2 h1 rfl ?_
  refine K_iconst (v := 1) dX7_popSlot_8 (by decide) ?_
  refine K_icmp_lt (tgt := 16) dX7_popSlot_9 (by decide) (fun c10 => ?_) (fun c10 => ?_)
  · refine K_iconst (v := 0) dX7_popSlot_16 (by decide) ?_
    refine K.keep [0] ?_
    exact kj_X7_popSlot_17 hQ hE fu ha0 ha0 0 S
  · refine K_iconst (v := 1) dX7_popSlot_12 (by decide) ?_
    refine K_goto (tgt := 17) dX7_popSlot_13 (by decide) ?_
    refine K.keep [0] ?_
    exact kj_X7_popSlot_17 hQ hE fu ha0 ha0 1 S
