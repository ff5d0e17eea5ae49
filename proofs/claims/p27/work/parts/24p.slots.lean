def sp_X11_stackSlot (fu : Nat) (E : Ev) (S : St) (a0 : Nat) (x1 : Int32) (x2 : Int32) : Option ((String ⊕ Int32) × St) :=
  (sp_X11_requireFrame fu E S a0 x1).bind fun u1 => xb u1 fun q2 S3 =>
  if x2 < 0 then (
    some (.inl "java/util/NoSuchElementException", S3)
  ) else (
    if inb x1 100 = true then
      (
      if x2 < (S3.1 (E.2 (E.2 (E.2 a0 5) 0) x1.toNatClampNeg) 2) then (
        if inb x1 100 = true then
          (
          if inb x2 12 = true then
            (
            some ((.inr (S3.2.1 (E.2 (E.2 (E.2 (E.2 a0 5) 0) x1.toNatClampNeg) 1) x2.toNatClampNeg)), S3)
            )
          else none
          )
        else none
      ) else (
        some (.inl "java/util/NoSuchElementException", S3)
      )
      )
    else none
  )
set_option maxRecDepth 100000 in
theorem k_X11_stackSlot {l : Launch} (fu : Nat) {E : Ev} (hE : WE E) {a0 : Nat} (ha0 : E.1 a0 = some (0, 9, 0)) {x1 : Int32} {x2 : Int32} {S : St} {t : ((String ⊕ Int32) × St)} (h : sp_X11_stackSlot fu E S a0 x1 x2 = some t) : Ct l mX11_stackSlot [.ref a0, .int x1, .int x2] (hp E S) (PoXI E t) (PxX E t) := by
  refine Ct.of (by decide) rfl (Nat.le_of_ble_eq_true rfl) (fun X _ _ hQ => ?_)
  refine (?_ : K mX11_stackSlot X E 0 [(0, .ref a0), (1, .int x1), (2, .int x2)] [] S 0 0 (sp_X11_stackSlot fu E S a0 x1 x2) t) h
  unfold sp_X11_stackSlot
  refine K_aload_n dX11_stackSlot_0 rfl rfl ?_
  refine K_iload_n dX11_stackSlot_1 rfl rfl ?_
  refine K_bind (fun u1 hu1 => ?_)
  refine K_callXV (As := [.int x1]) (k_X11_requireFrame fu hE ha0 hu1) hQ rfl dX11_stackSlot_2 v_X11_310 ha0 rfl rfl rfl rfl (Nat.le_of_ble_eq_true rfl) ⟨Nat.le_of_ble_eq_true rfl, Nat.le_of_ble_eq_true rfl, Nat.le_of_ble_eq_true rfl, Nat.le_of_ble_eq_true rfl⟩ (fun q2 S3 => ?_)
  refine K_iload_n dX11_stackSlot_5 rfl rfl ?_
  refine K_if_lt (tgt := 25) dX11_stackSlot_6 (by decide) (fun c15 => ?_) (fun c15 => ?_)
  · exact K_throwN true tn_X11_315 hQ rfl dX11_stackSlot_25 dX11_stackSlot_28 dX11_stackSlot_29 dX11_stackSlot_32 dX11_stackSlot_35 (Nat.le_of_ble_eq_true rfl) (Nat.le_of_ble_eq_true rfl) (Nat.le_of_ble_eq_true rfl) (Nat.le_of_ble_eq_true rfl)
  · refine K_iload_n dX11_stackSlot_9 rfl rfl ?_
    refine K_aload_n dX11_stackSlot_10 rfl rfl ?_
    refine K_getC hE dX11_stackSlot_11 f_X11_47_9 ha0 rfl rfl (fun h4 => ?_)
    refine K_getC hE dX11_stackSlot_14 f_X11_285_3 h4 rfl rfl (fun h5 => ?_)
    refine K_iload_n dX11_stackSlot_17 rfl rfl ?_
    refine K_chk (fun h6 => ?_)
    refine K_qald hE dX11_stackSlot_18 h5 h6 (fun h7 => ?_)
    refine K_getI dX11_stackSlot_19 f_X11_216_2 h7 rfl ?_
    refine K_icmp_lt (tgt := 36) dX11_stackSlot_22 (by decide) (fun c14 => ?_) (fun c14 => ?_)
    · refine K_aload_n dX11_stackSlot_36 rfl rfl ?_
      refine K_getC hE dX11_stackSlot_37 f_X11_47_9 ha0 rfl rfl (fun h8 => ?_)
      refine K_getC hE dX11_stackSlot_40 f_X11_285_3 h8 rfl rfl (fun h9 => ?_)
      refine K_iload_n dX11_stackSlot_43 rfl rfl ?_
      refine K_chk (fun h10 => ?_)
      refine K_qald hE dX11_stackSlot_44 h9 h10 (fun h11 => ?_)
      refine K_getC hE dX11_stackSlot_45 f_X11_221_2 h11 rfl rfl (fun h12 => ?_)
      refine K_iload_n dX11_stackSlot_48 rfl rfl ?_
      refine K_chk (fun h13 => ?_)
      refine K_iald dX11_stackSlot_49 h12 h13 ?_
      exact K_xiret dX11_stackSlot_50 hQ rfl (Nat.le_of_ble_eq_true rfl) (Nat.le_of_ble_eq_true rfl)
    · exact K_throwN true tn_X11_315 hQ rfl dX11_stackSlot_25 dX11_stackSlot_28 dX11_stackSlot_29 dX11_stackSlot_32 dX11_stackSlot_35 (Nat.le_of_ble_eq_true rfl) (Nat.le_of_ble_eq_true rfl) (Nat.le_of_ble_eq_true rfl) (Nat.le_of_ble_eq_true rfl)
def sp_X11_localSlot (fu : Nat) (E : Ev) (S : St) (a0 : Nat) (x1 : Int32) (x2 : Int32) : Option ((String ⊕ Int32) × St) :=
  (sp_X11_requireFrame fu E S a0 x1).bind fun u1 => xb u1 fun q2 S3 =>
  if x2 < 0 then (
    some (.inl "java/util/NoSuchElementException", S3)
  ) else (
    if x2 < (S3.1 (E.2 a0 2) 3) then (
      if inb x1 100 = true then
        (
        if inb x2 12 = true then
          (
          some ((.inr (S3.2.1 (E.2 (E.2 (E.2 (E.2 a0 5) 0) x1.toNatClampNeg) 0) x2.toNatClampNeg)), S3)
          )
        else none
        )
      else none
    ) else (
      some (.inl "java/util/NoSuchElementException", S3)
    )
  )
set_option maxRecDepth 100000 in
theorem k_X11_localSlot {l : Launch} (fu : Nat) {E : Ev} (hE : WE E) {a0 : Nat} (ha0 : E.1 a0 = some (0, 9, 0)) {x1 : Int32} {x2 : Int32} {S : St} {t : ((String ⊕ Int32) × St)} (h : sp_X11_localSlot fu E S a0 x1 x2 = some t) : Ct l mX11_localSlot [.ref a0, .int x1, .int x2] (hp E S) (PoXI E t) (PxX E t) := by
  refine Ct.of (by decide) rfl (Nat.le_of_ble_eq_true rfl) (fun X _ _ hQ => ?_)
  refine (?_ : K mX11_localSlot X E 0 [(0, .ref a0), (1, .int x1), (2, .int x2)] [] S 0 0 (sp_X11_localSlot fu E S a0 x1 x2) t) h
  unfold sp_X11_localSlot
  refine K_aload_n dX11_localSlot_0 rfl rfl ?_
  refine K_iload_n dX11_localSlot_1 rfl rfl ?_
  refine K_bind (fun u1 hu1 => ?_)
  refine K_callXV (As := [.int x1]) (k_X11_requireFrame fu hE ha0 hu1) hQ rfl dX11_localSlot_2 v_X11_310 ha0 rfl rfl rfl rfl (Nat.le_of_ble_eq_true rfl) ⟨Nat.le_of_ble_eq_true rfl, Nat.le_of_ble_eq_true rfl, Nat.le_of_ble_eq_true rfl, Nat.le_of_ble_eq_true rfl⟩ (fun q2 S3 => ?_)
  refine K_iload_n dX11_localSlot_5 rfl rfl ?_
  refine K_if_lt (tgt := 20) dX11_localSlot_6 (by decide) (fun c12 => ?_) (fun c12 => ?_)
  · exact K_throwN true tn_X11_318 hQ rfl dX11_localSlot_20 dX11_localSlot_23 dX11_localSlot_24 dX11_localSlot_27 dX11_localSlot_30 (Nat.le_of_ble_eq_true rfl) (Nat.le_of_ble_eq_true rfl) (Nat.le_of_ble_eq_true rfl) (Nat.le_of_ble_eq_true rfl)
  · refine K_iload_n dX11_localSlot_9 rfl rfl ?_
    refine K_aload_n dX11_localSlot_10 rfl rfl ?_
    refine K_getC hE dX11_localSlot_11 f_X11_26_9 ha0 rfl rfl (fun h4 => ?_)
    refine K_getI dX11_localSlot_14 f_X11_230_0 h4 rfl ?_
    refine K_icmp_lt (tgt := 31) dX11_localSlot_17 (by decide) (fun c11 => ?_) (fun c11 => ?_)
    · refine K_aload_n dX11_localSlot_31 rfl rfl ?_
      refine K_getC hE dX11_localSlot_32 f_X11_47_9 ha0 rfl rfl (fun h5 => ?_)
      refine K_getC hE dX11_localSlot_35 f_X11_285_3 h5 rfl rfl (fun h6 => ?_)
      refine K_iload_n dX11_localSlot_38 rfl rfl ?_
      refine K_chk (fun h7 => ?_)
      refine K_qald hE dX11_localSlot_39 h6 h7 (fun h8 => ?_)
      refine K_getC hE dX11_localSlot_40 f_X11_213_2 h8 rfl rfl (fun h9 => ?_)
      refine K_iload_n dX11_localSlot_43 rfl rfl ?_
      refine K_chk (fun h10 => ?_)
      refine K_iald dX11_localSlot_44 h9 h10 ?_
      exact K_xiret dX11_localSlot_45 hQ rfl (Nat.le_of_ble_eq_true rfl) (Nat.le_of_ble_eq_true rfl)
    · exact K_throwN true tn_X11_318 hQ rfl dX11_localSlot_20 dX11_localSlot_23 dX11_localSlot_24 dX11_localSlot_27 dX11_localSlot_30 (Nat.le_of_ble_eq_true rfl) (Nat.le_of_ble_eq_true rfl) (Nat.le_of_ble_eq_true rfl) (Nat.le_of_ble_eq_true rfl)
