/-! the law's helpers -/
abbrev mL_declareClass : Mt := (yL_declareClass, cL_declareClass, 5, some .int, [(0, 10, 13, 13), (0, 10, 17, 15)], { frames := 7, cells := 1, slots := 6, locals := 106 })
abbrev mL_declareField : Mt := (yL_declareField, cL_declareField, 5, some .int, [(0, 10, 13, 13), (0, 10, 17, 15)], { frames := 7, cells := 1, slots := 6, locals := 106 })
abbrev mL_parameter : Mt := (yL_parameter, cL_parameter, 4, some .int, [(0, 9, 12, 13), (0, 9, 15, 15)], { frames := 7, cells := 1, slots := 6, locals := 105 })
abbrev mL_declareMethod : Mt := (yL_declareMethod, cL_declareMethod, 6, some .int, [(0, 12, 15, 13), (0, 12, 19, 15)], { frames := 7, cells := 1, slots := 6, locals := 107 })
abbrev mL_isAssignable : Mt := (yL_isAssignable, cL_isAssignable, 5, some .int, [(0, 17, 20, 13)], { frames := 8, cells := 1, slots := 6, locals := 128 })
abbrev mL_join : Mt := (yL_join, cL_join, 5, some .int, [(0, 10, 13, 13)], { frames := 8, cells := 1, slots := 6, locals := 128 })
abbrev mL_begin : Mt := (yL_begin, cL_begin, 6, some .int, [(0, 12, 15, 39), (0, 12, 19, 13)], { frames := 7, cells := 1, slots := 6, locals := 107 })
abbrev mL_emit : Mt := (yL_emit, cL_emit, 5, some .int, [(0, 10, 13, 13), (0, 10, 17, 15)], { frames := 7, cells := 1, slots := 6, locals := 106 })
abbrev mL_addHandler : Mt := (yL_addHandler, cL_addHandler, 7, some .int, [(0, 14, 17, 13), (0, 14, 21, 15)], { frames := 7, cells := 1, slots := 6, locals := 108 })
abbrev mL_pushLocal : Mt := (yL_pushLocal, cL_pushLocal, 4, some .int, [(0, 9, 12, 13), (0, 9, 15, 15)], { frames := 7, cells := 1, slots := 6, locals := 105 })
abbrev mL_pushStack : Mt := (yL_pushStack, cL_pushStack, 4, some .int, [(0, 9, 12, 13), (0, 9, 15, 15)], { frames := 7, cells := 1, slots := 6, locals := 105 })
abbrev mL_declareFrame : Mt := (yL_declareFrame, cL_declareFrame, 5, some .int, [(0, 10, 13, 39), (0, 10, 17, 13)], { frames := 7, cells := 1, slots := 6, locals := 106 })
abbrev mL_adoptFrames : Mt := (yL_adoptFrames, cL_adoptFrames, 3, some .int, [(0, 8, 11, 15)], { frames := 7, cells := 1, slots := 6, locals := 128 })
abbrev mL_infer : Mt := (yL_infer, cL_infer, 3, some .int, [(0, 8, 11, 15)], { frames := 8, cells := 1, slots := 6, locals := 189 })
abbrev mL_check : Mt := (yL_check, cL_check, 3, some .int, [(0, 8, 11, 15)], { frames := 8, cells := 1, slots := 6, locals := 189 })
abbrev mL_hasFrame : Mt := (yL_hasFrame, cL_hasFrame, 4, some .int, [(0, 16, 19, 39)], { frames := 8, cells := 1, slots := 6, locals := 126 })
abbrev mL_stackHeight : Mt := (yL_stackHeight, cL_stackHeight, 4, some .int, [(0, 9, 12, 39), (0, 9, 15, 15)], { frames := 9, cells := 2, slots := 12, locals := 147 })
abbrev mL_stackSlot : Mt := (yL_stackSlot, cL_stackSlot, 5, some .int, [(0, 10, 13, 39), (0, 10, 17, 15), (0, 10, 21, 77)], { frames := 9, cells := 3, slots := 18, locals := 148 })
abbrev mL_localSlot : Mt := (yL_localSlot, cL_localSlot, 5, some .int, [(0, 10, 13, 39), (0, 10, 17, 15), (0, 10, 21, 77)], { frames := 9, cells := 3, slots := 18, locals := 148 })
abbrev mL_isMarked : Mt := (yL_isMarked, cL_isMarked, 4, some .int, [(0, 16, 19, 39), (0, 16, 22, 15)], { frames := 9, cells := 2, slots := 12, locals := 147 })
theorem cl_X11_declareClass : CL mX11_declareClass 2 := ⟨rfl, gw (i := 554) (by decide +kernel) (by decide +kernel), gw (i := 111) (by decide +kernel) (by decide +kernel), by decide +kernel, by decide +kernel⟩
theorem v_L_7 : VL RL 7 mX11_declareClass 2 := ⟨cl_X11_declareClass, gw (i := 551) (by decide +kernel) (by decide +kernel), gw (i := 552) (by decide +kernel) (by decide +kernel), gw (i := 553) (by decide +kernel) (by decide +kernel)⟩
theorem cl_X11_declareField : CL mX11_declareField 2 := ⟨rfl, gw (i := 654) (by decide +kernel) (by decide +kernel), gw (i := 111) (by decide +kernel) (by decide +kernel), by decide +kernel, by decide +kernel⟩
theorem v_L_17 : VL RL 17 mX11_declareField 2 := ⟨cl_X11_declareField, gw (i := 651) (by decide +kernel) (by decide +kernel), gw (i := 652) (by decide +kernel) (by decide +kernel), gw (i := 653) (by decide +kernel) (by decide +kernel)⟩
theorem cl_X11_parameter : CL mX11_parameter 1 := ⟨rfl, gw (i := 671) (by decide +kernel) (by decide +kernel), gw (i := 111) (by decide +kernel) (by decide +kernel), by decide +kernel, by decide +kernel⟩
theorem v_L_21 : VL RL 21 mX11_parameter 1 := ⟨cl_X11_parameter, gw (i := 668) (by decide +kernel) (by decide +kernel), gw (i := 669) (by decide +kernel) (by decide +kernel), gw (i := 670) (by decide +kernel) (by decide +kernel)⟩
theorem cl_X11_declareMethod : CL mX11_declareMethod 3 := ⟨rfl, gw (i := 688) (by decide +kernel) (by decide +kernel), gw (i := 111) (by decide +kernel) (by decide +kernel), by decide +kernel, by decide +kernel⟩
theorem v_L_25 : VL RL 25 mX11_declareMethod 3 := ⟨cl_X11_declareMethod, gw (i := 685) (by decide +kernel) (by decide +kernel), gw (i := 686) (by decide +kernel) (by decide +kernel), gw (i := 687) (by decide +kernel) (by decide +kernel)⟩
theorem cl_X11_isAssignable : CL mX11_isAssignable 2 := ⟨rfl, gw (i := 717) (by decide +kernel) (by decide +kernel), gw (i := 111) (by decide +kernel) (by decide +kernel), by decide +kernel, by decide +kernel⟩
theorem v_L_29 : VL RL 29 mX11_isAssignable 2 := ⟨cl_X11_isAssignable, gw (i := 714) (by decide +kernel) (by decide +kernel), gw (i := 715) (by decide +kernel) (by decide +kernel), gw (i := 716) (by decide +kernel) (by decide +kernel)⟩
theorem cl_X11_join : CL mX11_join 2 := ⟨rfl, gw (i := 752) (by decide +kernel) (by decide +kernel), gw (i := 111) (by decide +kernel) (by decide +kernel), by decide +kernel, by decide +kernel⟩
theorem v_L_33 : VL RL 33 mX11_join 2 := ⟨cl_X11_join, gw (i := 749) (by decide +kernel) (by decide +kernel), gw (i := 750) (by decide +kernel) (by decide +kernel), gw (i := 751) (by decide +kernel) (by decide +kernel)⟩
theorem cl_X11_begin : CL mX11_begin 3 := ⟨rfl, gw (i := 773) (by decide +kernel) (by decide +kernel), gw (i := 111) (by decide +kernel) (by decide +kernel), by decide +kernel, by decide +kernel⟩
theorem v_L_36 : VL RL 36 mX11_begin 3 := ⟨cl_X11_begin, gw (i := 770) (by decide +kernel) (by decide +kernel), gw (i := 771) (by decide +kernel) (by decide +kernel), gw (i := 772) (by decide +kernel) (by decide +kernel)⟩
theorem cl_X11_emit : CL mX11_emit 2 := ⟨rfl, gw (i := 813) (by decide +kernel) (by decide +kernel), gw (i := 111) (by decide +kernel) (by decide +kernel), by decide +kernel, by decide +kernel⟩
theorem v_L_41 : VL RL 41 mX11_emit 2 := ⟨cl_X11_emit, gw (i := 810) (by decide +kernel) (by decide +kernel), gw (i := 811) (by decide +kernel) (by decide +kernel), gw (i := 812) (by decide +kernel) (by decide +kernel)⟩
theorem cl_X11_addHandler : CL mX11_addHandler 4 := ⟨rfl, gw (i := 826) (by decide +kernel) (by decide +kernel), gw (i := 111) (by decide +kernel) (by decide +kernel), by decide +kernel, by decide +kernel⟩
theorem v_L_44 : VL RL 44 mX11_addHandler 4 := ⟨cl_X11_addHandler, gw (i := 823) (by decide +kernel) (by decide +kernel), gw (i := 824) (by decide +kernel) (by decide +kernel), gw (i := 825) (by decide +kernel) (by decide +kernel)⟩
theorem cl_X11_pushLocal : CL mX11_pushLocal 1 := ⟨rfl, gw (i := 839) (by decide +kernel) (by decide +kernel), gw (i := 111) (by decide +kernel) (by decide +kernel), by decide +kernel, by decide +kernel⟩
theorem v_L_48 : VL RL 48 mX11_pushLocal 1 := ⟨cl_X11_pushLocal, gw (i := 836) (by decide +kernel) (by decide +kernel), gw (i := 837) (by decide +kernel) (by decide +kernel), gw (i := 838) (by decide +kernel) (by decide +kernel)⟩
theorem cl_X11_pushStack : CL mX11_pushStack 1 := ⟨rfl, gw (i := 847) (by decide +kernel) (by decide +kernel), gw (i := 111) (by decide +kernel) (by decide +kernel), by decide +kernel, by decide +kernel⟩
theorem v_L_51 : VL RL 51 mX11_pushStack 1 := ⟨cl_X11_pushStack, gw (i := 844) (by decide +kernel) (by decide +kernel), gw (i := 845) (by decide +kernel) (by decide +kernel), gw (i := 846) (by decide +kernel) (by decide +kernel)⟩
theorem cl_X11_declareFrame : CL mX11_declareFrame 2 := ⟨rfl, gw (i := 855) (by decide +kernel) (by decide +kernel), gw (i := 111) (by decide +kernel) (by decide +kernel), by decide +kernel, by decide +kernel⟩
theorem v_L_54 : VL RL 54 mX11_declareFrame 2 := ⟨cl_X11_declareFrame, gw (i := 852) (by decide +kernel) (by decide +kernel), gw (i := 853) (by decide +kernel) (by decide +kernel), gw (i := 854) (by decide +kernel) (by decide +kernel)⟩
theorem cl_X11_adoptFrames : CL mX11_adoptFrames 0 := ⟨rfl, gw (i := 887) (by decide +kernel) (by decide +kernel), gw (i := 111) (by decide +kernel) (by decide +kernel), by decide +kernel, by decide +kernel⟩
theorem v_L_57 : VL RL 57 mX11_adoptFrames 0 := ⟨cl_X11_adoptFrames, gw (i := 884) (by decide +kernel) (by decide +kernel), gw (i := 885) (by decide +kernel) (by decide +kernel), gw (i := 886) (by decide +kernel) (by decide +kernel)⟩
theorem cl_X11_infer : CL mX11_infer 0 := ⟨rfl, gw (i := 921) (by decide +kernel) (by decide +kernel), gw (i := 111) (by decide +kernel) (by decide +kernel), by decide +kernel, by decide +kernel⟩
theorem v_L_61 : VL RL 61 mX11_infer 0 := ⟨cl_X11_infer, gw (i := 918) (by decide +kernel) (by decide +kernel), gw (i := 919) (by decide +kernel) (by decide +kernel), gw (i := 920) (by decide +kernel) (by decide +kernel)⟩
theorem cl_X11_check : CL mX11_check 0 := ⟨rfl, gw (i := 1155) (by decide +kernel) (by decide +kernel), gw (i := 111) (by decide +kernel) (by decide +kernel), by decide +kernel, by decide +kernel⟩
theorem v_L_64 : VL RL 64 mX11_check 0 := ⟨cl_X11_check, gw (i := 1152) (by decide +kernel) (by decide +kernel), gw (i := 1153) (by decide +kernel) (by decide +kernel), gw (i := 1154) (by decide +kernel) (by decide +kernel)⟩
theorem cl_X11_hasFrame : CL mX11_hasFrame 1 := ⟨rfl, gw (i := 1181) (by decide +kernel) (by decide +kernel), gw (i := 111) (by decide +kernel) (by decide +kernel), by decide +kernel, by decide +kernel⟩
theorem v_L_67 : VL RL 67 mX11_hasFrame 1 := ⟨cl_X11_hasFrame, gw (i := 1178) (by decide +kernel) (by decide +kernel), gw (i := 1179) (by decide +kernel) (by decide +kernel), gw (i := 1180) (by decide +kernel) (by decide +kernel)⟩
theorem cl_X11_stackHeight : CL mX11_stackHeight 1 := ⟨rfl, gw (i := 1192) (by decide +kernel) (by decide +kernel), gw (i := 111) (by decide +kernel) (by decide +kernel), by decide +kernel, by decide +kernel⟩
theorem v_L_71 : VL RL 71 mX11_stackHeight 1 := ⟨cl_X11_stackHeight, gw (i := 1189) (by decide +kernel) (by decide +kernel), gw (i := 1190) (by decide +kernel) (by decide +kernel), gw (i := 1191) (by decide +kernel) (by decide +kernel)⟩
theorem cl_X11_stackSlot : CL mX11_stackSlot 2 := ⟨rfl, gw (i := 1205) (by decide +kernel) (by decide +kernel), gw (i := 111) (by decide +kernel) (by decide +kernel), by decide +kernel, by decide +kernel⟩
theorem v_L_74 : VL RL 74 mX11_stackSlot 2 := ⟨cl_X11_stackSlot, gw (i := 1202) (by decide +kernel) (by decide +kernel), gw (i := 1203) (by decide +kernel) (by decide +kernel), gw (i := 1204) (by decide +kernel) (by decide +kernel)⟩
theorem cl_X11_localSlot : CL mX11_localSlot 2 := ⟨rfl, gw (i := 1228) (by decide +kernel) (by decide +kernel), gw (i := 111) (by decide +kernel) (by decide +kernel), by decide +kernel, by decide +kernel⟩
theorem v_L_79 : VL RL 79 mX11_localSlot 2 := ⟨cl_X11_localSlot, gw (i := 1225) (by decide +kernel) (by decide +kernel), gw (i := 1226) (by decide +kernel) (by decide +kernel), gw (i := 1227) (by decide +kernel) (by decide +kernel)⟩
theorem cl_X11_isMarked : CL mX11_isMarked 1 := ⟨rfl, gw (i := 1236) (by decide +kernel) (by decide +kernel), gw (i := 111) (by decide +kernel) (by decide +kernel), by decide +kernel, by decide +kernel⟩
theorem v_L_82 : VL RL 82 mX11_isMarked 1 := ⟨cl_X11_isMarked, gw (i := 1233) (by decide +kernel) (by decide +kernel), gw (i := 1234) (by decide +kernel) (by decide +kernel), gw (i := 1235) (by decide +kernel) (by decide +kernel)⟩
def sp_L_declareClass (fu : Nat) (E : Ev) (S : St) (a0 : Nat) (x1 : Int32) (x2 : Int32) (a3 : Nat) : Option (Int32 × St) :=
  (sp_X11_declareClass fu E S a0 x1 x2).bind fun u1 => hcat u1 [("java/lang/IllegalArgumentException", 1), ("java/lang/IllegalStateException", 2)] fun r2 S3 =>
  bnd (sL S3 a3 ((0 : Int32).toNatClampNeg) r2.toInt64) fun S4 =>
  some (0, S4)
set_option maxRecDepth 100000 in
theorem k_L_declareClass {l : Launch} (fu : Nat) {E : Ev} (hE : WE E) {a0 : Nat} (ha0 : E.1 a0 = some (0, 9, 0)) {a3 : Nat} (ha3 : E.1 a3 = some (1, 2, 1)) {x1 : Int32} {x2 : Int32} {S : St} {t : (Int32 × St)} (h : sp_L_declareClass fu E S a0 x1 x2 a3 = some t) : Cn l mL_declareClass [.ref a0, .int x1, .int x2, .ref a3] (hp E S) (PoI E t) := by
  refine Cn.ofH (by decide) rfl (Nat.le_of_ble_eq_true rfl) (fun X _ _ hQ => ?_)
  refine (?_ : K mL_declareClass X E 0 [(0, .ref a0), (1, .int x1), (2, .int x2), (3, .ref a3)] [] S 0 0 (sp_L_declareClass fu E S a0 x1 x2 a3) t) h
  unfold sp_L_declareClass
  refine K_aload_n dL_declareClass_0 rfl rfl ?_
  refine K_iconst (v := 0) dL_declareClass_1 (by decide) ?_
  refine K_aload_n dL_declareClass_2 rfl rfl ?_
  refine K_iload_n dL_declareClass_3 rfl rfl ?_
  refine K_iload_n dL_declareClass_4 rfl rfl ?_
  refine K_bind (fun u1 hu1 => ?_)
  refine K_callH (As := [.int x1, .int x2]) (k_X11_declareClass fu hE ha0 hu1) dL_declareClass_5 v_L_7 ha0 rfl rfl rfl rfl (Nat.le_of_ble_eq_true rfl) ⟨Nat.le_of_ble_eq_true rfl, Nat.le_of_ble_eq_true rfl, Nat.le_of_ble_eq_true rfl, Nat.le_of_ble_eq_true rfl⟩ (List.forall_mem_cons.mpr ⟨?_, List.forall_mem_cons.mpr ⟨?_, fun _ h => absurd h List.not_mem_nil⟩⟩) (fun r2 S3 => ?_)
  · intro S1 e
    refine JX_catch (En := "java/lang/IllegalArgumentException") (name := "java/lang/IllegalArgumentException") [] ⟨0, 10, 13, 13⟩ [⟨0, 10, 17, 15⟩] rfl (fun _ h => absurd h List.not_mem_nil) (by decide) (by decide) (gw (i := 549) (by decide +kernel) (by decide +kernel)) (List.mem_filter.mpr ⟨List.mem_of_getElem? (i := 557) (by decide +kernel), rfl⟩) (fun q => ?_)
    refine J_astore (ls' := [(0, _), (1, _), (2, _), (3, _), (4, _)]) dL_declareClass_13 (by decide) rfl ?_
    refine J_iconst (v := 1) dL_declareClass_15 (by decide) ?_
    cases e
    exact J_iret dL_declareClass_16 hQ.R rfl rfl (Nat.le_of_ble_eq_true rfl) (Nat.le_of_ble_eq_true rfl) ⟨rfl, rfl⟩
  · intro S1 e
    refine JX_catch (En := "java/lang/IllegalStateException") (name := "java/lang/IllegalStateException") [⟨0, 10, 13, 13⟩] ⟨0, 10, 17, 15⟩ [] rfl (List.forall_mem_cons.mpr ⟨Or.inr ⟨by decide, "java/lang/IllegalArgumentException", (gw (i := 549) (by decide +kernel) (by decide +kernel)), by decide⟩, fun _ h => absurd h List.not_mem_nil⟩) (by decide) (by decide) (gw (i := 550) (by decide +kernel) (by decide +kernel)) (List.mem_filter.mpr ⟨List.mem_of_getElem? (i := 626) (by decide +kernel), rfl⟩) (fun q => ?_)
    refine J_astore (ls' := [(0, _), (1, _), (2, _), (3, _), (4, _)]) dL_declareClass_17 (by decide) rfl ?_
    refine J_iconst (v := 2) dL_declareClass_19 (by decide) ?_
    cases e
    exact J_iret dL_declareClass_20 hQ.R rfl rfl (Nat.le_of_ble_eq_true rfl) (Nat.le_of_ble_eq_true rfl) ⟨rfl, rfl⟩
  refine K_i2l dL_declareClass_8 ?_
  refine K_last dL_declareClass_9 ha3 (by decide) ?_
  refine K_nmS (fun S4 => ?_)
  refine K_goto (tgt := 21) dL_declareClass_10 (by decide) ?_
  refine K_iconst (v := 0) dL_declareClass_21 (by decide) ?_
  exact K_iret dL_declareClass_22 hQ.R rfl (Nat.le_of_ble_eq_true rfl) (Nat.le_of_ble_eq_true rfl)
def sp_L_declareField (fu : Nat) (E : Ev) (S : St) (a0 : Nat) (x1 : Int32) (x2 : Int32) (a3 : Nat) : Option (Int32 × St) :=
  (sp_X11_declareField fu E S a0 x1 x2).bind fun u1 => hcat u1 [("java/lang/IllegalArgumentException", 1), ("java/lang/IllegalStateException", 2)] fun r2 S3 =>
  bnd (sL S3 a3 ((0 : Int32).toNatClampNeg) r2.toInt64) fun S4 =>
  some (0, S4)
set_option maxRecDepth 100000 in
theorem k_L_declareField {l : Launch} (fu : Nat) {E : Ev} (hE : WE E) {a0 : Nat} (ha0 : E.1 a0 = some (0, 9, 0)) {a3 : Nat} (ha3 : E.1 a3 = some (1, 2, 1)) {x1 : Int32} {x2 : Int32} {S : St} {t : (Int32 × St)} (h : sp_L_declareField fu E S a0 x1 x2 a3 = some t) : Cn l mL_declareField [.ref a0, .int x1, .int x2, .ref a3] (hp E S) (PoI E t) := by
  refine Cn.ofH (by decide) rfl (Nat.le_of_ble_eq_true rfl) (fun X _ _ hQ => ?_)
  refine (?_ : K mL_declareField X E 0 [(0, .ref a0), (1, .int x1), (2, .int x2), (3, .ref a3)] [] S 0 0 (sp_L_declareField fu E S a0 x1 x2 a3) t) h
  unfold sp_L_declareField
  refine K_aload_n dL_declareField_0 rfl rfl ?_
  refine K_iconst (v := 0) dL_declareField_1 (by decide) ?_
  refine K_aload_n dL_declareField_2 rfl rfl ?_
  refine K_iload_n dL_declareField_3 rfl rfl ?_
  refine K_iload_n dL_declareField_4 rfl rfl ?_
  refine K_bind (fun u1 hu1 => ?_)
  refine K_callH (As := [.int x1, .int x2]) (k_X11_declareField fu hE ha0 hu1) dL_declareField_5 v_L_17 ha0 rfl rfl rfl rfl (Nat.le_of_ble_eq_true rfl) ⟨Nat.le_of_ble_eq_true rfl, Nat.le_of_ble_eq_true rfl, Nat.le_of_ble_eq_true rfl, Nat.le_of_ble_eq_true rfl⟩ (List.forall_mem_cons.mpr ⟨?_, List.forall_mem_cons.mpr ⟨?_, fun _ h => absurd h List.not_mem_nil⟩⟩) (fun r2 S3 => ?_)
  · intro S1 e
    refine JX_catch (En := "java/lang/IllegalArgumentException") (name := "java/lang/IllegalArgumentException") [] ⟨0, 10, 13, 13⟩ [⟨0, 10, 17, 15⟩] rfl (fun _ h => absurd h List.not_mem_nil) (by decide) (by decide) (gw (i := 549) (by decide +kernel) (by decide +kernel)) (List.mem_filter.mpr ⟨List.mem_of_getElem? (i := 557) (by decide +kernel), rfl⟩) (fun q => ?_)
    refine J_astore (ls' := [(0, _), (1, _), (2, _), (3, _), (4, _)]) dL_declareField_13 (by decide) rfl ?_
    refine J_iconst (v := 1) dL_declareField_15 (by decide) ?_
    cases e
    exact J_iret dL_declareField_16 hQ.R rfl rfl (Nat.le_of_ble_eq_true rfl) (Nat.le_of_ble_eq_true rfl) ⟨rfl, rfl⟩
  · intro S1 e
    refine JX_catch (En := "java/lang/IllegalStateException") (name := "java/lang/IllegalStateException") [⟨0, 10, 13, 13⟩] ⟨0, 10, 17, 15⟩ [] rfl (List.forall_mem_cons.mpr ⟨Or.inr ⟨by decide, "java/lang/IllegalArgumentException", (gw (i := 549) (by decide +kernel) (by decide +kernel)), by decide⟩, fun _ h => absurd h List.not_mem_nil⟩) (by decide) (by decide) (gw (i := 550) (by decide +kernel) (by decide +kernel)) (List.mem_filter.mpr ⟨List.mem_of_getElem? (i := 626) (by decide +kernel), rfl⟩) (fun q => ?_)
    refine J_astore (ls' := [(0, _), (1, _), (2, _), (3, _), (4, _)]) dL_declareField_17 (by decide) rfl ?_
    refine J_iconst (v := 2) dL_declareField_19 (by decide) ?_
    cases e
    exact J_iret dL_declareField_20 hQ.R rfl rfl (Nat.le_of_ble_eq_true rfl) (Nat.le_of_ble_eq_true rfl) ⟨rfl, rfl⟩
  refine K_i2l dL_declareField_8 ?_
  refine K_last dL_declareField_9 ha3 (by decide) ?_
  refine K_nmS (fun S4 => ?_)
  refine K_goto (tgt := 21) dL_declareField_10 (by decide) ?_
  refine K_iconst (v := 0) dL_declareField_21 (by decide) ?_
  exact K_iret dL_declareField_22 hQ.R rfl (Nat.le_of_ble_eq_true rfl) (Nat.le_of_ble_eq_true rfl)
def sp_L_parameter (fu : Nat) (E : Ev) (S : St) (a0 : Nat) (x1 : Int32) (a2 : Nat) : Option (Int32 × St) :=
  (sp_X11_parameter fu E S a0 x1).bind fun u1 => hcat u1 [("java/lang/IllegalArgumentException", 1), ("java/lang/IllegalStateException", 2)] fun r2 S3 =>
  bnd (sL S3 a2 ((0 : Int32).toNatClampNeg) r2.toInt64) fun S4 =>
  some (0, S4)
set_option maxRecDepth 100000 in
theorem k_L_parameter {l : Launch} (fu : Nat) {E : Ev} (hE : WE E) {a0 : Nat} (ha0 : E.1 a0 = some (0, 9, 0)) {a2 : Nat} (ha2 : E.1 a2 = some (1, 2, 1)) {x1 : Int32} {S : St} {t : (Int32 × St)} (h : sp_L_parameter fu E S a0 x1 a2 = some t) : Cn l mL_parameter [.ref a0, .int x1, .ref a2] (hp E S) (PoI E t) := by
  refine Cn.ofH (by decide) rfl (Nat.le_of_ble_eq_true rfl) (fun X _ _ hQ => ?_)
  refine (?_ : K mL_parameter X E 0 [(0, .ref a0), (1, .int x1), (2, .ref a2)] [] S 0 0 (sp_L_parameter fu E S a0 x1 a2) t) h
  unfold sp_L_parameter
  refine K_aload_n dL_parameter_0 rfl rfl ?_
  refine K_iconst (v := 0) dL_parameter_1 (by decide) ?_
  refine K_aload_n dL_parameter_2 rfl rfl ?_
  refine K_iload_n dL_parameter_3 rfl rfl ?_
  refine K_bind (fun u1 hu1 => ?_)
  refine K_callH (As := [.int x1]) (k_X11_parameter fu hE ha0 hu1) dL_parameter_4 v_L_21 ha0 rfl rfl rfl rfl (Nat.le_of_ble_eq_true rfl) ⟨Nat.le_of_ble_eq_true rfl, Nat.le_of_ble_eq_true rfl, Nat.le_of_ble_eq_true rfl, Nat.le_of_ble_eq_true rfl⟩ (List.forall_mem_cons.mpr ⟨?_, List.forall_mem_cons.mpr ⟨?_, fun _ h => absurd h List.not_mem_nil⟩⟩) (fun r2 S3 => ?_)
  · intro S1 e
    refine JX_catch (En := "java/lang/IllegalArgumentException") (name := "java/lang/IllegalArgumentException") [] ⟨0, 9, 12, 13⟩ [⟨0, 9, 15, 15⟩] rfl (fun _ h => absurd h List.not_mem_nil) (by decide) (by decide) (gw (i := 549) (by decide +kernel) (by decide +kernel)) (List.mem_filter.mpr ⟨List.mem_of_getElem? (i := 557) (by decide +kernel), rfl⟩) (fun q => ?_)
    refine J_astore_n (ls' := [(0, _), (1, _), (2, _), (3, _)]) dL_parameter_12 rfl (by decide) rfl ?_
    refine J_iconst (v := 1) dL_parameter_13 (by decide) ?_
    cases e
    exact J_iret dL_parameter_14 hQ.R rfl rfl (Nat.le_of_ble_eq_true rfl) (Nat.le_of_ble_eq_true rfl) ⟨rfl, rfl⟩
  · intro S1 e
    refine JX_catch (En := "java/lang/IllegalStateException") (name := "java/lang/IllegalStateException") [⟨0, 9, 12, 13⟩] ⟨0, 9, 15, 15⟩ [] rfl (List.forall_mem_cons.mpr ⟨Or.inr ⟨by decide, "java/lang/IllegalArgumentException", (gw (i := 549) (by decide +kernel) (by decide +kernel)), by decide⟩, fun _ h => absurd h List.not_mem_nil⟩) (by decide) (by decide) (gw (i := 550) (by decide +kernel) (by decide +kernel)) (List.mem_filter.mpr ⟨List.mem_of_getElem? (i := 626) (by decide +kernel), rfl⟩) (fun q => ?_)
    refine J_astore_n (ls' := [(0, _), (1, _), (2, _), (3, _)]) dL_parameter_15 rfl (by decide) rfl ?_
    refine J_iconst (v := 2) dL_parameter_16 (by decide) ?_
    cases e
    exact J_iret dL_parameter_17 hQ.R rfl rfl (Nat.le_of_ble_eq_true rfl) (Nat.le_of_ble_eq_true rfl) ⟨rfl, rfl⟩
  refine K_i2l dL_parameter_7 ?_
  refine K_last dL_parameter_8 ha2 (by decide) ?_
  refine K_nmS (fun S4 => ?_)
  refine K_goto (tgt := 18) dL_parameter_9 (by decide) ?_
  refine K_iconst (v := 0) dL_parameter_18 (by decide) ?_
  exact K_iret dL_parameter_19 hQ.R rfl (Nat.le_of_ble_eq_true rfl) (Nat.le_of_ble_eq_true rfl)
def sp_L_declareMethod (fu : Nat) (E : Ev) (S : St) (a0 : Nat) (x1 : Int32) (x2 : Int32) (x3 : Int32) (a4 : Nat) : Option (Int32 × St) :=
  (sp_X11_declareMethod fu E S a0 x1 x2 x3).bind fun u1 => hcat u1 [("java/lang/IllegalArgumentException", 1), ("java/lang/IllegalStateException", 2)] fun r2 S3 =>
  bnd (sL S3 a4 ((0 : Int32).toNatClampNeg) r2.toInt64) fun S4 =>
  some (0, S4)
set_option maxRecDepth 100000 in
theorem k_L_declareMethod {l : Launch} (fu : Nat) {E : Ev} (hE : WE E) {a0 : Nat} (ha0 : E.1 a0 = some (0, 9, 0)) {a4 : Nat} (ha4 : E.1 a4 = some (1, 2, 1)) {x1 : Int32} {x2 : Int32} {x3 : Int32} {S : St} {t : (Int32 × St)} (h : sp_L_declareMethod fu E S a0 x1 x2 x3 a4 = some t) : Cn l mL_declareMethod [.ref a0, .int x1, .int x2, .int x3, .ref a4] (hp E S) (PoI E t) := by
  refine Cn.ofH (by decide) rfl (Nat.le_of_ble_eq_true rfl) (fun X _ _ hQ => ?_)
  refine (?_ : K mL_declareMethod X E 0 [(0, .ref a0), (1, .int x1), (2, .int x2), (3, .int x3), (4, .ref a4)] [] S 0 0 (sp_L_declareMethod fu E S a0 x1 x2 x3 a4) t) h
  unfold sp_L_declareMethod
  refine K_aload dL_declareMethod_0 rfl ?_
  refine K_iconst (v := 0) dL_declareMethod_2 (by decide) ?_
  refine K_aload_n dL_declareMethod_3 rfl rfl ?_
  refine K_iload_n dL_declareMethod_4 rfl rfl ?_
  refine K_iload_n dL_declareMethod_5 rfl rfl ?_
  refine K_iload_n dL_declareMethod_6 rfl rfl ?_
  refine K_bind (fun u1 hu1 => ?_)
  refine K_callH (As := [.int x1, .int x2, .int x3]) (k_X11_declareMethod fu hE ha0 hu1) dL_declareMethod_7 v_L_25 ha0 rfl rfl rfl rfl (Nat.le_of_ble_eq_true rfl) ⟨Nat.le_of_ble_eq_true rfl, Nat.le_of_ble_eq_true rfl, Nat.le_of_ble_eq_true rfl, Nat.le_of_ble_eq_true rfl⟩ (List.forall_mem_cons.mpr ⟨?_, List.forall_mem_cons.mpr ⟨?_, fun _ h => absurd h List.not_mem_nil⟩⟩) (fun r2 S3 => ?_)
  · intro S1 e
    refine JX_catch (En := "java/lang/IllegalArgumentException") (name := "java/lang/IllegalArgumentException") [] ⟨0, 12, 15, 13⟩ [⟨0, 12, 19, 15⟩] rfl (fun _ h => absurd h List.not_mem_nil) (by decide) (by decide) (gw (i := 549) (by decide +kernel) (by decide +kernel)) (List.mem_filter.mpr ⟨List.mem_of_getElem? (i := 557) (by decide +kernel), rfl⟩) (fun q => ?_)
    refine J_astore (ls' := [(0, _), (1, _), (2, _), (3, _), (4, _), (5, _)]) dL_declareMethod_15 (by decide) rfl ?_
    refine J_iconst (v := 1) dL_declareMethod_17 (by decide) ?_
    cases e
    exact J_iret dL_declareMethod_18 hQ.R rfl rfl (Nat.le_of_ble_eq_true rfl) (Nat.le_of_ble_eq_true rfl) ⟨rfl, rfl⟩
  · intro S1 e
    refine JX_catch (En := "java/lang/IllegalStateException") (name := "java/lang/IllegalStateException") [⟨0, 12, 15, 13⟩] ⟨0, 12, 19, 15⟩ [] rfl (List.forall_mem_cons.mpr ⟨Or.inr ⟨by decide, "java/lang/IllegalArgumentException", (gw (i := 549) (by decide +kernel) (by decide +kernel)), by decide⟩, fun _ h => absurd h List.not_mem_nil⟩) (by decide) (by decide) (gw (i := 550) (by decide +kernel) (by decide +kernel)) (List.mem_filter.mpr ⟨List.mem_of_getElem? (i := 626) (by decide +kernel), rfl⟩) (fun q => ?_)
    refine J_astore (ls' := [(0, _), (1, _), (2, _), (3, _), (4, _), (5, _)]) dL_declareMethod_19 (by decide) rfl ?_
    refine J_iconst (v := 2) dL_declareMethod_21 (by decide) ?_
    cases e
    exact J_iret dL_declareMethod_22 hQ.R rfl rfl (Nat.le_of_ble_eq_true rfl) (Nat.le_of_ble_eq_true rfl) ⟨rfl, rfl⟩
  refine K_i2l dL_declareMethod_10 ?_
  refine K_last dL_declareMethod_11 ha4 (by decide) ?_
  refine K_nmS (fun S4 => ?_)
  refine K_goto (tgt := 23) dL_declareMethod_12 (by decide) ?_
  refine K_iconst (v := 0) dL_declareMethod_23 (by decide) ?_
  exact K_iret dL_declareMethod_24 hQ.R rfl (Nat.le_of_ble_eq_true rfl) (Nat.le_of_ble_eq_true rfl)
def sp_L_isAssignable (fu : Nat) (E : Ev) (S : St) (a0 : Nat) (x1 : Int32) (x2 : Int32) (a3 : Nat) : Option (Int32 × St) :=
  (sp_X11_isAssignable fu E S a0 x1 x2).bind fun u1 => hcat u1 [("java/lang/IllegalArgumentException", 1)] fun r2 S3 =>
  if r2 = 0 then (
    bnd (sL S3 a3 ((0 : Int32).toNatClampNeg) 0) fun S4 =>
    some (0, S4)
  ) else (
    bnd (sL S3 a3 ((0 : Int32).toNatClampNeg) 1) fun S5 =>
    some (0, S5)
  )
set_option maxRecDepth 100000 in
theorem k_L_isAssignable {l : Launch} (fu : Nat) {E : Ev} (hE : WE E) {a0 : Nat} (ha0 : E.1 a0 = some (0, 9, 0)) {a3 : Nat} (ha3 : E.1 a3 = some (1, 2, 1)) {x1 : Int32} {x2 : Int32} {S : St} {t : (Int32 × St)} (h : sp_L_isAssignable fu E S a0 x1 x2 a3 = some t) : Cn l mL_isAssignable [.ref a0, .int x1, .int x2, .ref a3] (hp E S) (PoI E t) := by
  refine Cn.ofH (by decide) rfl (Nat.le_of_ble_eq_true rfl) (fun X _ _ hQ => ?_)
  refine (?_ : K mL_isAssignable X E 0 [(0, .ref a0), (1, .int x1), (2, .int x2), (3, .ref a3)] [] S 0 0 (sp_L_isAssignable fu E S a0 x1 x2 a3) t) h
  unfold sp_L_isAssignable
  refine K_aload_n dL_isAssignable_0 rfl rfl ?_
  refine K_iconst (v := 0) dL_isAssignable_1 (by decide) ?_
  refine K_aload_n dL_isAssignable_2 rfl rfl ?_
  refine K_iload_n dL_isAssignable_3 rfl rfl ?_
  refine K_iload_n dL_isAssignable_4 rfl rfl ?_
  refine K_bind (fun u1 hu1 => ?_)
  refine K_callH (As := [.int x1, .int x2]) (k_X11_isAssignable fu hE ha0 hu1) dL_isAssignable_5 v_L_29 ha0 rfl rfl rfl rfl (Nat.le_of_ble_eq_true rfl) ⟨Nat.le_of_ble_eq_true rfl, Nat.le_of_ble_eq_true rfl, Nat.le_of_ble_eq_true rfl, Nat.le_of_ble_eq_true rfl⟩ (List.forall_mem_cons.mpr ⟨?_, fun _ h => absurd h List.not_mem_nil⟩) (fun r2 S3 => ?_)
  · intro S1 e
    refine JX_catch (En := "java/lang/IllegalArgumentException") (name := "java/lang/IllegalArgumentException") [] ⟨0, 17, 20, 13⟩ [] rfl (fun _ h => absurd h List.not_mem_nil) (by decide) (by decide) (gw (i := 549) (by decide +kernel) (by decide +kernel)) (List.mem_filter.mpr ⟨List.mem_of_getElem? (i := 557) (by decide +kernel), rfl⟩) (fun q => ?_)
    refine J_astore (ls' := [(0, _), (1, _), (2, _), (3, _), (4, _)]) dL_isAssignable_20 (by decide) rfl ?_
    refine J_iconst (v := 1) dL_isAssignable_22 (by decide) ?_
    cases e
    exact J_iret dL_isAssignable_23 hQ.R rfl rfl (Nat.le_of_ble_eq_true rfl) (Nat.le_of_ble_eq_true rfl) ⟨rfl, rfl⟩
  refine K_if_eq (tgt := 15) dL_isAssignable_8 (by decide) (fun c6 => ?_) (fun c6 => ?_)
  · refine K_lconst (v := 0) dL_isAssignable_15 rfl ?_
    refine K_last dL_isAssignable_16 ha3 (by decide) ?_
    refine K_nmS (fun S4 => ?_)
    refine K_goto (tgt := 24) dL_isAssignable_17 (by decide) ?_
    refine K_iconst (v := 0) dL_isAssignable_24 (by decide) ?_
    exact K_iret dL_isAssignable_25 hQ.R rfl (Nat.le_of_ble_eq_true rfl) (Nat.le_of_ble_eq_true rfl)
  · refine K_lconst (v := 1) dL_isAssignable_11 rfl ?_
    refine K_goto (tgt := 16) dL_isAssignable_12 (by decide) ?_
    refine K_last dL_isAssignable_16 ha3 (by decide) ?_
    refine K_nmS (fun S5 => ?_)
    refine K_goto (tgt := 24) dL_isAssignable_17 (by decide) ?_
    refine K_iconst (v := 0) dL_isAssignable_24 (by decide) ?_
    exact K_iret dL_isAssignable_25 hQ.R rfl (Nat.le_of_ble_eq_true rfl) (Nat.le_of_ble_eq_true rfl)
def sp_L_join (fu : Nat) (E : Ev) (S : St) (a0 : Nat) (x1 : Int32) (x2 : Int32) (a3 : Nat) : Option (Int32 × St) :=
  (sp_X11_join fu E S a0 x1 x2).bind fun u1 => hcat u1 [("java/lang/IllegalArgumentException", 1)] fun r2 S3 =>
  bnd (sL S3 a3 ((0 : Int32).toNatClampNeg) r2.toInt64) fun S4 =>
  some (0, S4)
set_option maxRecDepth 100000 in
theorem k_L_join {l : Launch} (fu : Nat) {E : Ev} (hE : WE E) {a0 : Nat} (ha0 : E.1 a0 = some (0, 9, 0)) {a3 : Nat} (ha3 : E.1 a3 = some (1, 2, 1)) {x1 : Int32} {x2 : Int32} {S : St} {t : (Int32 × St)} (h : sp_L_join fu E S a0 x1 x2 a3 = some t) : Cn l mL_join [.ref a0, .int x1, .int x2, .ref a3] (hp E S) (PoI E t) := by
  refine Cn.ofH (by decide) rfl (Nat.le_of_ble_eq_true rfl) (fun X _ _ hQ => ?_)
  refine (?_ : K mL_join X E 0 [(0, .ref a0), (1, .int x1), (2, .int x2), (3, .ref a3)] [] S 0 0 (sp_L_join fu E S a0 x1 x2 a3) t) h
  unfold sp_L_join
  refine K_aload_n dL_join_0 rfl rfl ?_
  refine K_iconst (v := 0) dL_join_1 (by decide) ?_
  refine K_aload_n dL_join_2 rfl rfl ?_
  refine K_iload_n dL_join_3 rfl rfl ?_
  refine K_iload_n dL_join_4 rfl rfl ?_
  refine K_bind (fun u1 hu1 => ?_)
  refine K_callH (As := [.int x1, .int x2]) (k_X11_join fu hE ha0 hu1) dL_join_5 v_L_33 ha0 rfl rfl rfl rfl (Nat.le_of_ble_eq_true rfl) ⟨Nat.le_of_ble_eq_true rfl, Nat.le_of_ble_eq_true rfl, Nat.le_of_ble_eq_true rfl, Nat.le_of_ble_eq_true rfl⟩ (List.forall_mem_cons.mpr ⟨?_, fun _ h => absurd h List.not_mem_nil⟩) (fun r2 S3 => ?_)
  · intro S1 e
    refine JX_catch (En := "java/lang/IllegalArgumentException") (name := "java/lang/IllegalArgumentException") [] ⟨0, 10, 13, 13⟩ [] rfl (fun _ h => absurd h List.not_mem_nil) (by decide) (by decide) (gw (i := 549) (by decide +kernel) (by decide +kernel)) (List.mem_filter.mpr ⟨List.mem_of_getElem? (i := 557) (by decide +kernel), rfl⟩) (fun q => ?_)
    refine J_astore (ls' := [(0, _), (1, _), (2, _), (3, _), (4, _)]) dL_join_13 (by decide) rfl ?_
    refine J_iconst (v := 1) dL_join_15 (by decide) ?_
    cases e
    exact J_iret dL_join_16 hQ.R rfl rfl (Nat.le_of_ble_eq_true rfl) (Nat.le_of_ble_eq_true rfl) ⟨rfl, rfl⟩
  refine K_i2l dL_join_8 ?_
  refine K_last dL_join_9 ha3 (by decide) ?_
  refine K_nmS (fun S4 => ?_)
  refine K_goto (tgt := 17) dL_join_10 (by decide) ?_
  refine K_iconst (v := 0) dL_join_17 (by decide) ?_
  exact K_iret dL_join_18 hQ.R rfl (Nat.le_of_ble_eq_true rfl) (Nat.le_of_ble_eq_true rfl)
def sp_L_begin (fu : Nat) (E : Ev) (S : St) (a0 : Nat) (x1 : Int32) (x2 : Int32) (x3 : Int32) (a4 : Nat) : Option (Int32 × St) :=
  (sp_X11_begin fu E S a0 x1 x2 x3).bind fun u1 => hcat u1 [("java/lang/IndexOutOfBoundsException", 1), ("java/lang/IllegalArgumentException", 2)] fun r2 S3 =>
  bnd (sL S3 a4 ((0 : Int32).toNatClampNeg) r2.toInt64) fun S4 =>
  some (0, S4)
set_option maxRecDepth 100000 in
theorem k_L_begin {l : Launch} (fu : Nat) {E : Ev} (hE : WE E) {a0 : Nat} (ha0 : E.1 a0 = some (0, 9, 0)) {a4 : Nat} (ha4 : E.1 a4 = some (1, 2, 1)) {x1 : Int32} {x2 : Int32} {x3 : Int32} {S : St} {t : (Int32 × St)} (h : sp_L_begin fu E S a0 x1 x2 x3 a4 = some t) : Cn l mL_begin [.ref a0, .int x1, .int x2, .int x3, .ref a4] (hp E S) (PoI E t) := by
  refine Cn.ofH (by decide) rfl (Nat.le_of_ble_eq_true rfl) (fun X _ _ hQ => ?_)
  refine (?_ : K mL_begin X E 0 [(0, .ref a0), (1, .int x1), (2, .int x2), (3, .int x3), (4, .ref a4)] [] S 0 0 (sp_L_begin fu E S a0 x1 x2 x3 a4) t) h
  unfold sp_L_begin
  refine K_aload dL_begin_0 rfl ?_
  refine K_iconst (v := 0) dL_begin_2 (by decide) ?_
  refine K_aload_n dL_begin_3 rfl rfl ?_
  refine K_iload_n dL_begin_4 rfl rfl ?_
  refine K_iload_n dL_begin_5 rfl rfl ?_
  refine K_iload_n dL_begin_6 rfl rfl ?_
  refine K_bind (fun u1 hu1 => ?_)
  refine K_callH (As := [.int x1, .int x2, .int x3]) (k_X11_begin fu hE ha0 hu1) dL_begin_7 v_L_36 ha0 rfl rfl rfl rfl (Nat.le_of_ble_eq_true rfl) ⟨Nat.le_of_ble_eq_true rfl, Nat.le_of_ble_eq_true rfl, Nat.le_of_ble_eq_true rfl, Nat.le_of_ble_eq_true rfl⟩ (List.forall_mem_cons.mpr ⟨?_, List.forall_mem_cons.mpr ⟨?_, fun _ h => absurd h List.not_mem_nil⟩⟩) (fun r2 S3 => ?_)
  · intro S1 e
    refine JX_catch (En := "java/lang/IndexOutOfBoundsException") (name := "java/lang/IndexOutOfBoundsException") [] ⟨0, 12, 15, 39⟩ [⟨0, 12, 19, 13⟩] rfl (fun _ h => absurd h List.not_mem_nil) (by decide) (by decide) (gw (i := 769) (by decide +kernel) (by decide +kernel)) (List.mem_filter.mpr ⟨List.mem_of_getElem? (i := 776) (by decide +kernel), rfl⟩) (fun q => ?_)
    refine J_astore (ls' := [(0, _), (1, _), (2, _), (3, _), (4, _), (5, _)]) dL_begin_15 (by decide) rfl ?_
    refine J_iconst (v := 1) dL_begin_17 (by decide) ?_
    cases e
    exact J_iret dL_begin_18 hQ.R rfl rfl (Nat.le_of_ble_eq_true rfl) (Nat.le_of_ble_eq_true rfl) ⟨rfl, rfl⟩
  · intro S1 e
    refine JX_catch (En := "java/lang/IllegalArgumentException") (name := "java/lang/IllegalArgumentException") [⟨0, 12, 15, 39⟩] ⟨0, 12, 19, 13⟩ [] rfl (List.forall_mem_cons.mpr ⟨Or.inr ⟨by decide, "java/lang/IndexOutOfBoundsException", (gw (i := 769) (by decide +kernel) (by decide +kernel)), by decide⟩, fun _ h => absurd h List.not_mem_nil⟩) (by decide) (by decide) (gw (i := 549) (by decide +kernel) (by decide +kernel)) (List.mem_filter.mpr ⟨List.mem_of_getElem? (i := 557) (by decide +kernel), rfl⟩) (fun q => ?_)
    refine J_astore (ls' := [(0, _), (1, _), (2, _), (3, _), (4, _), (5, _)]) dL_begin_19 (by decide) rfl ?_
    refine J_iconst (v := 2) dL_begin_21 (by decide) ?_
    cases e
    exact J_iret dL_begin_22 hQ.R rfl rfl (Nat.le_of_ble_eq_true rfl) (Nat.le_of_ble_eq_true rfl) ⟨rfl, rfl⟩
  refine K_i2l dL_begin_10 ?_
  refine K_last dL_begin_11 ha4 (by decide) ?_
  refine K_nmS (fun S4 => ?_)
  refine K_goto (tgt := 23) dL_begin_12 (by decide) ?_
  refine K_iconst (v := 0) dL_begin_23 (by decide) ?_
  exact K_iret dL_begin_24 hQ.R rfl (Nat.le_of_ble_eq_true rfl) (Nat.le_of_ble_eq_true rfl)
def sp_L_emit (fu : Nat) (E : Ev) (S : St) (a0 : Nat) (x1 : Int32) (x2 : Int32) (a3 : Nat) : Option (Int32 × St) :=
  (sp_X11_emit fu E S a0 x1 x2).bind fun u1 => hcat u1 [("java/lang/IllegalArgumentException", 1), ("java/lang/IllegalStateException", 2)] fun r2 S3 =>
  bnd (sL S3 a3 ((0 : Int32).toNatClampNeg) r2.toInt64) fun S4 =>
  some (0, S4)
set_option maxRecDepth 100000 in
theorem k_L_emit {l : Launch} (fu : Nat) {E : Ev} (hE : WE E) {a0 : Nat} (ha0 : E.1 a0 = some (0, 9, 0)) {a3 : Nat} (ha3 : E.1 a3 = some (1, 2, 1)) {x1 : Int32} {x2 : Int32} {S : St} {t : (Int32 × St)} (h : sp_L_emit fu E S a0 x1 x2 a3 = some t) : Cn l mL_emit [.ref a0, .int x1, .int x2, .ref a3] (hp E S) (PoI E t) := by
  refine Cn.ofH (by decide) rfl (Nat.le_of_ble_eq_true rfl) (fun X _ _ hQ => ?_)
  refine (?_ : K mL_emit X E 0 [(0, .ref a0), (1, .int x1), (2, .int x2), (3, .ref a3)] [] S 0 0 (sp_L_emit fu E S a0 x1 x2 a3) t) h
  unfold sp_L_emit
  refine K_aload_n dL_emit_0 rfl rfl ?_
  refine K_iconst (v := 0) dL_emit_1 (by decide) ?_
  refine K_aload_n dL_emit_2 rfl rfl ?_
  refine K_iload_n dL_emit_3 rfl rfl ?_
  refine K_iload_n dL_emit_4 rfl rfl ?_
  refine K_bind (fun u1 hu1 => ?_)
  refine K_callH (As := [.int x1, .int x2]) (k_X11_emit fu hE ha0 hu1) dL_emit_5 v_L_41 ha0 rfl rfl rfl rfl (Nat.le_of_ble_eq_true rfl) ⟨Nat.le_of_ble_eq_true rfl, Nat.le_of_ble_eq_true rfl, Nat.le_of_ble_eq_true rfl, Nat.le_of_ble_eq_true rfl⟩ (List.forall_mem_cons.mpr ⟨?_, List.forall_mem_cons.mpr ⟨?_, fun _ h => absurd h List.not_mem_nil⟩⟩) (fun r2 S3 => ?_)
  · intro S1 e
    refine JX_catch (En := "java/lang/IllegalArgumentException") (name := "java/lang/IllegalArgumentException") [] ⟨0, 10, 13, 13⟩ [⟨0, 10, 17, 15⟩] rfl (fun _ h => absurd h List.not_mem_nil) (by decide) (by decide) (gw (i := 549) (by decide +kernel) (by decide +kernel)) (List.mem_filter.mpr ⟨List.mem_of_getElem? (i := 557) (by decide +kernel), rfl⟩) (fun q => ?_)
    refine J_astore (ls' := [(0, _), (1, _), (2, _), (3, _), (4, _)]) dL_emit_13 (by decide) rfl ?_
    refine J_iconst (v := 1) dL_emit_15 (by decide) ?_
    cases e
    exact J_iret dL_emit_16 hQ.R rfl rfl (Nat.le_of_ble_eq_true rfl) (Nat.le_of_ble_eq_true rfl) ⟨rfl, rfl⟩
  · intro S1 e
    refine JX_catch (En := "java/lang/IllegalStateException") (name := "java/lang/IllegalStateException") [⟨0, 10, 13, 13⟩] ⟨0, 10, 17, 15⟩ [] rfl (List.forall_mem_cons.mpr ⟨Or.inr ⟨by decide, "java/lang/IllegalArgumentException", (gw (i := 549) (by decide +kernel) (by decide +kernel)), by decide⟩, fun _ h => absurd h List.not_mem_nil⟩) (by decide) (by decide) (gw (i := 550) (by decide +kernel) (by decide +kernel)) (List.mem_filter.mpr ⟨List.mem_of_getElem? (i := 626) (by decide +kernel), rfl⟩) (fun q => ?_)
    refine J_astore (ls' := [(0, _), (1, _), (2, _), (3, _), (4, _)]) dL_emit_17 (by decide) rfl ?_
    refine J_iconst (v := 2) dL_emit_19 (by decide) ?_
    cases e
    exact J_iret dL_emit_20 hQ.R rfl rfl (Nat.le_of_ble_eq_true rfl) (Nat.le_of_ble_eq_true rfl) ⟨rfl, rfl⟩
  refine K_i2l dL_emit_8 ?_
  refine K_last dL_emit_9 ha3 (by decide) ?_
  refine K_nmS (fun S4 => ?_)
  refine K_goto (tgt := 21) dL_emit_10 (by decide) ?_
  refine K_iconst (v := 0) dL_emit_21 (by decide) ?_
  exact K_iret dL_emit_22 hQ.R rfl (Nat.le_of_ble_eq_true rfl) (Nat.le_of_ble_eq_true rfl)
def sp_L_addHandler (fu : Nat) (E : Ev) (S : St) (a0 : Nat) (x1 : Int32) (x2 : Int32) (x3 : Int32) (x4 : Int32) (a5 : Nat) : Option (Int32 × St) :=
  (sp_X11_addHandler fu E S a0 x1 x2 x3 x4).bind fun u1 => hcat u1 [("java/lang/IllegalArgumentException", 1), ("java/lang/IllegalStateException", 2)] fun r2 S3 =>
  bnd (sL S3 a5 ((0 : Int32).toNatClampNeg) r2.toInt64) fun S4 =>
  some (0, S4)
set_option maxRecDepth 100000 in
theorem k_L_addHandler {l : Launch} (fu : Nat) {E : Ev} (hE : WE E) {a0 : Nat} (ha0 : E.1 a0 = some (0, 9, 0)) {a5 : Nat} (ha5 : E.1 a5 = some (1, 2, 1)) {x1 : Int32} {x2 : Int32} {x3 : Int32} {x4 : Int32} {S : St} {t : (Int32 × St)} (h : sp_L_addHandler fu E S a0 x1 x2 x3 x4 a5 = some t) : Cn l mL_addHandler [.ref a0, .int x1, .int x2, .int x3, .int x4, .ref a5] (hp E S) (PoI E t) := by
  refine Cn.ofH (by decide) rfl (Nat.le_of_ble_eq_true rfl) (fun X _ _ hQ => ?_)
  refine (?_ : K mL_addHandler X E 0 [(0, .ref a0), (1, .int x1), (2, .int x2), (3, .int x3), (4, .int x4), (5, .ref a5)] [] S 0 0 (sp_L_addHandler fu E S a0 x1 x2 x3 x4 a5) t) h
  unfold sp_L_addHandler
  refine K_aload dL_addHandler_0 rfl ?_
  refine K_iconst (v := 0) dL_addHandler_2 (by decide) ?_
  refine K_aload_n dL_addHandler_3 rfl rfl ?_
  refine K_iload_n dL_addHandler_4 rfl rfl ?_
  refine K_iload_n dL_addHandler_5 rfl rfl ?_
  refine K_iload_n dL_addHandler_6 rfl rfl ?_
  refine K_iload dL_addHandler_7 rfl ?_
  refine K_bind (fun u1 hu1 => ?_)
  refine K_callH (As := [.int x1, .int x2, .int x3, .int x4]) (k_X11_addHandler fu hE ha0 hu1) dL_addHandler_9 v_L_44 ha0 rfl rfl rfl rfl (Nat.le_of_ble_eq_true rfl) ⟨Nat.le_of_ble_eq_true rfl, Nat.le_of_ble_eq_true rfl, Nat.le_of_ble_eq_true rfl, Nat.le_of_ble_eq_true rfl⟩ (List.forall_mem_cons.mpr ⟨?_, List.forall_mem_cons.mpr ⟨?_, fun _ h => absurd h List.not_mem_nil⟩⟩) (fun r2 S3 => ?_)
  · intro S1 e
    refine JX_catch (En := "java/lang/IllegalArgumentException") (name := "java/lang/IllegalArgumentException") [] ⟨0, 14, 17, 13⟩ [⟨0, 14, 21, 15⟩] rfl (fun _ h => absurd h List.not_mem_nil) (by decide) (by decide) (gw (i := 549) (by decide +kernel) (by decide +kernel)) (List.mem_filter.mpr ⟨List.mem_of_getElem? (i := 557) (by decide +kernel), rfl⟩) (fun q => ?_)
    refine J_astore (ls' := [(0, _), (1, _), (2, _), (3, _), (4, _), (5, _), (6, _)]) dL_addHandler_17 (by decide) rfl ?_
    refine J_iconst (v := 1) dL_addHandler_19 (by decide) ?_
    cases e
    exact J_iret dL_addHandler_20 hQ.R rfl rfl (Nat.le_of_ble_eq_true rfl) (Nat.le_of_ble_eq_true rfl) ⟨rfl, rfl⟩
  · intro S1 e
    refine JX_catch (En := "java/lang/IllegalStateException") (name := "java/lang/IllegalStateException") [⟨0, 14, 17, 13⟩] ⟨0, 14, 21, 15⟩ [] rfl (List.forall_mem_cons.mpr ⟨Or.inr ⟨by decide, "java/lang/IllegalArgumentException", (gw (i := 549) (by decide +kernel) (by decide +kernel)), by decide⟩, fun _ h => absurd h List.not_mem_nil⟩) (by decide) (by decide) (gw (i := 550) (by decide +kernel) (by decide +kernel)) (List.mem_filter.mpr ⟨List.mem_of_getElem? (i := 626) (by decide +kernel), rfl⟩) (fun q => ?_)
    refine J_astore (ls' := [(0, _), (1, _), (2, _), (3, _), (4, _), (5, _), (6, _)]) dL_addHandler_21 (by decide) rfl ?_
    refine J_iconst (v := 2) dL_addHandler_23 (by decide) ?_
    cases e
    exact J_iret dL_addHandler_24 hQ.R rfl rfl (Nat.le_of_ble_eq_true rfl) (Nat.le_of_ble_eq_true rfl) ⟨rfl, rfl⟩
  refine K_i2l dL_addHandler_12 ?_
  refine K_last dL_addHandler_13 ha5 (by decide) ?_
  refine K_nmS (fun S4 => ?_)
  refine K_goto (tgt := 25) dL_addHandler_14 (by decide) ?_
  refine K_iconst (v := 0) dL_addHandler_25 (by decide) ?_
  exact K_iret dL_addHandler_26 hQ.R rfl (Nat.le_of_ble_eq_true rfl) (Nat.le_of_ble_eq_true rfl)
def sp_L_pushLocal (fu : Nat) (E : Ev) (S : St) (a0 : Nat) (x1 : Int32) (a2 : Nat) : Option (Int32 × St) :=
  (sp_X11_pushLocal fu E S a0 x1).bind fun u1 => hcat u1 [("java/lang/IllegalArgumentException", 1), ("java/lang/IllegalStateException", 2)] fun r2 S3 =>
  bnd (sL S3 a2 ((0 : Int32).toNatClampNeg) r2.toInt64) fun S4 =>
  some (0, S4)
set_option maxRecDepth 100000 in
theorem k_L_pushLocal {l : Launch} (fu : Nat) {E : Ev} (hE : WE E) {a0 : Nat} (ha0 : E.1 a0 = some (0, 9, 0)) {a2 : Nat} (ha2 : E.1 a2 = some (1, 2, 1)) {x1 : Int32} {S : St} {t : (Int32 × St)} (h : sp_L_pushLocal fu E S a0 x1 a2 = some t) : Cn l mL_pushLocal [.ref a0, .int x1, .ref a2] (hp E S) (PoI E t) := by
  refine Cn.ofH (by decide) rfl (Nat.le_of_ble_eq_true rfl) (fun X _ _ hQ => ?_)
  refine (?_ : K mL_pushLocal X E 0 [(0, .ref a0), (1, .int x1), (2, .ref a2)] [] S 0 0 (sp_L_pushLocal fu E S a0 x1 a2) t) h
  unfold sp_L_pushLocal
  refine K_aload_n dL_pushLocal_0 rfl rfl ?_
  refine K_iconst (v := 0) dL_pushLocal_1 (by decide) ?_
  refine K_aload_n dL_pushLocal_2 rfl rfl ?_
  refine K_iload_n dL_pushLocal_3 rfl rfl ?_
  refine K_bind (fun u1 hu1 => ?_)
  refine K_callH (As := [.int x1]) (k_X11_pushLocal fu hE ha0 hu1) dL_pushLocal_4 v_L_48 ha0 rfl rfl rfl rfl (Nat.le_of_ble_eq_true rfl) ⟨Nat.le_of_ble_eq_true rfl, Nat.le_of_ble_eq_true rfl, Nat.le_of_ble_eq_true rfl, Nat.le_of_ble_eq_true rfl⟩ (List.forall_mem_cons.mpr ⟨?_, List.forall_mem_cons.mpr ⟨?_, fun _ h => absurd h List.not_mem_nil⟩⟩) (fun r2 S3 => ?_)
  · intro S1 e
    refine JX_catch (En := "java/lang/IllegalArgumentException") (name := "java/lang/IllegalArgumentException") [] ⟨0, 9, 12, 13⟩ [⟨0, 9, 15, 15⟩] rfl (fun _ h => absurd h List.not_mem_nil) (by decide) (by decide) (gw (i := 549) (by decide +kernel) (by decide +kernel)) (List.mem_filter.mpr ⟨List.mem_of_getElem? (i := 557) (by decide +kernel), rfl⟩) (fun q => ?_)
    refine J_astore_n (ls' := [(0, _), (1, _), (2, _), (3, _)]) dL_pushLocal_12 rfl (by decide) rfl ?_
    refine J_iconst (v := 1) dL_pushLocal_13 (by decide) ?_
    cases e
    exact J_iret dL_pushLocal_14 hQ.R rfl rfl (Nat.le_of_ble_eq_true rfl) (Nat.le_of_ble_eq_true rfl) ⟨rfl, rfl⟩
  · intro S1 e
    refine JX_catch (En := "java/lang/IllegalStateException") (name := "java/lang/IllegalStateException") [⟨0, 9, 12, 13⟩] ⟨0, 9, 15, 15⟩ [] rfl (List.forall_mem_cons.mpr ⟨Or.inr ⟨by decide, "java/lang/IllegalArgumentException", (gw (i := 549) (by decide +kernel) (by decide +kernel)), by decide⟩, fun _ h => absurd h List.not_mem_nil⟩) (by decide) (by decide) (gw (i := 550) (by decide +kernel) (by decide +kernel)) (List.mem_filter.mpr ⟨List.mem_of_getElem? (i := 626) (by decide +kernel), rfl⟩) (fun q => ?_)
    refine J_astore_n (ls' := [(0, _), (1, _), (2, _), (3, _)]) dL_pushLocal_15 rfl (by decide) rfl ?_
    refine J_iconst (v := 2) dL_pushLocal_16 (by decide) ?_
    cases e
    exact J_iret dL_pushLocal_17 hQ.R rfl rfl (Nat.le_of_ble_eq_true rfl) (Nat.le_of_ble_eq_true rfl) ⟨rfl, rfl⟩
  refine K_i2l dL_pushLocal_7 ?_
  refine K_last dL_pushLocal_8 ha2 (by decide) ?_
  refine K_nmS (fun S4 => ?_)
  refine K_goto (tgt := 18) dL_pushLocal_9 (by decide) ?_
  refine K_iconst (v := 0) dL_pushLocal_18 (by decide) ?_
  exact K_iret dL_pushLocal_19 hQ.R rfl (Nat.le_of_ble_eq_true rfl) (Nat.le_of_ble_eq_true rfl)
def sp_L_pushStack (fu : Nat) (E : Ev) (S : St) (a0 : Nat) (x1 : Int32) (a2 : Nat) : Option (Int32 × St) :=
  (sp_X11_pushStack fu E S a0 x1).bind fun u1 => hcat u1 [("java/lang/IllegalArgumentException", 1), ("java/lang/IllegalStateException", 2)] fun r2 S3 =>
  bnd (sL S3 a2 ((0 : Int32).toNatClampNeg) r2.toInt64) fun S4 =>
  some (0, S4)
set_option maxRecDepth 100000 in
theorem k_L_pushStack {l : Launch} (fu : Nat) {E : Ev} (hE : WE E) {a0 : Nat} (ha0 : E.1 a0 = some (0, 9, 0)) {a2 : Nat} (ha2 : E.1 a2 = some (1, 2, 1)) {x1 : Int32} {S : St} {t : (Int32 × St)} (h : sp_L_pushStack fu E S a0 x1 a2 = some t) : Cn l mL_pushStack [.ref a0, .int x1, .ref a2] (hp E S) (PoI E t) := by
  refine Cn.ofH (by decide) rfl (Nat.le_of_ble_eq_true rfl) (fun X _ _ hQ => ?_)
  refine (?_ : K mL_pushStack X E 0 [(0, .ref a0), (1, .int x1), (2, .ref a2)] [] S 0 0 (sp_L_pushStack fu E S a0 x1 a2) t) h
  unfold sp_L_pushStack
  refine K_aload_n dL_pushStack_0 rfl rfl ?_
  refine K_iconst (v := 0) dL_pushStack_1 (by decide) ?_
  refine K_aload_n dL_pushStack_2 rfl rfl ?_
  refine K_iload_n dL_pushStack_3 rfl rfl ?_
  refine K_bind (fun u1 hu1 => ?_)
  refine K_callH (As := [.int x1]) (k_X11_pushStack fu hE ha0 hu1) dL_pushStack_4 v_L_51 ha0 rfl rfl rfl rfl (Nat.le_of_ble_eq_true rfl) ⟨Nat.le_of_ble_eq_true rfl, Nat.le_of_ble_eq_true rfl, Nat.le_of_ble_eq_true rfl, Nat.le_of_ble_eq_true rfl⟩ (List.forall_mem_cons.mpr ⟨?_, List.forall_mem_cons.mpr ⟨?_, fun _ h => absurd h List.not_mem_nil⟩⟩) (fun r2 S3 => ?_)
  · intro S1 e
    refine JX_catch (En := "java/lang/IllegalArgumentException") (name := "java/lang/IllegalArgumentException") [] ⟨0, 9, 12, 13⟩ [⟨0, 9, 15, 15⟩] rfl (fun _ h => absurd h List.not_mem_nil) (by decide) (by decide) (gw (i := 549) (by decide +kernel) (by decide +kernel)) (List.mem_filter.mpr ⟨List.mem_of_getElem? (i := 557) (by decide +kernel), rfl⟩) (fun q => ?_)
    refine J_astore_n (ls' := [(0, _), (1, _), (2, _), (3, _)]) dL_pushStack_12 rfl (by decide) rfl ?_
    refine J_iconst (v := 1) dL_pushStack_13 (by decide) ?_
    cases e
    exact J_iret dL_pushStack_14 hQ.R rfl rfl (Nat.le_of_ble_eq_true rfl) (Nat.le_of_ble_eq_true rfl) ⟨rfl, rfl⟩
  · intro S1 e
    refine JX_catch (En := "java/lang/IllegalStateException") (name := "java/lang/IllegalStateException") [⟨0, 9, 12, 13⟩] ⟨0, 9, 15, 15⟩ [] rfl (List.forall_mem_cons.mpr ⟨Or.inr ⟨by decide, "java/lang/IllegalArgumentException", (gw (i := 549) (by decide +kernel) (by decide +kernel)), by decide⟩, fun _ h => absurd h List.not_mem_nil⟩) (by decide) (by decide) (gw (i := 550) (by decide +kernel) (by decide +kernel)) (List.mem_filter.mpr ⟨List.mem_of_getElem? (i := 626) (by decide +kernel), rfl⟩) (fun q => ?_)
    refine J_astore_n (ls' := [(0, _), (1, _), (2, _), (3, _)]) dL_pushStack_15 rfl (by decide) rfl ?_
    refine J_iconst (v := 2) dL_pushStack_16 (by decide) ?_
    cases e
    exact J_iret dL_pushStack_17 hQ.R rfl rfl (Nat.le_of_ble_eq_true rfl) (Nat.le_of_ble_eq_true rfl) ⟨rfl, rfl⟩
  refine K_i2l dL_pushStack_7 ?_
  refine K_last dL_pushStack_8 ha2 (by decide) ?_
  refine K_nmS (fun S4 => ?_)
  refine K_goto (tgt := 18) dL_pushStack_9 (by decide) ?_
  refine K_iconst (v := 0) dL_pushStack_18 (by decide) ?_
  exact K_iret dL_pushStack_19 hQ.R rfl (Nat.le_of_ble_eq_true rfl) (Nat.le_of_ble_eq_true rfl)
def sp_L_declareFrame (fu : Nat) (E : Ev) (S : St) (a0 : Nat) (x1 : Int32) (x2 : Int32) (a3 : Nat) : Option (Int32 × St) :=
  (sp_X11_declareFrame fu E S a0 x1 x2).bind fun u1 => hcat u1 [("java/lang/IndexOutOfBoundsException", 1), ("java/lang/IllegalArgumentException", 2)] fun r2 S3 =>
  bnd (sL S3 a3 ((0 : Int32).toNatClampNeg) r2.toInt64) fun S4 =>
  some (0, S4)
set_option maxRecDepth 100000 in
theorem k_L_declareFrame {l : Launch} (fu : Nat) {E : Ev} (hE : WE E) {a0 : Nat} (ha0 : E.1 a0 = some (0, 9, 0)) {a3 : Nat} (ha3 : E.1 a3 = some (1, 2, 1)) {x1 : Int32} {x2 : Int32} {S : St} {t : (Int32 × St)} (h : sp_L_declareFrame fu E S a0 x1 x2 a3 = some t) : Cn l mL_declareFrame [.ref a0, .int x1, .int x2, .ref a3] (hp E S) (PoI E t) := by
  refine Cn.ofH (by decide) rfl (Nat.le_of_ble_eq_true rfl) (fun X _ _ hQ => ?_)
  refine (?_ : K mL_declareFrame X E 0 [(0, .ref a0), (1, .int x1), (2, .int x2), (3, .ref a3)] [] S 0 0 (sp_L_declareFrame fu E S a0 x1 x2 a3) t) h
  unfold sp_L_declareFrame
  refine K_aload_n dL_declareFrame_0 rfl rfl ?_
  refine K_iconst (v := 0) dL_declareFrame_1 (by decide) ?_
  refine K_aload_n dL_declareFrame_2 rfl rfl ?_
  refine K_iload_n dL_declareFrame_3 rfl rfl ?_
  refine K_iload_n dL_declareFrame_4 rfl rfl ?_
  refine K_bind (fun u1 hu1 => ?_)
  refine K_callH (As := [.int x1, .int x2]) (k_X11_declareFrame fu hE ha0 hu1) dL_declareFrame_5 v_L_54 ha0 rfl rfl rfl rfl (Nat.le_of_ble_eq_true rfl) ⟨Nat.le_of_ble_eq_true rfl, Nat.le_of_ble_eq_true rfl, Nat.le_of_ble_eq_true rfl, Nat.le_of_ble_eq_true rfl⟩ (List.forall_mem_cons.mpr ⟨?_, List.forall_mem_cons.mpr ⟨?_, fun _ h => absurd h List.not_mem_nil⟩⟩) (fun r2 S3 => ?_)
  · intro S1 e
    refine JX_catch (En := "java/lang/IndexOutOfBoundsException") (name := "java/lang/IndexOutOfBoundsException") [] ⟨0, 10, 13, 39⟩ [⟨0, 10, 17, 13⟩] rfl (fun _ h => absurd h List.not_mem_nil) (by decide) (by decide) (gw (i := 769) (by decide +kernel) (by decide +kernel)) (List.mem_filter.mpr ⟨List.mem_of_getElem? (i := 776) (by decide +kernel), rfl⟩) (fun q => ?_)
    refine J_astore (ls' := [(0, _), (1, _), (2, _), (3, _), (4, _)]) dL_declareFrame_13 (by decide) rfl ?_
    refine J_iconst (v := 1) dL_declareFrame_15 (by decide) ?_
    cases e
    exact J_iret dL_declareFrame_16 hQ.R rfl rfl (Nat.le_of_ble_eq_true rfl) (Nat.le_of_ble_eq_true rfl) ⟨rfl, rfl⟩
  · intro S1 e
    refine JX_catch (En := "java/lang/IllegalArgumentException") (name := "java/lang/IllegalArgumentException") [⟨0, 10, 13, 39⟩] ⟨0, 10, 17, 13⟩ [] rfl (List.forall_mem_cons.mpr ⟨Or.inr ⟨by decide, "java/lang/IndexOutOfBoundsException", (gw (i := 769) (by decide +kernel) (by decide +kernel)), by decide⟩, fun _ h => absurd h List.not_mem_nil⟩) (by decide) (by decide) (gw (i := 549) (by decide +kernel) (by decide +kernel)) (List.mem_filter.mpr ⟨List.mem_of_getElem? (i := 557) (by decide +kernel), rfl⟩) (fun q => ?_)
    refine J_astore (ls' := [(0, _), (1, _), (2, _), (3, _), (4, _)]) dL_declareFrame_17 (by decide) rfl ?_
    refine J_iconst (v := 2) dL_declareFrame_19 (by decide) ?_
    cases e
    exact J_iret dL_declareFrame_20 hQ.R rfl rfl (Nat.le_of_ble_eq_true rfl) (Nat.le_of_ble_eq_true rfl) ⟨rfl, rfl⟩
  refine K_i2l dL_declareFrame_8 ?_
  refine K_last dL_declareFrame_9 ha3 (by decide) ?_
  refine K_nmS (fun S4 => ?_)
  refine K_goto (tgt := 21) dL_declareFrame_10 (by decide) ?_
  refine K_iconst (v := 0) dL_declareFrame_21 (by decide) ?_
  exact K_iret dL_declareFrame_22 hQ.R rfl (Nat.le_of_ble_eq_true rfl) (Nat.le_of_ble_eq_true rfl)
def sp_L_adoptFrames (fu : Nat) (E : Ev) (S : St) (a0 : Nat) (a1 : Nat) : Option (Int32 × St) :=
  (sp_X11_adoptFrames fu E S a0).bind fun u1 => hcat u1 [("java/lang/IllegalStateException", 1)] fun r2 S3 =>
  bnd (sL S3 a1 ((0 : Int32).toNatClampNeg) r2.toInt64) fun S4 =>
  some (0, S4)
set_option maxRecDepth 100000 in
theorem k_L_adoptFrames {l : Launch} (fu : Nat) {E : Ev} (hE : WE E) {a0 : Nat} (ha0 : E.1 a0 = some (0, 9, 0)) {a1 : Nat} (ha1 : E.1 a1 = some (1, 2, 1)) {S : St} {t : (Int32 × St)} (h : sp_L_adoptFrames fu E S a0 a1 = some t) : Cn l mL_adoptFrames [.ref a0, .ref a1] (hp E S) (PoI E t) := by
  refine Cn.ofH (by decide) rfl (Nat.le_of_ble_eq_true rfl) (fun X _ _ hQ => ?_)
  refine (?_ : K mL_adoptFrames X E 0 [(0, .ref a0), (1, .ref a1)] [] S 0 0 (sp_L_adoptFrames fu E S a0 a1) t) h
  unfold sp_L_adoptFrames
  refine K_aload_n dL_adoptFrames_0 rfl rfl ?_
  refine K_iconst (v := 0) dL_adoptFrames_1 (by decide) ?_
  refine K_aload_n dL_adoptFrames_2 rfl rfl ?_
  refine K_bind (fun u1 hu1 => ?_)
  refine K_callH (As := []) (k_X11_adoptFrames fu hE ha0 hu1) dL_adoptFrames_3 v_L_57 ha0 rfl rfl rfl rfl (Nat.le_of_ble_eq_true rfl) ⟨Nat.le_of_ble_eq_true rfl, Nat.le_of_ble_eq_true rfl, Nat.le_of_ble_eq_true rfl, Nat.le_of_ble_eq_true rfl⟩ (List.forall_mem_cons.mpr ⟨?_, fun _ h => absurd h List.not_mem_nil⟩) (fun r2 S3 => ?_)
  · intro S1 e
    refine JX_catch (En := "java/lang/IllegalStateException") (name := "java/lang/IllegalStateException") [] ⟨0, 8, 11, 15⟩ [] rfl (fun _ h => absurd h List.not_mem_nil) (by decide) (by decide) (gw (i := 550) (by decide +kernel) (by decide +kernel)) (List.mem_filter.mpr ⟨List.mem_of_getElem? (i := 626) (by decide +kernel), rfl⟩) (fun q => ?_)
    refine J_astore_n (ls' := [(0, _), (1, _), (2, _)]) dL_adoptFrames_11 rfl (by decide) rfl ?_
    refine J_iconst (v := 1) dL_adoptFrames_12 (by decide) ?_
    cases e
    exact J_iret dL_adoptFrames_13 hQ.R rfl rfl (Nat.le_of_ble_eq_true rfl) (Nat.le_of_ble_eq_true rfl) ⟨rfl, rfl⟩
  refine K_i2l dL_adoptFrames_6 ?_
  refine K_last dL_adoptFrames_7 ha1 (by decide) ?_
  refine K_nmS (fun S4 => ?_)
  refine K_goto (tgt := 14) dL_adoptFrames_8 (by decide) ?_
  refine K_iconst (v := 0) dL_adoptFrames_14 (by decide) ?_
  exact K_iret dL_adoptFrames_15 hQ.R rfl (Nat.le_of_ble_eq_true rfl) (Nat.le_of_ble_eq_true rfl)
def sp_L_infer (fu : Nat) (E : Ev) (S : St) (a0 : Nat) (a1 : Nat) : Option (Int32 × St) :=
  (sp_X11_infer fu E S a0).bind fun u1 => hcat u1 [("java/lang/IllegalStateException", 1)] fun r2 S3 =>
  bnd (sL S3 a1 ((0 : Int32).toNatClampNeg) r2.toInt64) fun S4 =>
  some (0, S4)
set_option maxRecDepth 100000 in
theorem k_L_infer {l : Launch} (fu : Nat) {E : Ev} (hE : WE E) {a0 : Nat} (ha0 : E.1 a0 = some (0, 9, 0)) {a1 : Nat} (ha1 : E.1 a1 = some (1, 2, 1)) {S : St} {t : (Int32 × St)} (h : sp_L_infer fu E S a0 a1 = some t) : Cn l mL_infer [.ref a0, .ref a1] (hp E S) (PoI E t) := by
  refine Cn.ofH (by decide) rfl (Nat.le_of_ble_eq_true rfl) (fun X _ _ hQ => ?_)
  refine (?_ : K mL_infer X E 0 [(0, .ref a0), (1, .ref a1)] [] S 0 0 (sp_L_infer fu E S a0 a1) t) h
  unfold sp_L_infer
  refine K_aload_n dL_infer_0 rfl rfl ?_
  refine K_iconst (v := 0) dL_infer_1 (by decide) ?_
  refine K_aload_n dL_infer_2 rfl rfl ?_
  refine K_bind (fun u1 hu1 => ?_)
  refine K_callH (As := []) (k_X11_infer fu hE ha0 hu1) dL_infer_3 v_L_61 ha0 rfl rfl rfl rfl (Nat.le_of_ble_eq_true rfl) ⟨Nat.le_of_ble_eq_true rfl, Nat.le_of_ble_eq_true rfl, Nat.le_of_ble_eq_true rfl, Nat.le_of_ble_eq_true rfl⟩ (List.forall_mem_cons.mpr ⟨?_, fun _ h => absurd h List.not_mem_nil⟩) (fun r2 S3 => ?_)
  · intro S1 e
    refine JX_catch (En := "java/lang/IllegalStateException") (name := "java/lang/IllegalStateException") [] ⟨0, 8, 11, 15⟩ [] rfl (fun _ h => absurd h List.not_mem_nil) (by decide) (by decide) (gw (i := 550) (by decide +kernel) (by decide +kernel)) (List.mem_filter.mpr ⟨List.mem_of_getElem? (i := 626) (by decide +kernel), rfl⟩) (fun q => ?_)
    refine J_astore_n (ls' := [(0, _), (1, _), (2, _)]) dL_infer_11 rfl (by decide) rfl ?_
    refine J_iconst (v := 1) dL_infer_12 (by decide) ?_
    cases e
    exact J_iret dL_infer_13 hQ.R rfl rfl (Nat.le_of_ble_eq_true rfl) (Nat.le_of_ble_eq_true rfl) ⟨rfl, rfl⟩
  refine K_i2l dL_infer_6 ?_
  refine K_last dL_infer_7 ha1 (by decide) ?_
  refine K_nmS (fun S4 => ?_)
  refine K_goto (tgt := 14) dL_infer_8 (by decide) ?_
  refine K_iconst (v := 0) dL_infer_14 (by decide) ?_
  exact K_iret dL_infer_15 hQ.R rfl (Nat.le_of_ble_eq_true rfl) (Nat.le_of_ble_eq_true rfl)
def sp_L_check (fu : Nat) (E : Ev) (S : St) (a0 : Nat) (a1 : Nat) : Option (Int32 × St) :=
  (sp_X11_check fu E S a0).bind fun u1 => hcat u1 [("java/lang/IllegalStateException", 1)] fun r2 S3 =>
  bnd (sL S3 a1 ((0 : Int32).toNatClampNeg) r2.toInt64) fun S4 =>
  some (0, S4)
set_option maxRecDepth 100000 in
theorem k_L_check {l : Launch} (fu : Nat) {E : Ev} (hE : WE E) {a0 : Nat} (ha0 : E.1 a0 = some (0, 9, 0)) {a1 : Nat} (ha1 : E.1 a1 = some (1, 2, 1)) {S : St} {t : (Int32 × St)} (h : sp_L_check fu E S a0 a1 = some t) : Cn l mL_check [.ref a0, .ref a1] (hp E S) (PoI E t) := by
  refine Cn.ofH (by decide) rfl (Nat.le_of_ble_eq_true rfl) (fun X _ _ hQ => ?_)
  refine (?_ : K mL_check X E 0 [(0, .ref a0), (1, .ref a1)] [] S 0 0 (sp_L_check fu E S a0 a1) t) h
  unfold sp_L_check
  refine K_aload_n dL_check_0 rfl rfl ?_
  refine K_iconst (v := 0) dL_check_1 (by decide) ?_
  refine K_aload_n dL_check_2 rfl rfl ?_
  refine K_bind (fun u1 hu1 => ?_)
  refine K_callH (As := []) (k_X11_check fu hE ha0 hu1) dL_check_3 v_L_64 ha0 rfl rfl rfl rfl (Nat.le_of_ble_eq_true rfl) ⟨Nat.le_of_ble_eq_true rfl, Nat.le_of_ble_eq_true rfl, Nat.le_of_ble_eq_true rfl, Nat.le_of_ble_eq_true rfl⟩ (List.forall_mem_cons.mpr ⟨?_, fun _ h => absurd h List.not_mem_nil⟩) (fun r2 S3 => ?_)
  · intro S1 e
    refine JX_catch (En := "java/lang/IllegalStateException") (name := "java/lang/IllegalStateException") [] ⟨0, 8, 11, 15⟩ [] rfl (fun _ h => absurd h List.not_mem_nil) (by decide) (by decide) (gw (i := 550) (by decide +kernel) (by decide +kernel)) (List.mem_filter.mpr ⟨List.mem_of_getElem? (i := 626) (by decide +kernel), rfl⟩) (fun q => ?_)
    refine J_astore_n (ls' := [(0, _), (1, _), (2, _)]) dL_check_11 rfl (by decide) rfl ?_
    refine J_iconst (v := 1) dL_check_12 (by decide) ?_
    cases e
    exact J_iret dL_check_13 hQ.R rfl rfl (Nat.le_of_ble_eq_true rfl) (Nat.le_of_ble_eq_true rfl) ⟨rfl, rfl⟩
  refine K_i2l dL_check_6 ?_
  refine K_last dL_check_7 ha1 (by decide) ?_
  refine K_nmS (fun S4 => ?_)
  refine K_goto (tgt := 14) dL_check_8 (by decide) ?_
  refine K_iconst (v := 0) dL_check_14 (by decide) ?_
  exact K_iret dL_check_15 hQ.R rfl (Nat.le_of_ble_eq_true rfl) (Nat.le_of_ble_eq_true rfl)
def sp_L_hasFrame (fu : Nat) (E : Ev) (S : St) (a0 : Nat) (x1 : Int32) (a2 : Nat) : Option (Int32 × St) :=
  (sp_X11_hasFrame fu E S a0 x1).bind fun u1 => hcat u1 [("java/lang/IndexOutOfBoundsException", 1)] fun r2 S3 =>
  if r2 = 0 then (
    bnd (sL S3 a2 ((0 : Int32).toNatClampNeg) 0) fun S4 =>
    some (0, S4)
  ) else (
    bnd (sL S3 a2 ((0 : Int32).toNatClampNeg) 1) fun S5 =>
    some (0, S5)
  )
set_option maxRecDepth 100000 in
theorem k_L_hasFrame {l : Launch} (fu : Nat) {E : Ev} (hE : WE E) {a0 : Nat} (ha0 : E.1 a0 = some (0, 9, 0)) {a2 : Nat} (ha2 : E.1 a2 = some (1, 2, 1)) {x1 : Int32} {S : St} {t : (Int32 × St)} (h : sp_L_hasFrame fu E S a0 x1 a2 = some t) : Cn l mL_hasFrame [.ref a0, .int x1, .ref a2] (hp E S) (PoI E t) := by
  refine Cn.ofH (by decide) rfl (Nat.le_of_ble_eq_true rfl) (fun X _ _ hQ => ?_)
  refine (?_ : K mL_hasFrame X E 0 [(0, .ref a0), (1, .int x1), (2, .ref a2)] [] S 0 0 (sp_L_hasFrame fu E S a0 x1 a2) t) h
  unfold sp_L_hasFrame
  refine K_aload_n dL_hasFrame_0 rfl rfl ?_
  refine K_iconst (v := 0) dL_hasFrame_1 (by decide) ?_
  refine K_aload_n dL_hasFrame_2 rfl rfl ?_
  refine K_iload_n dL_hasFrame_3 rfl rfl ?_
  refine K_bind (fun u1 hu1 => ?_)
  refine K_callH (As := [.int x1]) (k_X11_hasFrame fu hE ha0 hu1) dL_hasFrame_4 v_L_67 ha0 rfl rfl rfl rfl (Nat.le_of_ble_eq_true rfl) ⟨Nat.le_of_ble_eq_true rfl, Nat.le_of_ble_eq_true rfl, Nat.le_of_ble_eq_true rfl, Nat.le_of_ble_eq_true rfl⟩ (List.forall_mem_cons.mpr ⟨?_, fun _ h => absurd h List.not_mem_nil⟩) (fun r2 S3 => ?_)
  · intro S1 e
    refine JX_catch (En := "java/lang/IndexOutOfBoundsException") (name := "java/lang/IndexOutOfBoundsException") [] ⟨0, 16, 19, 39⟩ [] rfl (fun _ h => absurd h List.not_mem_nil) (by decide) (by decide) (gw (i := 769) (by decide +kernel) (by decide +kernel)) (List.mem_filter.mpr ⟨List.mem_of_getElem? (i := 776) (by decide +kernel), rfl⟩) (fun q => ?_)
    refine J_astore_n (ls' := [(0, _), (1, _), (2, _), (3, _)]) dL_hasFrame_19 rfl (by decide) rfl ?_
    refine J_iconst (v := 1) dL_hasFrame_20 (by decide) ?_
    cases e
    exact J_iret dL_hasFrame_21 hQ.R rfl rfl (Nat.le_of_ble_eq_true rfl) (Nat.le_of_ble_eq_true rfl) ⟨rfl, rfl⟩
  refine K_if_eq (tgt := 14) dL_hasFrame_7 (by decide) (fun c6 => ?_) (fun c6 => ?_)
  · refine K_lconst (v := 0) dL_hasFrame_14 rfl ?_
    refine K_last dL_hasFrame_15 ha2 (by decide) ?_
    refine K_nmS (fun S4 => ?_)
    refine K_goto (tgt := 22) dL_hasFrame_16 (by decide) ?_
    refine K_iconst (v := 0) dL_hasFrame_22 (by decide) ?_
    exact K_iret dL_hasFrame_23 hQ.R rfl (Nat.le_of_ble_eq_true rfl) (Nat.le_of_ble_eq_true rfl)
  · refine K_lconst (v := 1) dL_hasFrame_10 rfl ?_
    refine K_goto (tgt := 15) dL_hasFrame_11 (by decide) ?_
    refine K_last dL_hasFrame_15 ha2 (by decide) ?_
    refine K_nmS (fun S5 => ?_)
    refine K_goto (tgt := 22) dL_hasFrame_16 (by decide) ?_
    refine K_iconst (v := 0) dL_hasFrame_22 (by decide) ?_
    exact K_iret dL_hasFrame_23 hQ.R rfl (Nat.le_of_ble_eq_true rfl) (Nat.le_of_ble_eq_true rfl)
def sp_L_stackHeight (fu : Nat) (E : Ev) (S : St) (a0 : Nat) (x1 : Int32) (a2 : Nat) : Option (Int32 × St) :=
  (sp_X11_stackHeight fu E S a0 x1).bind fun u1 => hcat u1 [("java/lang/IndexOutOfBoundsException", 1), ("java/lang/IllegalStateException", 2)] fun r2 S3 =>
  bnd (sL S3 a2 ((0 : Int32).toNatClampNeg) r2.toInt64) fun S4 =>
  some (0, S4)
set_option maxRecDepth 100000 in
theorem k_L_stackHeight {l : Launch} (fu : Nat) {E : Ev} (hE : WE E) {a0 : Nat} (ha0 : E.1 a0 = some (0, 9, 0)) {a2 : Nat} (ha2 : E.1 a2 = some (1, 2, 1)) {x1 : Int32} {S : St} {t : (Int32 × St)} (h : sp_L_stackHeight fu E S a0 x1 a2 = some t) : Cn l mL_stackHeight [.ref a0, .int x1, .ref a2] (hp E S) (PoI E t) := by
  refine Cn.ofH (by decide) rfl (Nat.le_of_ble_eq_true rfl) (fun X _ _ hQ => ?_)
  refine (?_ : K mL_stackHeight X E 0 [(0, .ref a0), (1, .int x1), (2, .ref a2)] [] S 0 0 (sp_L_stackHeight fu E S a0 x1 a2) t) h
  unfold sp_L_stackHeight
  refine K_aload_n dL_stackHeight_0 rfl rfl ?_
  refine K_iconst (v := 0) dL_stackHeight_1 (by decide) ?_
  refine K_aload_n dL_stackHeight_2 rfl rfl ?_
  refine K_iload_n dL_stackHeight_3 rfl rfl ?_
  refine K_bind (fun u1 hu1 => ?_)
  refine K_callH (As := [.int x1]) (k_X11_stackHeight fu hE ha0 hu1) dL_stackHeight_4 v_L_71 ha0 rfl rfl rfl rfl (Nat.le_of_ble_eq_true rfl) ⟨Nat.le_of_ble_eq_true rfl, Nat.le_of_ble_eq_true rfl, Nat.le_of_ble_eq_true rfl, Nat.le_of_ble_eq_true rfl⟩ (List.forall_mem_cons.mpr ⟨?_, List.forall_mem_cons.mpr ⟨?_, fun _ h => absurd h List.not_mem_nil⟩⟩) (fun r2 S3 => ?_)
  · intro S1 e
    refine JX_catch (En := "java/lang/IndexOutOfBoundsException") (name := "java/lang/IndexOutOfBoundsException") [] ⟨0, 9, 12, 39⟩ [⟨0, 9, 15, 15⟩] rfl (fun _ h => absurd h List.not_mem_nil) (by decide) (by decide) (gw (i := 769) (by decide +kernel) (by decide +kernel)) (List.mem_filter.mpr ⟨List.mem_of_getElem? (i := 776) (by decide +kernel), rfl⟩) (fun q => ?_)
    refine J_astore_n (ls' := [(0, _), (1, _), (2, _), (3, _)]) dL_stackHeight_12 rfl (by decide) rfl ?_
    refine J_iconst (v := 1) dL_stackHeight_13 (by decide) ?_
    cases e
    exact J_iret dL_stackHeight_14 hQ.R rfl rfl (Nat.le_of_ble_eq_true rfl) (Nat.le_of_ble_eq_true rfl) ⟨rfl, rfl⟩
  · intro S1 e
    refine JX_catch (En := "java/lang/IllegalStateException") (name := "java/lang/IllegalStateException") [⟨0, 9, 12, 39⟩] ⟨0, 9, 15, 15⟩ [] rfl (List.forall_mem_cons.mpr ⟨Or.inr ⟨by decide, "java/lang/IndexOutOfBoundsException", (gw (i := 769) (by decide +kernel) (by decide +kernel)), by decide⟩, fun _ h => absurd h List.not_mem_nil⟩) (by decide) (by decide) (gw (i := 550) (by decide +kernel) (by decide +kernel)) (List.mem_filter.mpr ⟨List.mem_of_getElem? (i := 626) (by decide +kernel), rfl⟩) (fun q => ?_)
    refine J_astore_n (ls' := [(0, _), (1, _), (2, _), (3, _)]) dL_stackHeight_15 rfl (by decide) rfl ?_
    refine J_iconst (v := 2) dL_stackHeight_16 (by decide) ?_
    cases e
    exact J_iret dL_stackHeight_17 hQ.R rfl rfl (Nat.le_of_ble_eq_true rfl) (Nat.le_of_ble_eq_true rfl) ⟨rfl, rfl⟩
  refine K_i2l dL_stackHeight_7 ?_
  refine K_last dL_stackHeight_8 ha2 (by decide) ?_
  refine K_nmS (fun S4 => ?_)
  refine K_goto (tgt := 18) dL_stackHeight_9 (by decide) ?_
  refine K_iconst (v := 0) dL_stackHeight_18 (by decide) ?_
  exact K_iret dL_stackHeight_19 hQ.R rfl (Nat.le_of_ble_eq_true rfl) (Nat.le_of_ble_eq_true rfl)
def sp_L_stackSlot (fu : Nat) (E : Ev) (S : St) (a0 : Nat) (x1 : Int32) (x2 : Int32) (a3 : Nat) : Option (Int32 × St) :=
  (sp_X11_stackSlot fu E S a0 x1 x2).bind fun u1 => hcat u1 [("java/lang/IndexOutOfBoundsException", 1), ("java/lang/IllegalStateException", 2), ("java/util/NoSuchElementException", 3)] fun r2 S3 =>
  bnd (sL S3 a3 ((0 : Int32).toNatClampNeg) r2.toInt64) fun S4 =>
  some (0, S4)
set_option maxRecDepth 100000 in
theorem k_L_stackSlot {l : Launch} (fu : Nat) {E : Ev} (hE : WE E) {a0 : Nat} (ha0 : E.1 a0 = some (0, 9, 0)) {a3 : Nat} (ha3 : E.1 a3 = some (1, 2, 1)) {x1 : Int32} {x2 : Int32} {S : St} {t : (Int32 × St)} (h : sp_L_stackSlot fu E S a0 x1 x2 a3 = some t) : Cn l mL_stackSlot [.ref a0, .int x1, .int x2, .ref a3] (hp E S) (PoI E t) := by
  refine Cn.ofH (by decide) rfl (Nat.le_of_ble_eq_true rfl) (fun X _ _ hQ => ?_)
  refine (?_ : K mL_stackSlot X E 0 [(0, .ref a0), (1, .int x1), (2, .int x2), (3, .ref a3)] [] S 0 0 (sp_L_stackSlot fu E S a0 x1 x2 a3) t) h
  unfold sp_L_stackSlot
  refine K_aload_n dL_stackSlot_0 rfl rfl ?_
  refine K_iconst (v := 0) dL_stackSlot_1 (by decide) ?_
  refine K_aload_n dL_stackSlot_2 rfl rfl ?_
  refine K_iload_n dL_stackSlot_3 rfl rfl ?_
  refine K_iload_n dL_stackSlot_4 rfl rfl ?_
  refine K_bind (fun u1 hu1 => ?_)
  refine K_callH (As := [.int x1, .int x2]) (k_X11_stackSlot fu hE ha0 hu1) dL_stackSlot_5 v_L_74 ha0 rfl rfl rfl rfl (Nat.le_of_ble_eq_true rfl) ⟨Nat.le_of_ble_eq_true rfl, Nat.le_of_ble_eq_true rfl, Nat.le_of_ble_eq_true rfl, Nat.le_of_ble_eq_true rfl⟩ (List.forall_mem_cons.mpr ⟨?_, List.forall_mem_cons.mpr ⟨?_, List.forall_mem_cons.mpr ⟨?_, fun _ h => absurd h List.not_mem_nil⟩⟩⟩) (fun r2 S3 => ?_)
  · intro S1 e
    refine JX_catch (En := "java/lang/IndexOutOfBoundsException") (name := "java/lang/IndexOutOfBoundsException") [] ⟨0, 10, 13, 39⟩ [⟨0, 10, 17, 15⟩, ⟨0, 10, 21, 77⟩] rfl (fun _ h => absurd h List.not_mem_nil) (by decide) (by decide) (gw (i := 769) (by decide +kernel) (by decide +kernel)) (List.mem_filter.mpr ⟨List.mem_of_getElem? (i := 776) (by decide +kernel), rfl⟩) (fun q => ?_)
    refine J_astore (ls' := [(0, _), (1, _), (2, _), (3, _), (4, _)]) dL_stackSlot_13 (by decide) rfl ?_
    refine J_iconst (v := 1) dL_stackSlot_15 (by decide) ?_
    cases e
    exact J_iret dL_stackSlot_16 hQ.R rfl rfl (Nat.le_of_ble_eq_true rfl) (Nat.le_of_ble_eq_true rfl) ⟨rfl, rfl⟩
  · intro S1 e
    refine JX_catch (En := "java/lang/IllegalStateException") (name := "java/lang/IllegalStateException") [⟨0, 10, 13, 39⟩] ⟨0, 10, 17, 15⟩ [⟨0, 10, 21, 77⟩] rfl (List.forall_mem_cons.mpr ⟨Or.inr ⟨by decide, "java/lang/IndexOutOfBoundsException", (gw (i := 769) (by decide +kernel) (by decide +kernel)), by decide⟩, fun _ h => absurd h List.not_mem_nil⟩) (by decide) (by decide) (gw (i := 550) (by decide +kernel) (by decide +kernel)) (List.mem_filter.mpr ⟨List.mem_of_getElem? (i := 626) (by decide +kernel), rfl⟩) (fun q => ?_)
    refine J_astore (ls' := [(0, _), (1, _), (2, _), (3, _), (4, _)]) dL_stackSlot_17 (by decide) rfl ?_
    refine J_iconst (v := 2) dL_stackSlot_19 (by decide) ?_
    cases e
    exact J_iret dL_stackSlot_20 hQ.R rfl rfl (Nat.le_of_ble_eq_true rfl) (Nat.le_of_ble_eq_true rfl) ⟨rfl, rfl⟩
  · intro S1 e
    refine JX_catch (En := "java/util/NoSuchElementException") (name := "java/util/NoSuchElementException") [⟨0, 10, 13, 39⟩, ⟨0, 10, 17, 15⟩] ⟨0, 10, 21, 77⟩ [] rfl (List.forall_mem_cons.mpr ⟨Or.inr ⟨by decide, "java/lang/IndexOutOfBoundsException", (gw (i := 769) (by decide +kernel) (by decide +kernel)), by decide⟩, List.forall_mem_cons.mpr ⟨Or.inr ⟨by decide, "java/lang/IllegalStateException", (gw (i := 550) (by decide +kernel) (by decide +kernel)), by decide⟩, fun _ h => absurd h List.not_mem_nil⟩⟩) (by decide) (by decide) (gw (i := 1201) (by decide +kernel) (by decide +kernel)) (List.mem_filter.mpr ⟨List.mem_of_getElem? (i := 1204) (by decide +kernel), rfl⟩) (fun q => ?_)
    refine J_astore (ls' := [(0, _), (1, _), (2, _), (3, _), (4, _)]) dL_stackSlot_21 (by decide) rfl ?_
    refine J_iconst (v := 3) dL_stackSlot_23 (by decide) ?_
    cases e
    exact J_iret dL_stackSlot_24 hQ.R rfl rfl (Nat.le_of_ble_eq_true rfl) (Nat.le_of_ble_eq_true rfl) ⟨rfl, rfl⟩
  refine K_i2l dL_stackSlot_8 ?_
  refine K_last dL_stackSlot_9 ha3 (by decide) ?_
  refine K_nmS (fun S4 => ?_)
  refine K_goto (tgt := 25) dL_stackSlot_10 (by decide) ?_
  refine K_iconst (v := 0) dL_stackSlot_25 (by decide) ?_
  exact K_iret dL_stackSlot_26 hQ.R rfl (Nat.le_of_ble_eq_true rfl) (Nat.le_of_ble_eq_true rfl)
def sp_L_localSlot (fu : Nat) (E : Ev) (S : St) (a0 : Nat) (x1 : Int32) (x2 : Int32) (a3 : Nat) : Option (Int32 × St) :=
  (sp_X11_localSlot fu E S a0 x1 x2).bind fun u1 => hcat u1 [("java/lang/IndexOutOfBoundsException", 1), ("java/lang/IllegalStateException", 2), ("java/util/NoSuchElementException", 3)] fun r2 S3 =>
  bnd (sL S3 a3 ((0 : Int32).toNatClampNeg) r2.toInt64) fun S4 =>
  some (0, S4)
set_option maxRecDepth 100000 in
theorem k_L_localSlot {l : Launch} (fu : Nat) {E : Ev} (hE : WE E) {a0 : Nat} (ha0 : E.1 a0 = some (0, 9, 0)) {a3 : Nat} (ha3 : E.1 a3 = some (1, 2, 1)) {x1 : Int32} {x2 : Int32} {S : St} {t : (Int32 × St)} (h : sp_L_localSlot fu E S a0 x1 x2 a3 = some t) : Cn l mL_localSlot [.ref a0, .int x1, .int x2, .ref a3] (hp E S) (PoI E t) := by
  refine Cn.ofH (by decide) rfl (Nat.le_of_ble_eq_true rfl) (fun X _ _ hQ => ?_)
  refine (?_ : K mL_localSlot X E 0 [(0, .ref a0), (1, .int x1), (2, .int x2), (3, .ref a3)] [] S 0 0 (sp_L_localSlot fu E S a0 x1 x2 a3) t) h
  unfold sp_L_localSlot
  refine K_aload_n dL_localSlot_0 rfl rfl ?_
  refine K_iconst (v := 0) dL_localSlot_1 (by decide) ?_
  refine K_aload_n dL_localSlot_2 rfl rfl ?_
  refine K_iload_n dL_localSlot_3 rfl rfl ?_
  refine K_iload_n dL_localSlot_4 rfl rfl ?_
  refine K_bind (fun u1 hu1 => ?_)
  refine K_callH (As := [.int x1, .int x2]) (k_X11_localSlot fu hE ha0 hu1) dL_localSlot_5 v_L_79 ha0 rfl rfl rfl rfl (Nat.le_of_ble_eq_true rfl) ⟨Nat.le_of_ble_eq_true rfl, Nat.le_of_ble_eq_true rfl, Nat.le_of_ble_eq_true rfl, Nat.le_of_ble_eq_true rfl⟩ (List.forall_mem_cons.mpr ⟨?_, List.forall_mem_cons.mpr ⟨?_, List.forall_mem_cons.mpr ⟨?_, fun _ h => absurd h List.not_mem_nil⟩⟩⟩) (fun r2 S3 => ?_)
  · intro S1 e
    refine JX_catch (En := "java/lang/IndexOutOfBoundsException") (name := "java/lang/IndexOutOfBoundsException") [] ⟨0, 10, 13, 39⟩ [⟨0, 10, 17, 15⟩, ⟨0, 10, 21, 77⟩] rfl (fun _ h => absurd h List.not_mem_nil) (by decide) (by decide) (gw (i := 769) (by decide +kernel) (by decide +kernel)) (List.mem_filter.mpr ⟨List.mem_of_getElem? (i := 776) (by decide +kernel), rfl⟩) (fun q => ?_)
    refine J_astore (ls' := [(0, _), (1, _), (2, _), (3, _), (4, _)]) dL_localSlot_13 (by decide) rfl ?_
    refine J_iconst (v := 1) dL_localSlot_15 (by decide) ?_
    cases e
    exact J_iret dL_localSlot_16 hQ.R rfl rfl (Nat.le_of_ble_eq_true rfl) (Nat.le_of_ble_eq_true rfl) ⟨rfl, rfl⟩
  · intro S1 e
    refine JX_catch (En := "java/lang/IllegalStateException") (name := "java/lang/IllegalStateException") [⟨0, 10, 13, 39⟩] ⟨0, 10, 17, 15⟩ [⟨0, 10, 21, 77⟩] rfl (List.forall_mem_cons.mpr ⟨Or.inr ⟨by decide, "java/lang/IndexOutOfBoundsException", (gw (i := 769) (by decide +kernel) (by decide +kernel)), by decide⟩, fun _ h => absurd h List.not_mem_nil⟩) (by decide) (by decide) (gw (i := 550) (by decide +kernel) (by decide +kernel)) (List.mem_filter.mpr ⟨List.mem_of_getElem? (i := 626) (by decide +kernel), rfl⟩) (fun q => ?_)
    refine J_astore (ls' := [(0, _), (1, _), (2, _), (3, _), (4, _)]) dL_localSlot_17 (by decide) rfl ?_
    refine J_iconst (v := 2) dL_localSlot_19 (by decide) ?_
    cases e
    exact J_iret dL_localSlot_20 hQ.R rfl rfl (Nat.le_of_ble_eq_true rfl) (Nat.le_of_ble_eq_true rfl) ⟨rfl, rfl⟩
  · intro S1 e
    refine JX_catch (En := "java/util/NoSuchElementException") (name := "java/util/NoSuchElementException") [⟨0, 10, 13, 39⟩, ⟨0, 10, 17, 15⟩] ⟨0, 10, 21, 77⟩ [] rfl (List.forall_mem_cons.mpr ⟨Or.inr ⟨by decide, "java/lang/IndexOutOfBoundsException", (gw (i := 769) (by decide +kernel) (by decide +kernel)), by decide⟩, List.forall_mem_cons.mpr ⟨Or.inr ⟨by decide, "java/lang/IllegalStateException", (gw (i := 550) (by decide +kernel) (by decide +kernel)), by decide⟩, fun _ h => absurd h List.not_mem_nil⟩⟩) (by decide) (by decide) (gw (i := 1201) (by decide +kernel) (by decide +kernel)) (List.mem_filter.mpr ⟨List.mem_of_getElem? (i := 1204) (by decide +kernel), rfl⟩) (fun q => ?_)
    refine J_astore (ls' := [(0, _), (1, _), (2, _), (3, _), (4, _)]) dL_localSlot_21 (by decide) rfl ?_
    refine J_iconst (v := 3) dL_localSlot_23 (by decide) ?_
    cases e
    exact J_iret dL_localSlot_24 hQ.R rfl rfl (Nat.le_of_ble_eq_true rfl) (Nat.le_of_ble_eq_true rfl) ⟨rfl, rfl⟩
  refine K_i2l dL_localSlot_8 ?_
  refine K_last dL_localSlot_9 ha3 (by decide) ?_
  refine K_nmS (fun S4 => ?_)
  refine K_goto (tgt := 25) dL_localSlot_10 (by decide) ?_
  refine K_iconst (v := 0) dL_localSlot_25 (by decide) ?_
  exact K_iret dL_localSlot_26 hQ.R rfl (Nat.le_of_ble_eq_true rfl) (Nat.le_of_ble_eq_true rfl)
def sp_L_isMarked (fu : Nat) (E : Ev) (S : St) (a0 : Nat) (x1 : Int32) (a2 : Nat) : Option (Int32 × St) :=
  (sp_X11_isMarked fu E S a0 x1).bind fun u1 => hcat u1 [("java/lang/IndexOutOfBoundsException", 1), ("java/lang/IllegalStateException", 2)] fun r2 S3 =>
  if r2 = 0 then (
    bnd (sL S3 a2 ((0 : Int32).toNatClampNeg) 0) fun S4 =>
    some (0, S4)
  ) else (
    bnd (sL S3 a2 ((0 : Int32).toNatClampNeg) 1) fun S5 =>
    some (0, S5)
  )
set_option maxRecDepth 100000 in
theorem k_L_isMarked {l : Launch} (fu : Nat) {E : Ev} (hE : WE E) {a0 : Nat} (ha0 : E.1 a0 = some (0, 9, 0)) {a2 : Nat} (ha2 : E.1 a2 = some (1, 2, 1)) {x1 : Int32} {S : St} {t : (Int32 × St)} (h : sp_L_isMarked fu E S a0 x1 a2 = some t) : Cn l mL_isMarked [.ref a0, .int x1, .ref a2] (hp E S) (PoI E t) := by
  refine Cn.ofH (by decide) rfl (Nat.le_of_ble_eq_true rfl) (fun X _ _ hQ => ?_)
  refine (?_ : K mL_isMarked X E 0 [(0, .ref a0), (1, .int x1), (2, .ref a2)] [] S 0 0 (sp_L_isMarked fu E S a0 x1 a2) t) h
  unfold sp_L_isMarked
  refine K_aload_n dL_isMarked_0 rfl rfl ?_
  refine K_iconst (v := 0) dL_isMarked_1 (by decide) ?_
  refine K_aload_n dL_isMarked_2 rfl rfl ?_
  refine K_iload_n dL_isMarked_3 rfl rfl ?_
  refine K_bind (fun u1 hu1 => ?_)
  refine K_callH (As := [.int x1]) (k_X11_isMarked fu hE ha0 hu1) dL_isMarked_4 v_L_82 ha0 rfl rfl rfl rfl (Nat.le_of_ble_eq_true rfl) ⟨Nat.le_of_ble_eq_true rfl, Nat.le_of_ble_eq_true rfl, Nat.le_of_ble_eq_true rfl, Nat.le_of_ble_eq_true rfl⟩ (List.forall_mem_cons.mpr ⟨?_, List.forall_mem_cons.mpr ⟨?_, fun _ h => absurd h List.not_mem_nil⟩⟩) (fun r2 S3 => ?_)
  · intro S1 e
    refine JX_catch (En := "java/lang/IndexOutOfBoundsException") (name := "java/lang/IndexOutOfBoundsException") [] ⟨0, 16, 19, 39⟩ [⟨0, 16, 22, 15⟩] rfl (fun _ h => absurd h List.not_mem_nil) (by decide) (by decide) (gw (i := 769) (by decide +kernel) (by decide +kernel)) (List.mem_filter.mpr ⟨List.mem_of_getElem? (i := 776) (by decide +kernel), rfl⟩) (fun q => ?_)
    refine J_astore_n (ls' := [(0, _), (1, _), (2, _), (3, _)]) dL_isMarked_19 rfl (by decide) rfl ?_
    refine J_iconst (v := 1) dL_isMarked_20 (by decide) ?_
    cases e
    exact J_iret dL_isMarked_21 hQ.R rfl rfl (Nat.le_of_ble_eq_true rfl) (Nat.le_of_ble_eq_true rfl) ⟨rfl, rfl⟩
  · intro S1 e
    refine JX_catch (En := "java/lang/IllegalStateException") (name := "java/lang/IllegalStateException") [⟨0, 16, 19, 39⟩] ⟨0, 16, 22, 15⟩ [] rfl (List.forall_mem_cons.mpr ⟨Or.inr ⟨by decide, "java/lang/IndexOutOfBoundsException", (gw (i := 769) (by decide +kernel) (by decide +kernel)), by decide⟩, fun _ h => absurd h List.not_mem_nil⟩) (by decide) (by decide) (gw (i := 550) (by decide +kernel) (by decide +kernel)) (List.mem_filter.mpr ⟨List.mem_of_getElem? (i := 626) (by decide +kernel), rfl⟩) (fun q => ?_)
    refine J_astore_n (ls' := [(0, _), (1, _), (2, _), (3, _)]) dL_isMarked_22 rfl (by decide) rfl ?_
    refine J_iconst (v := 2) dL_isMarked_23 (by decide) ?_
    cases e
    exact J_iret dL_isMarked_24 hQ.R rfl rfl (Nat.le_of_ble_eq_true rfl) (Nat.le_of_ble_eq_true rfl) ⟨rfl, rfl⟩
  refine K_if_eq (tgt := 14) dL_isMarked_7 (by decide) (fun c6 => ?_) (fun c6 => ?_)
  · refine K_lconst (v := 0) dL_isMarked_14 rfl ?_
    refine K_last dL_isMarked_15 ha2 (by decide) ?_
    refine K_nmS (fun S4 => ?_)
    refine K_goto (tgt := 25) dL_isMarked_16 (by decide) ?_
    refine K_iconst (v := 0) dL_isMarked_25 (by decide) ?_
    exact K_iret dL_isMarked_26 hQ.R rfl (Nat.le_of_ble_eq_true rfl) (Nat.le_of_ble_eq_true rfl)
  · refine K_lconst (v := 1) dL_isMarked_10 rfl ?_
    refine K_goto (tgt := 15) dL_isMarked_11 (by decide) ?_
    refine K_last dL_isMarked_15 ha2 (by decide) ?_
    refine K_nmS (fun S5 => ?_)
    refine K_goto (tgt := 25) dL_isMarked_16 (by decide) ?_
    refine K_iconst (v := 0) dL_isMarked_25 (by decide) ?_
    exact K_iret dL_isMarked_26 hQ.R rfl (Nat.le_of_ble_eq_true rfl) (Nat.le_of_ble_eq_true rfl)
