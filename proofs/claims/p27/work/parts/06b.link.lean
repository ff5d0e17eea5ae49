/-! methods, and what the tables say of their links -/
abbrev mX1_start : Mt := (yX1_start, cX1_start, 4, none, [], { frames := 0, cells := 0, slots := 0, locals := 0 })
abbrev mX1_addInstruction : Mt := (yX1_addInstruction, cX1_addInstruction, 3, some .int, [], { frames := 0, cells := 0, slots := 0, locals := 0 })
abbrev mX1_addProtection : Mt := (yX1_addProtection, cX1_addProtection, 5, some .int, [], { frames := 0, cells := 0, slots := 0, locals := 0 })
abbrev mX1_isIndex : Mt := (yX1_isIndex, cX1_isIndex, 2, some .boolean, [], { frames := 0, cells := 0, slots := 0, locals := 0 })
abbrev mX1_protects : Mt := (yX1_protects, cX1_protects, 3, some .boolean, [], { frames := 0, cells := 0, slots := 0, locals := 0 })
abbrev mX1_creates : Mt := (yX1_creates, cX1_creates, 3, some .boolean, [], { frames := 1, cells := 0, slots := 0, locals := 21 })
abbrev mX2_isHandlerAllowed : Mt := (yX2_isHandlerAllowed, cX2_isHandlerAllowed, 8, some .boolean, [], { frames := 1, cells := 0, slots := 0, locals := 21 })
abbrev mX10_isClass : Mt := (yX10_isClass, cX10_isClass, 2, some .boolean, [], { frames := 0, cells := 0, slots := 0, locals := 0 })
abbrev mX10_isType : Mt := (yX10_isType, cX10_isType, 2, some .boolean, [], { frames := 0, cells := 0, slots := 0, locals := 0 })
abbrev mX11_isReferenceType : Mt := (yX11_isReferenceType, cX11_isReferenceType, 1, some .boolean, [], { frames := 0, cells := 0, slots := 0, locals := 0 })
abbrev mX8_isField : Mt := (yX8_isField, cX8_isField, 2, some .boolean, [], { frames := 0, cells := 0, slots := 0, locals := 0 })
abbrev mX8_isMethod : Mt := (yX8_isMethod, cX8_isMethod, 2, some .boolean, [], { frames := 0, cells := 0, slots := 0, locals := 0 })
abbrev mX8_isMethodOfKind : Mt := (yX8_isMethodOfKind, cX8_isMethodOfKind, 3, some .boolean, [], { frames := 1, cells := 0, slots := 0, locals := 21 })
abbrev mX2_isOperandAllowed : Mt := (yX2_isOperandAllowed, cX2_isOperandAllowed, 3, some .boolean, [], { frames := 2, cells := 0, slots := 0, locals := 43 })
abbrev mX8_slotsNeeded : Mt := (yX8_slotsNeeded, cX8_slotsNeeded, 2, some .int, [], { frames := 0, cells := 0, slots := 0, locals := 0 })
abbrev mX2_run : Mt := (yX2_run, cX2_run, 2, some .int, [], { frames := 3, cells := 0, slots := 0, locals := 65 })
abbrev mX3_clear : Mt := (yX3_clear, cX3_clear, 2, none, [], { frames := 0, cells := 0, slots := 0, locals := 0 })
abbrev mX3_copyFrom : Mt := (yX3_copyFrom, cX3_copyFrom, 2, none, [], { frames := 1, cells := 0, slots := 0, locals := 22 })
abbrev mX3_copyCaught : Mt := (yX3_copyCaught, cX3_copyCaught, 3, none, [], { frames := 2, cells := 0, slots := 0, locals := 43 })
abbrev mX3_replaceLocals : Mt := (yX3_replaceLocals, cX3_replaceLocals, 4, none, [], { frames := 0, cells := 0, slots := 0, locals := 0 })
abbrev mX3_replaceStack : Mt := (yX3_replaceStack, cX3_replaceStack, 4, none, [], { frames := 0, cells := 0, slots := 0, locals := 0 })
abbrev mX3_hasOnStack : Mt := (yX3_hasOnStack, cX3_hasOnStack, 3, some .boolean, [], { frames := 0, cells := 0, slots := 0, locals := 0 })
abbrev mX4_clear : Mt := (yX4_clear, cX4_clear, 2, none, [], { frames := 0, cells := 0, slots := 0, locals := 0 })
abbrev mX4_contains : Mt := (yX4_contains, cX4_contains, 2, some .boolean, [], { frames := 0, cells := 0, slots := 0, locals := 0 })
abbrev mX4_put : Mt := (yX4_put, cX4_put, 3, none, [], { frames := 2, cells := 0, slots := 0, locals := 43 })
abbrev mX0_examine : Mt := (yX0_examine, cX0_examine, 2, some .int, [], { frames := 4, cells := 0, slots := 0, locals := 86 })
abbrev mX10_inherits : Mt := (yX10_inherits, cX10_inherits, 5, some .boolean, [], { frames := 0, cells := 0, slots := 0, locals := 0 })
abbrev mX10_commonClass : Mt := (yX10_commonClass, cX10_commonClass, 5, some .int, [], { frames := 1, cells := 0, slots := 0, locals := 24 })
abbrev mX10_referenceLevels : Mt := (yX10_referenceLevels, cX10_referenceLevels, 3, some .int, [], { frames := 0, cells := 0, slots := 0, locals := 0 })
abbrev mX11_isReference : Mt := (yX11_isReference, cX11_isReference, 1, some .boolean, [], { frames := 1, cells := 0, slots := 0, locals := 20 })
abbrev mX10_commonSlot : Mt := (yX10_commonSlot, cX10_commonSlot, 6, some .int, [], { frames := 2, cells := 0, slots := 0, locals := 48 })
abbrev mX5_flow : Mt := (yX5_flow, cX5_flow, 8, some .int, [], { frames := 3, cells := 0, slots := 0, locals := 73 })
abbrev mX0_flowToHandlers : Mt := (yX0_flowToHandlers, cX0_flowToHandlers, 4, some .int, [], { frames := 4, cells := 0, slots := 0, locals := 100 })
abbrev mX9_fallsThrough : Mt := (yX9_fallsThrough, cX9_fallsThrough, 1, some .boolean, [], { frames := 0, cells := 0, slots := 0, locals := 0 })
abbrev mX9_jumps : Mt := (yX9_jumps, cX9_jumps, 1, some .boolean, [], { frames := 0, cells := 0, slots := 0, locals := 0 })
abbrev mX0_flowToSuccessors : Mt := (yX0_flowToSuccessors, cX0_flowToSuccessors, 4, some .int, [], { frames := 4, cells := 0, slots := 0, locals := 100 })
abbrev mX7_require : Mt := (yX7_require, cX7_require, 3, none, [], { frames := 0, cells := 0, slots := 0, locals := 0 })
abbrev mX7_popSlot : Mt := (yX7_popSlot, cX7_popSlot, 1, some .int, [], { frames := 1, cells := 0, slots := 0, locals := 22 })
abbrev mX7_initialize : Mt := (yX7_initialize, cX7_initialize, 7, none, [], { frames := 2, cells := 0, slots := 0, locals := 43 })
abbrev mX10_isInterface : Mt := (yX10_isInterface, cX10_isInterface, 2, some .boolean, [], { frames := 0, cells := 0, slots := 0, locals := 0 })
abbrev mX10_fits : Mt := (yX10_fits, cX10_fits, 6, some .boolean, [], { frames := 1, cells := 0, slots := 0, locals := 24 })
abbrev mX7_popOfType : Mt := (yX7_popOfType, cX7_popOfType, 4, none, [], { frames := 2, cells := 0, slots := 0, locals := 49 })
abbrev mX7_push : Mt := (yX7_push, cX7_push, 2, none, [], { frames := 1, cells := 0, slots := 0, locals := 22 })
abbrev mX7_pushOfType : Mt := (yX7_pushOfType, cX7_pushOfType, 2, none, [], { frames := 2, cells := 0, slots := 0, locals := 43 })
abbrev mX8_parameterType : Mt := (yX8_parameterType, cX8_parameterType, 3, some .int, [], { frames := 0, cells := 0, slots := 0, locals := 0 })
abbrev mX7_call : Mt := (yX7_call, cX7_call, 4, none, [], { frames := 3, cells := 0, slots := 0, locals := 72 })
abbrev mX7_create : Mt := (yX7_create, cX7_create, 2, none, [], { frames := 2, cells := 0, slots := 0, locals := 43 })
abbrev mX7_isArrayType : Mt := (yX7_isArrayType, cX7_isArrayType, 1, some .boolean, [], { frames := 0, cells := 0, slots := 0, locals := 0 })
abbrev mX7_popReference : Mt := (yX7_popReference, cX7_popReference, 2, some .int, [], { frames := 2, cells := 0, slots := 0, locals := 42 })
abbrev mX7_popReferenceArray : Mt := (yX7_popReferenceArray, cX7_popReferenceArray, 3, some .int, [], { frames := 2, cells := 0, slots := 0, locals := 42 })
abbrev mX7_executeArray : Mt := (yX7_executeArray, cX7_executeArray, 5, none, [], { frames := 3, cells := 0, slots := 0, locals := 72 })
abbrev mX7_executeEnd : Mt := (yX7_executeEnd, cX7_executeEnd, 4, none, [], { frames := 3, cells := 0, slots := 0, locals := 72 })
abbrev mX7_isAnyReference : Mt := (yX7_isAnyReference, cX7_isAnyReference, 1, some .boolean, [], { frames := 1, cells := 0, slots := 0, locals := 20 })
abbrev mX7_popAnyReference : Mt := (yX7_popAnyReference, cX7_popAnyReference, 2, some .int, [], { frames := 2, cells := 0, slots := 0, locals := 42 })
abbrev mX7_breakLong : Mt := (yX7_breakLong, cX7_breakLong, 2, none, [], { frames := 0, cells := 0, slots := 0, locals := 0 })
abbrev mX7_store : Mt := (yX7_store, cX7_store, 3, none, [], { frames := 1, cells := 0, slots := 0, locals := 21 })
abbrev mX7_executeLocal : Mt := (yX7_executeLocal, cX7_executeLocal, 3, none, [], { frames := 3, cells := 0, slots := 0, locals := 72 })
abbrev mX7_isWhole : Mt := (yX7_isWhole, cX7_isWhole, 1, some .boolean, [], { frames := 0, cells := 0, slots := 0, locals := 0 })
abbrev mX7_movePair : Mt := (yX7_movePair, cX7_movePair, 4, none, [], { frames := 2, cells := 0, slots := 0, locals := 43 })
abbrev mX7_popWhole : Mt := (yX7_popWhole, cX7_popWhole, 2, some .int, [], { frames := 2, cells := 0, slots := 0, locals := 42 })
abbrev mX7_executeMove : Mt := (yX7_executeMove, cX7_executeMove, 5, none, [], { frames := 3, cells := 0, slots := 0, locals := 66 })
abbrev mX7_executeNumber : Mt := (yX7_executeNumber, cX7_executeNumber, 2, none, [], { frames := 3, cells := 0, slots := 0, locals := 72 })
abbrev mX7_popFieldObject : Mt := (yX7_popFieldObject, cX7_popFieldObject, 4, none, [], { frames := 2, cells := 0, slots := 0, locals := 49 })
abbrev mX7_executeObject : Mt := (yX7_executeObject, cX7_executeObject, 3, none, [], { frames := 3, cells := 0, slots := 0, locals := 72 })
abbrev mX7_execute : Mt := (yX7_execute, cX7_execute, 5, some .int, [], { frames := 4, cells := 0, slots := 0, locals := 96 })
abbrev mX0_process : Mt := (yX0_process, cX0_process, 3, some .int, [], { frames := 5, cells := 0, slots := 0, locals := 123 })
abbrev mX11_slotsOf : Mt := (yX11_slotsOf, cX11_slotsOf, 1, some .int, [], { frames := 0, cells := 0, slots := 0, locals := 0 })
abbrev mX0_makeFirstFrame : Mt := (yX0_makeFirstFrame, cX0_makeFirstFrame, 7, none, [], { frames := 1, cells := 0, slots := 0, locals := 22 })
abbrev mX5_setFirstFrame : Mt := (yX5_setFirstFrame, cX5_setFirstFrame, 2, none, [], { frames := 3, cells := 0, slots := 0, locals := 65 })
abbrev mX5_takePending : Mt := (yX5_takePending, cX5_takePending, 2, some .int, [], { frames := 0, cells := 0, slots := 0, locals := 0 })
abbrev mX5_run : Mt := (yX5_run, cX5_run, 4, some .int, [], { frames := 6, cells := 0, slots := 0, locals := 145 })
abbrev mX10_frameFits : Mt := (yX10_frameFits, cX10_frameFits, 4, some .boolean, [], { frames := 2, cells := 0, slots := 0, locals := 49 })
abbrev mX6_flow : Mt := (yX6_flow, cX6_flow, 5, some .int, [], { frames := 3, cells := 0, slots := 0, locals := 72 })
abbrev mX6_enter : Mt := (yX6_enter, cX6_enter, 3, some .boolean, [], { frames := 3, cells := 0, slots := 0, locals := 72 })
abbrev mX6_run : Mt := (yX6_run, cX6_run, 4, some .int, [], { frames := 6, cells := 0, slots := 0, locals := 145 })
abbrev mX8_addParameter : Mt := (yX8_addParameter, cX8_addParameter, 2, some .int, [], { frames := 1, cells := 0, slots := 0, locals := 20 })
abbrev mX8_dropParameters : Mt := (yX8_dropParameters, cX8_dropParameters, 1, none, [], { frames := 0, cells := 0, slots := 0, locals := 0 })
abbrev mX8_addMethod : Mt := (yX8_addMethod, cX8_addMethod, 4, some .int, [], { frames := 1, cells := 0, slots := 0, locals := 22 })
abbrev mX10_add : Mt := (yX10_add, cX10_add, 3, some .int, [], { frames := 0, cells := 0, slots := 0, locals := 0 })
abbrev mX11_declareClass : Mt := (yX11_declareClass, cX11_declareClass, 3, some .int, [], { frames := 6, cells := 1, slots := 6, locals := 84 })
abbrev mX11_parameter : Mt := (yX11_parameter, cX11_parameter, 2, some .int, [], { frames := 6, cells := 1, slots := 6, locals := 84 })
abbrev mX11_isMethodAllowed : Mt := (yX11_isMethodAllowed, cX11_isMethodAllowed, 4, some .boolean, [], { frames := 1, cells := 0, slots := 0, locals := 21 })
abbrev mX11_declareMethod : Mt := (yX11_declareMethod, cX11_declareMethod, 4, some .int, [], { frames := 6, cells := 1, slots := 6, locals := 84 })
abbrev mX11_begin : Mt := (yX11_begin, cX11_begin, 4, some .int, [], { frames := 6, cells := 1, slots := 6, locals := 84 })
abbrev mX11_emit : Mt := (yX11_emit, cX11_emit, 3, some .int, [], { frames := 6, cells := 1, slots := 6, locals := 84 })
abbrev mX11_addHandler : Mt := (yX11_addHandler, cX11_addHandler, 5, some .int, [], { frames := 6, cells := 1, slots := 6, locals := 84 })
abbrev mX11_adoptAt : Mt := (yX11_adoptAt, cX11_adoptAt, 2, none, [], { frames := 3, cells := 0, slots := 0, locals := 65 })
abbrev mX11_adoptAtHandlers : Mt := (yX11_adoptAtHandlers, cX11_adoptAtHandlers, 3, none, [], { frames := 4, cells := 0, slots := 0, locals := 86 })
abbrev mX11_adoptAtJumps : Mt := (yX11_adoptAtJumps, cX11_adoptAtJumps, 2, none, [], { frames := 4, cells := 0, slots := 0, locals := 86 })
abbrev mX11_adoptBehindEnds : Mt := (yX11_adoptBehindEnds, cX11_adoptBehindEnds, 2, none, [], { frames := 4, cells := 0, slots := 0, locals := 86 })
abbrev mX11_adoptFrames : Mt := (yX11_adoptFrames, cX11_adoptFrames, 1, some .int, [], { frames := 6, cells := 1, slots := 6, locals := 108 })
abbrev mX11_requireCode : Mt := (yX11_requireCode, cX11_requireCode, 1, none, [], { frames := 6, cells := 1, slots := 6, locals := 84 })
abbrev mX11_infer : Mt := (yX11_infer, cX11_infer, 2, some .int, [], { frames := 7, cells := 1, slots := 6, locals := 168 })
abbrev mX11_check : Mt := (yX11_check, cX11_check, 2, some .int, [], { frames := 7, cells := 1, slots := 6, locals := 168 })
abbrev mX11_errorPosition : Mt := (yX11_errorPosition, cX11_errorPosition, 1, some .int, [], { frames := 0, cells := 0, slots := 0, locals := 0 })
abbrev mX11_visits : Mt := (yX11_visits, cX11_visits, 1, some .int, [], { frames := 0, cells := 0, slots := 0, locals := 0 })
abbrev mX11_requireIndex : Mt := (yX11_requireIndex, cX11_requireIndex, 2, none, [], { frames := 6, cells := 1, slots := 6, locals := 84 })
abbrev mX11_hasFrame : Mt := (yX11_hasFrame, cX11_hasFrame, 2, some .boolean, [], { frames := 7, cells := 1, slots := 6, locals := 105 })
abbrev mX11_requireFrame : Mt := (yX11_requireFrame, cX11_requireFrame, 2, none, [], { frames := 7, cells := 2, slots := 12, locals := 105 })
abbrev mX11_stackHeight : Mt := (yX11_stackHeight, cX11_stackHeight, 2, some .int, [], { frames := 8, cells := 2, slots := 12, locals := 126 })
abbrev mX11_stackSlot : Mt := (yX11_stackSlot, cX11_stackSlot, 3, some .int, [], { frames := 8, cells := 3, slots := 18, locals := 126 })
abbrev mX11_localSlot : Mt := (yX11_localSlot, cX11_localSlot, 3, some .int, [], { frames := 8, cells := 3, slots := 18, locals := 126 })
abbrev mX11_addFrame : Mt := (yX11_addFrame, cX11_addFrame, 7, some .long, [], { frames := 0, cells := 0, slots := 0, locals := 0 })
abbrev mX11_digest : Mt := (yX11_digest, cX11_digest, 4, some .long, [], { frames := 1, cells := 0, slots := 0, locals := 26 })
theorem ig_X1 : ∀ w ∈ u_ws RX1 TX1 12, w ∈ GW := fun w hw => List.mem_filter.mpr ((show ∀ w ∈ u_ws RX1 TX1 12, w ∈ (EX ++ lw_tbl) ∧ goodWord w = true from by decide +kernel) w hw)
theorem ig_X2 : ∀ w ∈ u_ws RX2 TX2 4, w ∈ GW := fun w hw => List.mem_filter.mpr ((show ∀ w ∈ u_ws RX2 TX2 4, w ∈ (EX ++ lw_tbl) ∧ goodWord w = true from by decide +kernel) w hw)
theorem ig_X3 : ∀ w ∈ u_ws RX3 TX3 4, w ∈ GW := fun w hw => List.mem_filter.mpr ((show ∀ w ∈ u_ws RX3 TX3 4, w ∈ (EX ++ lw_tbl) ∧ goodWord w = true from by decide +kernel) w hw)
theorem ig_X4 : ∀ w ∈ u_ws RX4 TX4 3, w ∈ GW := fun w hw => List.mem_filter.mpr ((show ∀ w ∈ u_ws RX4 TX4 3, w ∈ (EX ++ lw_tbl) ∧ goodWord w = true from by decide +kernel) w hw)
theorem ig_X5 : ∀ w ∈ u_ws RX5 TX5 11, w ∈ GW := fun w hw => List.mem_filter.mpr ((show ∀ w ∈ u_ws RX5 TX5 11, w ∈ (EX ++ lw_tbl) ∧ goodWord w = true from by decide +kernel) w hw)
theorem ig_X6 : ∀ w ∈ u_ws RX6 TX6 10, w ∈ GW := fun w hw => List.mem_filter.mpr ((show ∀ w ∈ u_ws RX6 TX6 10, w ∈ (EX ++ lw_tbl) ∧ goodWord w = true from by decide +kernel) w hw)
theorem ig_X7 : ∀ w ∈ u_ws RX7 TX7 5, w ∈ GW := fun w hw => List.mem_filter.mpr ((show ∀ w ∈ u_ws RX7 TX7 5, w ∈ (EX ++ lw_tbl) ∧ goodWord w = true from by decide +kernel) w hw)
theorem ig_X8 : ∀ w ∈ u_ws RX8 TX8 13, w ∈ GW := fun w hw => List.mem_filter.mpr ((show ∀ w ∈ u_ws RX8 TX8 13, w ∈ (EX ++ lw_tbl) ∧ goodWord w = true from by decide +kernel) w hw)
theorem ig_X10 : ∀ w ∈ u_ws RX10 TX10 3, w ∈ GW := fun w hw => List.mem_filter.mpr ((show ∀ w ∈ u_ws RX10 TX10 3, w ∈ (EX ++ lw_tbl) ∧ goodWord w = true from by decide +kernel) w hw)
theorem ig_X11 : ∀ w ∈ u_ws RX11 TX11 11, w ∈ GW := fun w hw => List.mem_filter.mpr ((show ∀ w ∈ u_ws RX11 TX11 11, w ∈ (EX ++ lw_tbl) ∧ goodWord w = true from by decide +kernel) w hw)
theorem cl_X1_isIndex : CL mX1_isIndex 1 := ⟨rfl, gw (i := 724) (by decide +kernel) (by decide +kernel), gw (i := 47) (by decide +kernel) (by decide +kernel), by decide +kernel, by decide +kernel⟩
theorem cl_X8_slotsNeeded : CL mX8_slotsNeeded 1 := ⟨rfl, gw (i := 628) (by decide +kernel) (by decide +kernel), gw (i := 46) (by decide +kernel) (by decide +kernel), by decide +kernel, by decide +kernel⟩
theorem cl_X2_isHandlerAllowed : CL mX2_isHandlerAllowed 1 := ⟨rfl, gw (i := 742) (by decide +kernel) (by decide +kernel), gw (i := 52) (by decide +kernel) (by decide +kernel), by decide +kernel, by decide +kernel⟩
theorem cl_X2_isOperandAllowed : CL mX2_isOperandAllowed 2 := ⟨rfl, gw (i := 720) (by decide +kernel) (by decide +kernel), gw (i := 52) (by decide +kernel) (by decide +kernel), by decide +kernel, by decide +kernel⟩
theorem cl_X8_isField : CL mX8_isField 1 := ⟨rfl, gw (i := 728) (by decide +kernel) (by decide +kernel), gw (i := 46) (by decide +kernel) (by decide +kernel), by decide +kernel, by decide +kernel⟩
theorem cl_X10_isClass : CL mX10_isClass 1 := ⟨rfl, gw (i := 458) (by decide +kernel) (by decide +kernel), gw (i := 45) (by decide +kernel) (by decide +kernel), by decide +kernel, by decide +kernel⟩
theorem cl_X8_isMethodOfKind : CL mX8_isMethodOfKind 2 := ⟨rfl, gw (i := 733) (by decide +kernel) (by decide +kernel), gw (i := 46) (by decide +kernel) (by decide +kernel), by decide +kernel, by decide +kernel⟩
theorem cl_X10_isType : CL mX10_isType 1 := ⟨rfl, gw (i := 555) (by decide +kernel) (by decide +kernel), gw (i := 45) (by decide +kernel) (by decide +kernel), by decide +kernel, by decide +kernel⟩
theorem cl_X11_isReferenceType : CL mX11_isReferenceType 1 := ⟨rfl, gw (i := 738) (by decide +kernel) (by decide +kernel), gw (i := 44) (by decide +kernel) (by decide +kernel), by decide +kernel, by decide +kernel⟩
theorem cl_X8_isMethod : CL mX8_isMethod 1 := ⟨rfl, gw (i := 599) (by decide +kernel) (by decide +kernel), gw (i := 46) (by decide +kernel) (by decide +kernel), by decide +kernel, by decide +kernel⟩
theorem cl_X3_copyFrom : CL mX3_copyFrom 1 := ⟨rfl, gw (i := 676) (by decide +kernel) (by decide +kernel), gw (i := 48) (by decide +kernel) (by decide +kernel), by decide +kernel, by decide +kernel⟩
theorem cl_X4_clear : CL mX4_clear 0 := ⟨rfl, gw (i := 624) (by decide +kernel) (by decide +kernel), gw (i := 49) (by decide +kernel) (by decide +kernel), by decide +kernel, by decide +kernel⟩
theorem cl_X0_examine : CL mX0_examine 0 := ⟨rfl, gw (i := 712) (by decide +kernel) (by decide +kernel), gw (i := 50) (by decide +kernel) (by decide +kernel), by decide +kernel, by decide +kernel⟩
theorem cl_X5_takePending : CL mX5_takePending 0 := ⟨rfl, gw (i := 765) (by decide +kernel) (by decide +kernel), gw (i := 51) (by decide +kernel) (by decide +kernel), by decide +kernel, by decide +kernel⟩
theorem cl_X0_process : CL mX0_process 1 := ⟨rfl, gw (i := 772) (by decide +kernel) (by decide +kernel), gw (i := 50) (by decide +kernel) (by decide +kernel), by decide +kernel, by decide +kernel⟩
theorem cl_X5_setFirstFrame : CL mX5_setFirstFrame 0 := ⟨rfl, gw (i := 747) (by decide +kernel) (by decide +kernel), gw (i := 51) (by decide +kernel) (by decide +kernel), by decide +kernel, by decide +kernel⟩
theorem cl_X2_run : CL mX2_run 0 := ⟨rfl, gw (i := 716) (by decide +kernel) (by decide +kernel), gw (i := 52) (by decide +kernel) (by decide +kernel), by decide +kernel, by decide +kernel⟩
theorem cl_X0_flowToHandlers : CL mX0_flowToHandlers 1 := ⟨rfl, gw (i := 776) (by decide +kernel) (by decide +kernel), gw (i := 50) (by decide +kernel) (by decide +kernel), by decide +kernel, by decide +kernel⟩
theorem cl_X0_flowToSuccessors : CL mX0_flowToSuccessors 1 := ⟨rfl, gw (i := 952) (by decide +kernel) (by decide +kernel), gw (i := 50) (by decide +kernel) (by decide +kernel), by decide +kernel, by decide +kernel⟩
theorem cl_X7_execute : CL mX7_execute 2 := ⟨rfl, gw (i := 830) (by decide +kernel) (by decide +kernel), gw (i := 53) (by decide +kernel) (by decide +kernel), by decide +kernel, by decide +kernel⟩
theorem cl_X1_protects : CL mX1_protects 2 := ⟨rfl, gw (i := 685) (by decide +kernel) (by decide +kernel), gw (i := 47) (by decide +kernel) (by decide +kernel), by decide +kernel, by decide +kernel⟩
theorem cl_X3_copyCaught : CL mX3_copyCaught 2 := ⟨rfl, gw (i := 781) (by decide +kernel) (by decide +kernel), gw (i := 48) (by decide +kernel) (by decide +kernel), by decide +kernel, by decide +kernel⟩
theorem cl_X5_flow : CL mX5_flow 3 := ⟨rfl, gw (i := 788) (by decide +kernel) (by decide +kernel), gw (i := 51) (by decide +kernel) (by decide +kernel), by decide +kernel, by decide +kernel⟩
theorem cl_X4_contains : CL mX4_contains 1 := ⟨rfl, gw (i := 661) (by decide +kernel) (by decide +kernel), gw (i := 49) (by decide +kernel) (by decide +kernel), by decide +kernel, by decide +kernel⟩
theorem cl_X10_commonSlot : CL mX10_commonSlot 2 := ⟨rfl, gw (i := 793) (by decide +kernel) (by decide +kernel), gw (i := 45) (by decide +kernel) (by decide +kernel), by decide +kernel, by decide +kernel⟩
theorem cl_X4_put : CL mX4_put 2 := ⟨rfl, gw (i := 672) (by decide +kernel) (by decide +kernel), gw (i := 49) (by decide +kernel) (by decide +kernel), by decide +kernel, by decide +kernel⟩
theorem cl_X11_isReference : CL mX11_isReference 1 := ⟨rfl, gw (i := 796) (by decide +kernel) (by decide +kernel), gw (i := 44) (by decide +kernel) (by decide +kernel), by decide +kernel, by decide +kernel⟩
theorem cl_X10_referenceLevels : CL mX10_referenceLevels 1 := ⟨rfl, gw (i := 800) (by decide +kernel) (by decide +kernel), gw (i := 45) (by decide +kernel) (by decide +kernel), by decide +kernel, by decide +kernel⟩
theorem cl_X10_commonClass : CL mX10_commonClass 2 := ⟨rfl, gw (i := 807) (by decide +kernel) (by decide +kernel), gw (i := 45) (by decide +kernel) (by decide +kernel), by decide +kernel, by decide +kernel⟩
theorem cl_X10_inherits : CL mX10_inherits 2 := ⟨rfl, gw (i := 812) (by decide +kernel) (by decide +kernel), gw (i := 45) (by decide +kernel) (by decide +kernel), by decide +kernel, by decide +kernel⟩
theorem cl_X9_fallsThrough : CL mX9_fallsThrough 1 := ⟨rfl, gw (i := 692) (by decide +kernel) (by decide +kernel), gw (i := 63) (by decide +kernel) (by decide +kernel), by decide +kernel, by decide +kernel⟩
theorem cl_X9_jumps : CL mX9_jumps 1 := ⟨rfl, gw (i := 664) (by decide +kernel) (by decide +kernel), gw (i := 63) (by decide +kernel) (by decide +kernel), by decide +kernel, by decide +kernel⟩
theorem cl_X7_executeLocal : CL mX7_executeLocal 2 := ⟨rfl, gw (i := 834) (by decide +kernel) (by decide +kernel), gw (i := 53) (by decide +kernel) (by decide +kernel), by decide +kernel, by decide +kernel⟩
theorem cl_X7_executeObject : CL mX7_executeObject 2 := ⟨rfl, gw (i := 944) (by decide +kernel) (by decide +kernel), gw (i := 53) (by decide +kernel) (by decide +kernel), by decide +kernel, by decide +kernel⟩
theorem cl_X7_executeArray : CL mX7_executeArray 2 := ⟨rfl, gw (i := 933) (by decide +kernel) (by decide +kernel), gw (i := 53) (by decide +kernel) (by decide +kernel), by decide +kernel, by decide +kernel⟩
theorem cl_X7_call : CL mX7_call 2 := ⟨rfl, gw (i := 915) (by decide +kernel) (by decide +kernel), gw (i := 53) (by decide +kernel) (by decide +kernel), by decide +kernel, by decide +kernel⟩
theorem cl_X7_create : CL mX7_create 1 := ⟨rfl, gw (i := 903) (by decide +kernel) (by decide +kernel), gw (i := 53) (by decide +kernel) (by decide +kernel), by decide +kernel, by decide +kernel⟩
theorem cl_X7_executeEnd : CL mX7_executeEnd 1 := ⟨rfl, gw (i := 894) (by decide +kernel) (by decide +kernel), gw (i := 53) (by decide +kernel) (by decide +kernel), by decide +kernel, by decide +kernel⟩
theorem cl_X7_executeNumber : CL mX7_executeNumber 1 := ⟨rfl, gw (i := 890) (by decide +kernel) (by decide +kernel), gw (i := 53) (by decide +kernel) (by decide +kernel), by decide +kernel, by decide +kernel⟩
theorem cl_X7_executeMove : CL mX7_executeMove 1 := ⟨rfl, gw (i := 875) (by decide +kernel) (by decide +kernel), gw (i := 53) (by decide +kernel) (by decide +kernel), by decide +kernel, by decide +kernel⟩
theorem cl_X7_pushOfType : CL mX7_pushOfType 1 := ⟨rfl, gw (i := 846) (by decide +kernel) (by decide +kernel), gw (i := 53) (by decide +kernel) (by decide +kernel), by decide +kernel, by decide +kernel⟩
theorem cl_X7_popOfType : CL mX7_popOfType 1 := ⟨rfl, gw (i := 854) (by decide +kernel) (by decide +kernel), gw (i := 53) (by decide +kernel) (by decide +kernel), by decide +kernel, by decide +kernel⟩
theorem cl_X7_initialize : CL mX7_initialize 1 := ⟨rfl, gw (i := 920) (by decide +kernel) (by decide +kernel), gw (i := 53) (by decide +kernel) (by decide +kernel), by decide +kernel, by decide +kernel⟩
theorem cl_X8_parameterType : CL mX8_parameterType 2 := ⟨rfl, gw (i := 758) (by decide +kernel) (by decide +kernel), gw (i := 46) (by decide +kernel) (by decide +kernel), by decide +kernel, by decide +kernel⟩
theorem cl_X7_popSlot : CL mX7_popSlot 0 := ⟨rfl, gw (i := 858) (by decide +kernel) (by decide +kernel), gw (i := 53) (by decide +kernel) (by decide +kernel), by decide +kernel, by decide +kernel⟩
theorem cl_X7_require : CL mX7_require 2 := ⟨rfl, gw (i := 842) (by decide +kernel) (by decide +kernel), gw (i := 53) (by decide +kernel) (by decide +kernel), by decide +kernel, by decide +kernel⟩
theorem cl_X3_replaceLocals : CL mX3_replaceLocals 2 := ⟨rfl, gw (i := 911) (by decide +kernel) (by decide +kernel), gw (i := 48) (by decide +kernel) (by decide +kernel), by decide +kernel, by decide +kernel⟩
theorem cl_X3_replaceStack : CL mX3_replaceStack 2 := ⟨rfl, gw (i := 929) (by decide +kernel) (by decide +kernel), gw (i := 48) (by decide +kernel) (by decide +kernel), by decide +kernel, by decide +kernel⟩
theorem cl_X1_creates : CL mX1_creates 2 := ⟨rfl, gw (i := 924) (by decide +kernel) (by decide +kernel), gw (i := 47) (by decide +kernel) (by decide +kernel), by decide +kernel, by decide +kernel⟩
theorem cl_X10_fits : CL mX10_fits 2 := ⟨rfl, gw (i := 824) (by decide +kernel) (by decide +kernel), gw (i := 45) (by decide +kernel) (by decide +kernel), by decide +kernel, by decide +kernel⟩
theorem cl_X10_isInterface : CL mX10_isInterface 1 := ⟨rfl, gw (i := 577) (by decide +kernel) (by decide +kernel), gw (i := 45) (by decide +kernel) (by decide +kernel), by decide +kernel, by decide +kernel⟩
theorem cl_X7_push : CL mX7_push 1 := ⟨rfl, gw (i := 838) (by decide +kernel) (by decide +kernel), gw (i := 53) (by decide +kernel) (by decide +kernel), by decide +kernel, by decide +kernel⟩
theorem cl_X3_hasOnStack : CL mX3_hasOnStack 1 := ⟨rfl, gw (i := 907) (by decide +kernel) (by decide +kernel), gw (i := 48) (by decide +kernel) (by decide +kernel), by decide +kernel, by decide +kernel⟩
theorem cl_X7_popReferenceArray : CL mX7_popReferenceArray 0 := ⟨rfl, gw (i := 937) (by decide +kernel) (by decide +kernel), gw (i := 53) (by decide +kernel) (by decide +kernel), by decide +kernel, by decide +kernel⟩
theorem cl_X7_popReference : CL mX7_popReference 0 := ⟨rfl, gw (i := 898) (by decide +kernel) (by decide +kernel), gw (i := 53) (by decide +kernel) (by decide +kernel), by decide +kernel, by decide +kernel⟩
theorem cl_X7_isArrayType : CL mX7_isArrayType 1 := ⟨rfl, gw (i := 940) (by decide +kernel) (by decide +kernel), gw (i := 53) (by decide +kernel) (by decide +kernel), by decide +kernel, by decide +kernel⟩
theorem cl_X7_isAnyReference : CL mX7_isAnyReference 1 := ⟨rfl, gw (i := 849) (by decide +kernel) (by decide +kernel), gw (i := 53) (by decide +kernel) (by decide +kernel), by decide +kernel, by decide +kernel⟩
theorem cl_X7_store : CL mX7_store 2 := ⟨rfl, gw (i := 863) (by decide +kernel) (by decide +kernel), gw (i := 53) (by decide +kernel) (by decide +kernel), by decide +kernel, by decide +kernel⟩
theorem cl_X7_popAnyReference : CL mX7_popAnyReference 0 := ⟨rfl, gw (i := 871) (by decide +kernel) (by decide +kernel), gw (i := 53) (by decide +kernel) (by decide +kernel), by decide +kernel, by decide +kernel⟩
theorem cl_X7_breakLong : CL mX7_breakLong 1 := ⟨rfl, gw (i := 867) (by decide +kernel) (by decide +kernel), gw (i := 53) (by decide +kernel) (by decide +kernel), by decide +kernel, by decide +kernel⟩
theorem cl_X7_movePair : CL mX7_movePair 1 := ⟨rfl, gw (i := 879) (by decide +kernel) (by decide +kernel), gw (i := 53) (by decide +kernel) (by decide +kernel), by decide +kernel, by decide +kernel⟩
theorem cl_X7_popWhole : CL mX7_popWhole 0 := ⟨rfl, gw (i := 886) (by decide +kernel) (by decide +kernel), gw (i := 53) (by decide +kernel) (by decide +kernel), by decide +kernel, by decide +kernel⟩
theorem cl_X7_isWhole : CL mX7_isWhole 1 := ⟨rfl, gw (i := 882) (by decide +kernel) (by decide +kernel), gw (i := 53) (by decide +kernel) (by decide +kernel), by decide +kernel, by decide +kernel⟩
theorem cl_X7_popFieldObject : CL mX7_popFieldObject 1 := ⟨rfl, gw (i := 948) (by decide +kernel) (by decide +kernel), gw (i := 53) (by decide +kernel) (by decide +kernel), by decide +kernel, by decide +kernel⟩
theorem cl_X0_makeFirstFrame : CL mX0_makeFirstFrame 1 := ⟨rfl, gw (i := 753) (by decide +kernel) (by decide +kernel), gw (i := 50) (by decide +kernel) (by decide +kernel), by decide +kernel, by decide +kernel⟩
theorem cl_X3_clear : CL mX3_clear 0 := ⟨rfl, gw (i := 264) (by decide +kernel) (by decide +kernel), gw (i := 48) (by decide +kernel) (by decide +kernel), by decide +kernel, by decide +kernel⟩
theorem cl_X11_slotsOf : CL mX11_slotsOf 1 := ⟨rfl, gw (i := 559) (by decide +kernel) (by decide +kernel), gw (i := 44) (by decide +kernel) (by decide +kernel), by decide +kernel, by decide +kernel⟩
theorem cl_X6_enter : CL mX6_enter 2 := ⟨rfl, gw (i := 973) (by decide +kernel) (by decide +kernel), gw (i := 54) (by decide +kernel) (by decide +kernel), by decide +kernel, by decide +kernel⟩
theorem cl_X6_flow : CL mX6_flow 3 := ⟨rfl, gw (i := 815) (by decide +kernel) (by decide +kernel), gw (i := 54) (by decide +kernel) (by decide +kernel), by decide +kernel, by decide +kernel⟩
theorem cl_X10_frameFits : CL mX10_frameFits 2 := ⟨rfl, gw (i := 820) (by decide +kernel) (by decide +kernel), gw (i := 45) (by decide +kernel) (by decide +kernel), by decide +kernel, by decide +kernel⟩
theorem cl_X8_dropParameters : CL mX8_dropParameters 0 := ⟨rfl, gw (i := 581) (by decide +kernel) (by decide +kernel), gw (i := 46) (by decide +kernel) (by decide +kernel), by decide +kernel, by decide +kernel⟩
theorem cl_X10_add : CL mX10_add 2 := ⟨rfl, gw (i := 547) (by decide +kernel) (by decide +kernel), gw (i := 45) (by decide +kernel) (by decide +kernel), by decide +kernel, by decide +kernel⟩
theorem cl_X8_addParameter : CL mX8_addParameter 1 := ⟨rfl, gw (i := 564) (by decide +kernel) (by decide +kernel), gw (i := 46) (by decide +kernel) (by decide +kernel), by decide +kernel, by decide +kernel⟩
theorem cl_X11_isMethodAllowed : CL mX11_isMethodAllowed 3 := ⟨rfl, gw (i := 573) (by decide +kernel) (by decide +kernel), gw (i := 44) (by decide +kernel) (by decide +kernel), by decide +kernel, by decide +kernel⟩
theorem cl_X8_addMethod : CL mX8_addMethod 3 := ⟨rfl, gw (i := 587) (by decide +kernel) (by decide +kernel), gw (i := 46) (by decide +kernel) (by decide +kernel), by decide +kernel, by decide +kernel⟩
theorem cl_X1_start : CL mX1_start 3 := ⟨rfl, gw (i := 620) (by decide +kernel) (by decide +kernel), gw (i := 47) (by decide +kernel) (by decide +kernel), by decide +kernel, by decide +kernel⟩
theorem cl_X1_addInstruction : CL mX1_addInstruction 2 := ⟨rfl, gw (i := 638) (by decide +kernel) (by decide +kernel), gw (i := 47) (by decide +kernel) (by decide +kernel), by decide +kernel, by decide +kernel⟩
theorem cl_X1_addProtection : CL mX1_addProtection 4 := ⟨rfl, gw (i := 648) (by decide +kernel) (by decide +kernel), gw (i := 47) (by decide +kernel) (by decide +kernel), by decide +kernel, by decide +kernel⟩
theorem cl_X11_adoptAtJumps : CL mX11_adoptAtJumps 0 := ⟨rfl, gw (i := 657) (by decide +kernel) (by decide +kernel), gw (i := 44) (by decide +kernel) (by decide +kernel), by decide +kernel, by decide +kernel⟩
theorem cl_X11_adoptAtHandlers : CL mX11_adoptAtHandlers 0 := ⟨rfl, gw (i := 681) (by decide +kernel) (by decide +kernel), gw (i := 44) (by decide +kernel) (by decide +kernel), by decide +kernel, by decide +kernel⟩
theorem cl_X11_adoptBehindEnds : CL mX11_adoptBehindEnds 0 := ⟨rfl, gw (i := 689) (by decide +kernel) (by decide +kernel), gw (i := 44) (by decide +kernel) (by decide +kernel), by decide +kernel, by decide +kernel⟩
theorem cl_X11_adoptAt : CL mX11_adoptAt 1 := ⟨rfl, gw (i := 668) (by decide +kernel) (by decide +kernel), gw (i := 44) (by decide +kernel) (by decide +kernel), by decide +kernel, by decide +kernel⟩
theorem cl_X11_requireCode : CL mX11_requireCode 0 := ⟨rfl, gw (i := 700) (by decide +kernel) (by decide +kernel), gw (i := 44) (by decide +kernel) (by decide +kernel), by decide +kernel, by decide +kernel⟩
theorem cl_X5_run : CL mX5_run 0 := ⟨rfl, gw (i := 705) (by decide +kernel) (by decide +kernel), gw (i := 51) (by decide +kernel) (by decide +kernel), by decide +kernel, by decide +kernel⟩
theorem cl_X6_run : CL mX6_run 0 := ⟨rfl, gw (i := 963) (by decide +kernel) (by decide +kernel), gw (i := 54) (by decide +kernel) (by decide +kernel), by decide +kernel, by decide +kernel⟩
theorem cl_X11_requireIndex : CL mX11_requireIndex 1 := ⟨rfl, gw (i := 994) (by decide +kernel) (by decide +kernel), gw (i := 44) (by decide +kernel) (by decide +kernel), by decide +kernel, by decide +kernel⟩
theorem cl_X11_requireFrame : CL mX11_requireFrame 1 := ⟨rfl, gw (i := 1027) (by decide +kernel) (by decide +kernel), gw (i := 44) (by decide +kernel) (by decide +kernel), by decide +kernel, by decide +kernel⟩
theorem cl_X11_addFrame : CL mX11_addFrame 2 := ⟨rfl, gw (i := 1005) (by decide +kernel) (by decide +kernel), gw (i := 44) (by decide +kernel) (by decide +kernel), by decide +kernel, by decide +kernel⟩
theorem p_X1_30_0 : PL false RX1 30 0 0 (.boolean) := ⟨RX1, TX1, 12, "CodeVerifier$Code", tyX1, rfl, by decide, ig_X1, gw (i := 157) (by decide +kernel) (by decide +kernel), Or.inl rfl, rfl, by decide +kernel, tyX1_ok, nmX1, fun h => by cases h⟩
theorem p_X1_34_0 : PL false RX1 34 0 1 (.int) := ⟨RX1, TX1, 12, "CodeVerifier$Code", tyX1, rfl, by decide, ig_X1, gw (i := 159) (by decide +kernel) (by decide +kernel), Or.inl rfl, rfl, by decide +kernel, tyX1_ok, nmX1, fun h => by cases h⟩
theorem p_X1_38_0 : PL false RX1 38 0 2 (.int) := ⟨RX1, TX1, 12, "CodeVerifier$Code", tyX1, rfl, by decide, ig_X1, gw (i := 163) (by decide +kernel) (by decide +kernel), Or.inl rfl, rfl, by decide +kernel, tyX1_ok, nmX1, fun h => by cases h⟩
theorem p_X1_41_0 : PL false RX1 41 0 3 (.int) := ⟨RX1, TX1, 12, "CodeVerifier$Code", tyX1, rfl, by decide, ig_X1, gw (i := 166) (by decide +kernel) (by decide +kernel), Or.inl rfl, rfl, by decide +kernel, tyX1_ok, nmX1, fun h => by cases h⟩
theorem p_X1_44_0 : PL false RX1 44 0 6 (.int) := ⟨RX1, TX1, 12, "CodeVerifier$Code", tyX1, rfl, by decide, ig_X1, gw (i := 181) (by decide +kernel) (by decide +kernel), Or.inl rfl, rfl, by decide +kernel, tyX1_ok, nmX1, fun h => by cases h⟩
theorem p_X1_47_0 : PL false RX1 47 0 11 (.int) := ⟨RX1, TX1, 12, "CodeVerifier$Code", tyX1, rfl, by decide, ig_X1, gw (i := 195) (by decide +kernel) (by decide +kernel), Or.inl rfl, rfl, by decide +kernel, tyX1_ok, nmX1, fun h => by cases h⟩
theorem f_X1_9_0 : FL RX1 9 0 4 := ⟨RX1, TX1, 12, "CodeVerifier$Code", rfl, by decide, ig_X1, gw (i := 169) (by decide +kernel) (by decide +kernel), Or.inl rfl⟩
theorem f_X1_44_0 : FL RX1 44 0 6 := ⟨RX1, TX1, 12, "CodeVerifier$Code", rfl, by decide, ig_X1, gw (i := 181) (by decide +kernel) (by decide +kernel), Or.inl rfl⟩
theorem f_X1_15_0 : FL RX1 15 0 5 := ⟨RX1, TX1, 12, "CodeVerifier$Code", rfl, by decide, ig_X1, gw (i := 175) (by decide +kernel) (by decide +kernel), Or.inl rfl⟩
theorem f_X1_18_0 : FL RX1 18 0 7 := ⟨RX1, TX1, 12, "CodeVerifier$Code", rfl, by decide, ig_X1, gw (i := 185) (by decide +kernel) (by decide +kernel), Or.inl rfl⟩
theorem f_X1_47_0 : FL RX1 47 0 11 := ⟨RX1, TX1, 12, "CodeVerifier$Code", rfl, by decide, ig_X1, gw (i := 195) (by decide +kernel) (by decide +kernel), Or.inl rfl⟩
theorem f_X1_21_0 : FL RX1 21 0 8 := ⟨RX1, TX1, 12, "CodeVerifier$Code", rfl, by decide, ig_X1, gw (i := 187) (by decide +kernel) (by decide +kernel), Or.inl rfl⟩
theorem f_X1_24_0 : FL RX1 24 0 9 := ⟨RX1, TX1, 12, "CodeVerifier$Code", rfl, by decide, ig_X1, gw (i := 189) (by decide +kernel) (by decide +kernel), Or.inl rfl⟩
theorem f_X1_27_0 : FL RX1 27 0 10 := ⟨RX1, TX1, 12, "CodeVerifier$Code", rfl, by decide, ig_X1, gw (i := 193) (by decide +kernel) (by decide +kernel), Or.inl rfl⟩
theorem v_X1_50 : VL RX1 50 mX1_isIndex 1 := ⟨cl_X1_isIndex, gw (i := 925) (by decide +kernel) (by decide +kernel), gw (i := 722) (by decide +kernel) (by decide +kernel), gw (i := 723) (by decide +kernel) (by decide +kernel)⟩
theorem p_X2_23_1 : PL false RX2 23 1 3 (.int) := ⟨RX2, TX2, 4, "CodeVerifier$Examination", tyX2, rfl, by decide, ig_X2, gw (i := 308) (by decide +kernel) (by decide +kernel), Or.inl rfl, rfl, by decide +kernel, tyX2_ok, nmX2, fun h => by cases h⟩
theorem f_X2_19_1 : FL RX2 19 1 2 := ⟨RX2, TX2, 4, "CodeVerifier$Examination", rfl, by decide, ig_X2, gw (i := 307) (by decide +kernel) (by decide +kernel), Or.inl rfl⟩
theorem f_X2_27_0 : FL RX2 27 0 6 := ⟨RX1, TX1, 12, "CodeVerifier$Code", rfl, by decide, ig_X1, gw (i := 180) (by decide +kernel) (by decide +kernel), Or.inl rfl⟩
theorem f_X2_43_0 : FL RX2 43 0 11 := ⟨RX1, TX1, 12, "CodeVerifier$Code", rfl, by decide, ig_X1, gw (i := 196) (by decide +kernel) (by decide +kernel), Or.inl rfl⟩
theorem f_X2_15_1 : FL RX2 15 1 1 := ⟨RX2, TX2, 4, "CodeVerifier$Examination", rfl, by decide, ig_X2, gw (i := 306) (by decide +kernel) (by decide +kernel), Or.inl rfl⟩
theorem f_X2_50_0 : FL RX2 50 0 1 := ⟨RX1, TX1, 12, "CodeVerifier$Code", rfl, by decide, ig_X1, gw (i := 160) (by decide +kernel) (by decide +kernel), Or.inl rfl⟩
theorem v_X2_53 : VL RX2 53 mX8_slotsNeeded 1 := ⟨cl_X8_slotsNeeded, gw (i := 743) (by decide +kernel) (by decide +kernel), gw (i := 626) (by decide +kernel) (by decide +kernel), gw (i := 627) (by decide +kernel) (by decide +kernel)⟩
theorem f_X2_59_0 : FL RX2 59 0 3 := ⟨RX1, TX1, 12, "CodeVerifier$Code", rfl, by decide, ig_X1, gw (i := 167) (by decide +kernel) (by decide +kernel), Or.inl rfl⟩
theorem v_X2_46 : VL RX2 46 mX2_isHandlerAllowed 1 := ⟨cl_X2_isHandlerAllowed, gw (i := 739) (by decide +kernel) (by decide +kernel), gw (i := 741) (by decide +kernel) (by decide +kernel), gw (i := 12) (by decide +kernel) (by decide +kernel)⟩
theorem f_X2_32_0 : FL RX2 32 0 4 := ⟨RX1, TX1, 12, "CodeVerifier$Code", rfl, by decide, ig_X1, gw (i := 171) (by decide +kernel) (by decide +kernel), Or.inl rfl⟩
theorem f_X2_36_0 : FL RX2 36 0 5 := ⟨RX1, TX1, 12, "CodeVerifier$Code", rfl, by decide, ig_X1, gw (i := 177) (by decide +kernel) (by decide +kernel), Or.inl rfl⟩
theorem v_X2_39 : VL RX2 39 mX2_isOperandAllowed 2 := ⟨cl_X2_isOperandAllowed, gw (i := 717) (by decide +kernel) (by decide +kernel), gw (i := 719) (by decide +kernel) (by decide +kernel), gw (i := 11) (by decide +kernel) (by decide +kernel)⟩
theorem f_X2_82_0 : FL RX2 82 0 7 := ⟨RX1, TX1, 12, "CodeVerifier$Code", rfl, by decide, ig_X1, gw (i := 186) (by decide +kernel) (by decide +kernel), Or.inl rfl⟩
theorem f_X2_85_0 : FL RX2 85 0 8 := ⟨RX1, TX1, 12, "CodeVerifier$Code", rfl, by decide, ig_X1, gw (i := 188) (by decide +kernel) (by decide +kernel), Or.inl rfl⟩
theorem f_X2_88_0 : FL RX2 88 0 9 := ⟨RX1, TX1, 12, "CodeVerifier$Code", rfl, by decide, ig_X1, gw (i := 190) (by decide +kernel) (by decide +kernel), Or.inl rfl⟩
theorem v_X2_62 : VL RX2 62 mX1_isIndex 1 := ⟨cl_X1_isIndex, gw (i := 721) (by decide +kernel) (by decide +kernel), gw (i := 722) (by decide +kernel) (by decide +kernel), gw (i := 723) (by decide +kernel) (by decide +kernel)⟩
theorem v_X2_65 : VL RX2 65 mX8_isField 1 := ⟨cl_X8_isField, gw (i := 725) (by decide +kernel) (by decide +kernel), gw (i := 726) (by decide +kernel) (by decide +kernel), gw (i := 727) (by decide +kernel) (by decide +kernel)⟩
theorem f_X2_9_1 : FL RX2 9 1 0 := ⟨RX2, TX2, 4, "CodeVerifier$Examination", rfl, by decide, ig_X2, gw (i := 305) (by decide +kernel) (by decide +kernel), Or.inl rfl⟩
theorem v_X2_68 : VL RX2 68 mX10_isClass 1 := ⟨cl_X10_isClass, gw (i := 729) (by decide +kernel) (by decide +kernel), gw (i := 456) (by decide +kernel) (by decide +kernel), gw (i := 457) (by decide +kernel) (by decide +kernel)⟩
theorem v_X2_73 : VL RX2 73 mX8_isMethodOfKind 2 := ⟨cl_X8_isMethodOfKind, gw (i := 730) (by decide +kernel) (by decide +kernel), gw (i := 731) (by decide +kernel) (by decide +kernel), gw (i := 732) (by decide +kernel) (by decide +kernel)⟩
theorem v_X2_76 : VL RX2 76 mX10_isType 1 := ⟨cl_X10_isType, gw (i := 735) (by decide +kernel) (by decide +kernel), gw (i := 553) (by decide +kernel) (by decide +kernel), gw (i := 554) (by decide +kernel) (by decide +kernel)⟩
theorem s_X2_79 : SL RX2 79 mX11_isReferenceType 1 := ⟨cl_X11_isReferenceType, Or.inr ⟨"CodeVerifier", List.mem_filter.mpr ⟨List.mem_of_getElem? (i := 732) (by decide +kernel), rfl⟩⟩, gw (i := 737) (by decide +kernel) (by decide +kernel)⟩
theorem f_X10_19_8 : FL RX10 19 8 2 := ⟨RX10, TX10, 3, "CodeVerifier$Types", rfl, by decide, ig_X10, gw (i := 82) (by decide +kernel) (by decide +kernel), Or.inl rfl⟩
theorem f_X10_15_8 : FL RX10 15 8 1 := ⟨RX10, TX10, 3, "CodeVerifier$Types", rfl, by decide, ig_X10, gw (i := 81) (by decide +kernel) (by decide +kernel), Or.inl rfl⟩
theorem f_X8_39_7 : FL RX8 39 7 2 := ⟨RX8, TX8, 13, "CodeVerifier$Members", rfl, by decide, ig_X8, gw (i := 103) (by decide +kernel) (by decide +kernel), Or.inl rfl⟩
theorem v_X8_46 : VL RX8 46 mX8_isMethod 1 := ⟨cl_X8_isMethod, gw (i := 734) (by decide +kernel) (by decide +kernel), gw (i := 597) (by decide +kernel) (by decide +kernel), gw (i := 598) (by decide +kernel) (by decide +kernel)⟩
theorem f_X8_21_7 : FL RX8 21 7 4 := ⟨RX8, TX8, 13, "CodeVerifier$Members", rfl, by decide, ig_X8, gw (i := 109) (by decide +kernel) (by decide +kernel), Or.inl rfl⟩
theorem f_X8_43_7 : FL RX8 43 7 9 := ⟨RX8, TX8, 13, "CodeVerifier$Members", rfl, by decide, ig_X8, gw (i := 118) (by decide +kernel) (by decide +kernel), Or.inl rfl⟩
theorem f_X8_30_7 : FL RX8 30 7 7 := ⟨RX8, TX8, 13, "CodeVerifier$Members", rfl, by decide, ig_X8, gw (i := 116) (by decide +kernel) (by decide +kernel), Or.inl rfl⟩
theorem p_X3_18_2 : PL false RX3 18 2 2 (.int) := ⟨RX3, TX3, 4, "CodeVerifier$Frame", tyX3, rfl, by decide, ig_X3, gw (i := 241) (by decide +kernel) (by decide +kernel), Or.inl rfl, rfl, by decide +kernel, tyX3_ok, nmX3, fun h => by cases h⟩
theorem p_X3_22_2 : PL false RX3 22 2 3 (.boolean) := ⟨RX3, TX3, 4, "CodeVerifier$Frame", tyX3, rfl, by decide, ig_X3, gw (i := 246) (by decide +kernel) (by decide +kernel), Or.inl rfl, rfl, by decide +kernel, tyX3_ok, nmX3, fun h => by cases h⟩
theorem f_X3_9_2 : FL RX3 9 2 0 := ⟨RX3, TX3, 4, "CodeVerifier$Frame", rfl, by decide, ig_X3, gw (i := 230) (by decide +kernel) (by decide +kernel), Or.inl rfl⟩
theorem a_X3_26 : AL RX3 26 := ⟨gw (i := 677) (by decide +kernel) (by decide +kernel), gw (i := 590) (by decide +kernel) (by decide +kernel), gw (i := 589) (by decide +kernel) (by decide +kernel), gw (i := 60) (by decide +kernel) (by decide +kernel)⟩
theorem f_X3_15_2 : FL RX3 15 2 1 := ⟨RX3, TX3, 4, "CodeVerifier$Frame", rfl, by decide, ig_X3, gw (i := 236) (by decide +kernel) (by decide +kernel), Or.inl rfl⟩
theorem f_X3_18_2 : FL RX3 18 2 2 := ⟨RX3, TX3, 4, "CodeVerifier$Frame", rfl, by decide, ig_X3, gw (i := 241) (by decide +kernel) (by decide +kernel), Or.inl rfl⟩
theorem f_X3_22_2 : FL RX3 22 2 3 := ⟨RX3, TX3, 4, "CodeVerifier$Frame", rfl, by decide, ig_X3, gw (i := 246) (by decide +kernel) (by decide +kernel), Or.inl rfl⟩
theorem v_X3_32 : VL RX3 32 mX3_copyFrom 1 := ⟨cl_X3_copyFrom, gw (i := 782) (by decide +kernel) (by decide +kernel), gw (i := 674) (by decide +kernel) (by decide +kernel), gw (i := 675) (by decide +kernel) (by decide +kernel)⟩
theorem p_X4_22_3 : PL false RX4 22 3 2 (.int) := ⟨RX4, TX4, 3, "CodeVerifier$FrameTable", tyX4, rfl, by decide, ig_X4, gw (i := 279) (by decide +kernel) (by decide +kernel), Or.inl rfl, rfl, by decide +kernel, tyX4_ok, nmX4, fun h => by cases h⟩
theorem f_X4_17_3 : FL RX4 17 3 1 := ⟨RX4, TX4, 3, "CodeVerifier$FrameTable", rfl, by decide, ig_X4, gw (i := 278) (by decide +kernel) (by decide +kernel), Or.inl rfl⟩
theorem f_X4_11_3 : FL RX4 11 3 0 := ⟨RX4, TX4, 3, "CodeVerifier$FrameTable", rfl, by decide, ig_X4, gw (i := 274) (by decide +kernel) (by decide +kernel), Or.inl rfl⟩
theorem v_X4_26 : VL RX4 26 mX3_copyFrom 1 := ⟨cl_X3_copyFrom, gw (i := 673) (by decide +kernel) (by decide +kernel), gw (i := 674) (by decide +kernel) (by decide +kernel), gw (i := 675) (by decide +kernel) (by decide +kernel)⟩
theorem f_X4_22_3 : FL RX4 22 3 2 := ⟨RX4, TX4, 3, "CodeVerifier$FrameTable", rfl, by decide, ig_X4, gw (i := 279) (by decide +kernel) (by decide +kernel), Or.inl rfl⟩
theorem f_X5_15_4 : FL RX5 15 4 9 := ⟨RX5, TX5, 11, "CodeVerifier$Inference", rfl, by decide, ig_X5, gw (i := 343) (by decide +kernel) (by decide +kernel), Or.inl rfl⟩
theorem v_X5_19 : VL RX5 19 mX4_clear 0 := ⟨cl_X4_clear, gw (i := 706) (by decide +kernel) (by decide +kernel), gw (i := 622) (by decide +kernel) (by decide +kernel), gw (i := 623) (by decide +kernel) (by decide +kernel)⟩
theorem u_X5_25_4 : UL RX5 25 RX5 "CodeVerifier$Analysis" ⟨"CodeVerifier$Inference", "examine", "()I"⟩ mX0_examine 0 := ⟨cl_X0_examine, gw (i := 707) (by decide +kernel) (by decide +kernel), gw (i := 708) (by decide +kernel) (by decide +kernel), Or.inl rfl, gw (i := 710) (by decide +kernel) (by decide +kernel), gw (i := 711) (by decide +kernel) (by decide +kernel), by decide +kernel, rfl⟩
theorem c1_X5_32 : Cond.constant RX5 32 1000000 ∈ GW := gw (i := 761) (by decide +kernel) (by decide +kernel)
theorem v_X5_33 : VL RX5 33 mX5_takePending 0 := ⟨cl_X5_takePending, gw (i := 762) (by decide +kernel) (by decide +kernel), gw (i := 764) (by decide +kernel) (by decide +kernel), gw (i := 14) (by decide +kernel) (by decide +kernel)⟩
theorem f_X5_36_4 : FL RX5 36 4 2 := ⟨RX5, TX5, 11, "CodeVerifier$Inference", rfl, by decide, ig_X5, gw (i := 358) (by decide +kernel) (by decide +kernel), Or.inr (gw (i := 359) (by decide +kernel) (by decide +kernel))⟩
theorem f_X5_40_3 : FL RX5 40 3 0 := ⟨RX4, TX4, 3, "CodeVerifier$FrameTable", rfl, by decide, ig_X4, gw (i := 275) (by decide +kernel) (by decide +kernel), Or.inl rfl⟩
theorem v_X5_44 : VL RX5 44 mX3_copyFrom 1 := ⟨cl_X3_copyFrom, gw (i := 766) (by decide +kernel) (by decide +kernel), gw (i := 674) (by decide +kernel) (by decide +kernel), gw (i := 675) (by decide +kernel) (by decide +kernel)⟩
theorem u_X5_50_4 : UL RX5 50 RX5 "CodeVerifier$Analysis" ⟨"CodeVerifier$Inference", "process", "(I)I"⟩ mX0_process 1 := ⟨cl_X0_process, gw (i := 767) (by decide +kernel) (by decide +kernel), gw (i := 768) (by decide +kernel) (by decide +kernel), Or.inl rfl, gw (i := 770) (by decide +kernel) (by decide +kernel), gw (i := 771) (by decide +kernel) (by decide +kernel), by decide +kernel, rfl⟩
theorem v_X5_29 : VL RX5 29 mX5_setFirstFrame 0 := ⟨cl_X5_setFirstFrame, gw (i := 744) (by decide +kernel) (by decide +kernel), gw (i := 746) (by decide +kernel) (by decide +kernel), gw (i := 13) (by decide +kernel) (by decide +kernel)⟩
theorem f_X0_38_4 : FL RX0 38 4 6 := ⟨RX5, TX5, 11, "CodeVerifier$Analysis", rfl, by decide, ig_X5, gw (i := 372) (by decide +kernel) (by decide +kernel), Or.inl rfl⟩
theorem v_X0_56 : VL RX0 56 mX2_run 0 := ⟨cl_X2_run, gw (i := 713) (by decide +kernel) (by decide +kernel), gw (i := 714) (by decide +kernel) (by decide +kernel), gw (i := 715) (by decide +kernel) (by decide +kernel)⟩
theorem f_X0_60_1 : FL RX0 60 1 3 := ⟨RX2, TX2, 4, "CodeVerifier$Examination", rfl, by decide, ig_X2, gw (i := 309) (by decide +kernel) (by decide +kernel), Or.inl rfl⟩
theorem p_X0_49_4 : PL false RX0 49 4 3 (.int) := ⟨RX5, TX5, 11, "CodeVerifier$Analysis", tyX5, rfl, by decide, ig_X5, gw (i := 360) (by decide +kernel) (by decide +kernel), Or.inl rfl, rfl, by decide +kernel, tyX5_ok, nmX5, fun h => by cases h⟩
theorem p_X0_53_4 : PL false RX0 53 4 4 (.int) := ⟨RX5, TX5, 11, "CodeVerifier$Analysis", tyX5, rfl, by decide, ig_X5, gw (i := 366) (by decide +kernel) (by decide +kernel), Or.inl rfl, rfl, by decide +kernel, tyX5_ok, nmX5, fun h => by cases h⟩
theorem f_X0_53_4 : FL RX0 53 4 4 := ⟨RX5, TX5, 11, "CodeVerifier$Analysis", rfl, by decide, ig_X5, gw (i := 366) (by decide +kernel) (by decide +kernel), Or.inl rfl⟩
theorem u_X0_96_4 : UL RX0 96 RX5 "CodeVerifier$Analysis" ⟨"CodeVerifier$Analysis", "flowToHandlers", "(I)I"⟩ mX0_flowToHandlers 1 := ⟨cl_X0_flowToHandlers, gw (i := 773) (by decide +kernel) (by decide +kernel), gw (i := 1055) (by decide +kernel) (by decide +kernel), Or.inl rfl, gw (i := 0) (by decide +kernel) (by decide +kernel), gw (i := 775) (by decide +kernel) (by decide +kernel), by decide +kernel, rfl⟩
theorem u_X0_103_4 : UL RX0 103 RX5 "CodeVerifier$Analysis" ⟨"CodeVerifier$Analysis", "flowToSuccessors", "(I)I"⟩ mX0_flowToSuccessors 1 := ⟨cl_X0_flowToSuccessors, gw (i := 949) (by decide +kernel) (by decide +kernel), gw (i := 1056) (by decide +kernel) (by decide +kernel), Or.inl rfl, gw (i := 1) (by decide +kernel) (by decide +kernel), gw (i := 951) (by decide +kernel) (by decide +kernel), by decide +kernel, rfl⟩
theorem f_X0_45_4 : FL RX0 45 4 7 := ⟨RX5, TX5, 11, "CodeVerifier$Analysis", rfl, by decide, ig_X5, gw (i := 373) (by decide +kernel) (by decide +kernel), Or.inl rfl⟩
theorem f_X0_12_4 : FL RX0 12 4 2 := ⟨RX5, TX5, 11, "CodeVerifier$Analysis", rfl, by decide, ig_X5, gw (i := 355) (by decide +kernel) (by decide +kernel), Or.inl rfl⟩
theorem v_X0_99 : VL RX0 99 mX7_execute 2 := ⟨cl_X7_execute, gw (i := 827) (by decide +kernel) (by decide +kernel), gw (i := 828) (by decide +kernel) (by decide +kernel), gw (i := 829) (by decide +kernel) (by decide +kernel)⟩
theorem f_X0_29_4 : FL RX0 29 4 0 := ⟨RX5, TX5, 11, "CodeVerifier$Analysis", rfl, by decide, ig_X5, gw (i := 345) (by decide +kernel) (by decide +kernel), Or.inl rfl⟩
theorem f_X0_106_0 : FL RX0 106 0 11 := ⟨RX1, TX1, 12, "CodeVerifier$Code", rfl, by decide, ig_X1, gw (i := 197) (by decide +kernel) (by decide +kernel), Or.inl rfl⟩
theorem v_X0_109 : VL RX0 109 mX1_protects 2 := ⟨cl_X1_protects, gw (i := 777) (by decide +kernel) (by decide +kernel), gw (i := 683) (by decide +kernel) (by decide +kernel), gw (i := 684) (by decide +kernel) (by decide +kernel)⟩
theorem f_X0_113_0 : FL RX0 113 0 2 := ⟨RX1, TX1, 12, "CodeVerifier$Code", rfl, by decide, ig_X1, gw (i := 164) (by decide +kernel) (by decide +kernel), Or.inl rfl⟩
theorem f_X0_18_4 : FL RX0 18 4 8 := ⟨RX5, TX5, 11, "CodeVerifier$Analysis", rfl, by decide, ig_X5, gw (i := 374) (by decide +kernel) (by decide +kernel), Or.inl rfl⟩
theorem f_X0_116_0 : FL RX0 116 0 10 := ⟨RX1, TX1, 12, "CodeVerifier$Code", rfl, by decide, ig_X1, gw (i := 194) (by decide +kernel) (by decide +kernel), Or.inl rfl⟩
theorem v_X0_119 : VL RX0 119 mX3_copyCaught 2 := ⟨cl_X3_copyCaught, gw (i := 778) (by decide +kernel) (by decide +kernel), gw (i := 779) (by decide +kernel) (by decide +kernel), gw (i := 780) (by decide +kernel) (by decide +kernel)⟩
theorem f_X0_123_0 : FL RX0 123 0 9 := ⟨RX1, TX1, 12, "CodeVerifier$Code", rfl, by decide, ig_X1, gw (i := 191) (by decide +kernel) (by decide +kernel), Or.inl rfl⟩
theorem u_X0_126_4 : UL RX0 126 RX5 "CodeVerifier$Analysis" ⟨"CodeVerifier$Analysis", "flow", "(ILCodeVerifier$Frame;Z)I"⟩ mX5_flow 3 := ⟨cl_X5_flow, gw (i := 783) (by decide +kernel) (by decide +kernel), gw (i := 785) (by decide +kernel) (by decide +kernel), Or.inr (List.mem_filter.mpr ⟨List.mem_of_getElem? (i := 780) (by decide +kernel), rfl⟩), gw (i := 786) (by decide +kernel) (by decide +kernel), gw (i := 787) (by decide +kernel) (by decide +kernel), by decide +kernel, rfl⟩
theorem v_X5_71 : VL RX5 71 mX4_contains 1 := ⟨cl_X4_contains, gw (i := 789) (by decide +kernel) (by decide +kernel), gw (i := 659) (by decide +kernel) (by decide +kernel), gw (i := 660) (by decide +kernel) (by decide +kernel)⟩
theorem f_X5_75_2 : FL RX5 75 2 2 := ⟨RX3, TX3, 4, "CodeVerifier$Frame", rfl, by decide, ig_X3, gw (i := 242) (by decide +kernel) (by decide +kernel), Or.inl rfl⟩
theorem f_X5_78_2 : FL RX5 78 2 3 := ⟨RX3, TX3, 4, "CodeVerifier$Frame", rfl, by decide, ig_X3, gw (i := 248) (by decide +kernel) (by decide +kernel), Or.inl rfl⟩
theorem p_X5_78_2 : PL false RX5 78 2 3 (.boolean) := ⟨RX3, TX3, 4, "CodeVerifier$Frame", tyX3, rfl, by decide, ig_X3, gw (i := 248) (by decide +kernel) (by decide +kernel), Or.inl rfl, rfl, by decide +kernel, tyX3_ok, nmX3, fun h => by cases h⟩
theorem f_X5_9_4 : FL RX5 9 4 10 := ⟨RX5, TX5, 11, "CodeVerifier$Inference", rfl, by decide, ig_X5, gw (i := 344) (by decide +kernel) (by decide +kernel), Or.inl rfl⟩
theorem f_X5_82_4 : FL RX5 82 4 1 := ⟨RX5, TX5, 11, "CodeVerifier$Inference", rfl, by decide, ig_X5, gw (i := 353) (by decide +kernel) (by decide +kernel), Or.inr (gw (i := 354) (by decide +kernel) (by decide +kernel))⟩
theorem f_X5_96_2 : FL RX5 96 2 0 := ⟨RX3, TX3, 4, "CodeVerifier$Frame", rfl, by decide, ig_X3, gw (i := 233) (by decide +kernel) (by decide +kernel), Or.inl rfl⟩
theorem v_X5_90 : VL RX5 90 mX10_commonSlot 2 := ⟨cl_X10_commonSlot, gw (i := 790) (by decide +kernel) (by decide +kernel), gw (i := 791) (by decide +kernel) (by decide +kernel), gw (i := 792) (by decide +kernel) (by decide +kernel)⟩
theorem f_X5_86_2 : FL RX5 86 2 1 := ⟨RX3, TX3, 4, "CodeVerifier$Frame", rfl, by decide, ig_X3, gw (i := 237) (by decide +kernel) (by decide +kernel), Or.inl rfl⟩
theorem v_X5_57 : VL RX5 57 mX4_put 2 := ⟨cl_X4_put, gw (i := 760) (by decide +kernel) (by decide +kernel), gw (i := 670) (by decide +kernel) (by decide +kernel), gw (i := 671) (by decide +kernel) (by decide +kernel)⟩
theorem s_X10_47 : SL RX10 47 mX11_isReference 1 := ⟨cl_X11_isReference, Or.inr ⟨"CodeVerifier", List.mem_filter.mpr ⟨List.mem_of_getElem? (i := 790) (by decide +kernel), rfl⟩⟩, gw (i := 795) (by decide +kernel) (by decide +kernel)⟩
theorem s_X10_30 : SL RX10 30 mX10_referenceLevels 1 := ⟨cl_X10_referenceLevels, Or.inl (gw (i := 798) (by decide +kernel) (by decide +kernel)), gw (i := 799) (by decide +kernel) (by decide +kernel)⟩
theorem h_X10_34 : MLk RX10 34 Lib.Math.min.name Lib.Math.min.code := ⟨gw (i := 801) (by decide +kernel) (by decide +kernel), gw (i := 802) (by decide +kernel) (by decide +kernel), gw (i := 62) (by decide +kernel) (by decide +kernel), gw (i := 803) (by decide +kernel) (by decide +kernel)⟩
theorem v_X10_50 : VL RX10 50 mX10_commonClass 2 := ⟨cl_X10_commonClass, gw (i := 804) (by decide +kernel) (by decide +kernel), gw (i := 806) (by decide +kernel) (by decide +kernel), gw (i := 15) (by decide +kernel) (by decide +kernel)⟩
theorem v_X10_53 : VL RX10 53 mX10_isClass 1 := ⟨cl_X10_isClass, gw (i := 808) (by decide +kernel) (by decide +kernel), gw (i := 456) (by decide +kernel) (by decide +kernel), gw (i := 457) (by decide +kernel) (by decide +kernel)⟩
theorem v_X10_43 : VL RX10 43 mX10_inherits 2 := ⟨cl_X10_inherits, gw (i := 809) (by decide +kernel) (by decide +kernel), gw (i := 811) (by decide +kernel) (by decide +kernel), gw (i := 16) (by decide +kernel) (by decide +kernel)⟩
theorem f_X10_9_8 : FL RX10 9 8 0 := ⟨RX10, TX10, 3, "CodeVerifier$Types", rfl, by decide, ig_X10, gw (i := 79) (by decide +kernel) (by decide +kernel), Or.inl rfl⟩
theorem s_X11_330 : SL RX11 330 mX11_isReferenceType 1 := ⟨cl_X11_isReferenceType, Or.inl (gw (i := 797) (by decide +kernel) (by decide +kernel)), gw (i := 737) (by decide +kernel) (by decide +kernel)⟩
theorem f_X0_130_0 : FL RX0 130 0 4 := ⟨RX1, TX1, 12, "CodeVerifier$Code", rfl, by decide, ig_X1, gw (i := 173) (by decide +kernel) (by decide +kernel), Or.inl rfl⟩
theorem s_X0_133 : SL RX0 133 mX9_fallsThrough 1 := ⟨cl_X9_fallsThrough, Or.inl (gw (i := 953) (by decide +kernel) (by decide +kernel)), gw (i := 691) (by decide +kernel) (by decide +kernel)⟩
theorem s_X0_142 : SL RX0 142 mX9_jumps 1 := ⟨cl_X9_jumps, Or.inl (gw (i := 955) (by decide +kernel) (by decide +kernel)), gw (i := 663) (by decide +kernel) (by decide +kernel)⟩
theorem f_X0_145_0 : FL RX0 145 0 5 := ⟨RX1, TX1, 12, "CodeVerifier$Code", rfl, by decide, ig_X1, gw (i := 178) (by decide +kernel) (by decide +kernel), Or.inl rfl⟩
theorem v_X0_139 : VL RX0 139 mX1_isIndex 1 := ⟨cl_X1_isIndex, gw (i := 954) (by decide +kernel) (by decide +kernel), gw (i := 722) (by decide +kernel) (by decide +kernel), gw (i := 723) (by decide +kernel) (by decide +kernel)⟩
theorem p_X7_26_6 : PL false RX7 26 6 3 (.object "CodeVerifier$Frame") := ⟨RX7, TX7, 5, "CodeVerifier$Machine", tyX7, rfl, by decide, ig_X7, gw (i := 330) (by decide +kernel) (by decide +kernel), Or.inl rfl, rfl, by decide +kernel, tyX7_ok, nmX7, fun h => by cases h⟩
theorem p_X7_30_6 : PL false RX7 30 6 4 (.int) := ⟨RX7, TX7, 5, "CodeVerifier$Machine", tyX7, rfl, by decide, ig_X7, gw (i := 331) (by decide +kernel) (by decide +kernel), Or.inl rfl, rfl, by decide +kernel, tyX7_ok, nmX7, fun h => by cases h⟩
theorem f_X7_19_6 : FL RX7 19 6 2 := ⟨RX7, TX7, 5, "CodeVerifier$Machine", rfl, by decide, ig_X7, gw (i := 329) (by decide +kernel) (by decide +kernel), Or.inl rfl⟩
theorem f_X7_34_0 : FL RX7 34 0 4 := ⟨RX1, TX1, 12, "CodeVerifier$Code", rfl, by decide, ig_X1, gw (i := 170) (by decide +kernel) (by decide +kernel), Or.inl rfl⟩
theorem f_X7_40_0 : FL RX7 40 0 5 := ⟨RX1, TX1, 12, "CodeVerifier$Code", rfl, by decide, ig_X1, gw (i := 176) (by decide +kernel) (by decide +kernel), Or.inl rfl⟩
theorem v_X7_45 : VL RX7 45 mX7_executeLocal 2 := ⟨cl_X7_executeLocal, gw (i := 831) (by decide +kernel) (by decide +kernel), gw (i := 833) (by decide +kernel) (by decide +kernel), gw (i := 17) (by decide +kernel) (by decide +kernel)⟩
theorem f_X7_30_6 : FL RX7 30 6 4 := ⟨RX7, TX7, 5, "CodeVerifier$Machine", rfl, by decide, ig_X7, gw (i := 331) (by decide +kernel) (by decide +kernel), Or.inl rfl⟩
theorem v_X7_68 : VL RX7 68 mX7_executeObject 2 := ⟨cl_X7_executeObject, gw (i := 941) (by decide +kernel) (by decide +kernel), gw (i := 943) (by decide +kernel) (by decide +kernel), gw (i := 37) (by decide +kernel) (by decide +kernel)⟩
theorem v_X7_65 : VL RX7 65 mX7_executeArray 2 := ⟨cl_X7_executeArray, gw (i := 930) (by decide +kernel) (by decide +kernel), gw (i := 932) (by decide +kernel) (by decide +kernel), gw (i := 35) (by decide +kernel) (by decide +kernel)⟩
theorem v_X7_62 : VL RX7 62 mX7_call 2 := ⟨cl_X7_call, gw (i := 912) (by decide +kernel) (by decide +kernel), gw (i := 914) (by decide +kernel) (by decide +kernel), gw (i := 33) (by decide +kernel) (by decide +kernel)⟩
theorem v_X7_59 : VL RX7 59 mX7_create 1 := ⟨cl_X7_create, gw (i := 900) (by decide +kernel) (by decide +kernel), gw (i := 902) (by decide +kernel) (by decide +kernel), gw (i := 32) (by decide +kernel) (by decide +kernel)⟩
theorem v_X7_56 : VL RX7 56 mX7_executeEnd 1 := ⟨cl_X7_executeEnd, gw (i := 891) (by decide +kernel) (by decide +kernel), gw (i := 893) (by decide +kernel) (by decide +kernel), gw (i := 30) (by decide +kernel) (by decide +kernel)⟩
theorem v_X7_53 : VL RX7 53 mX7_executeNumber 1 := ⟨cl_X7_executeNumber, gw (i := 887) (by decide +kernel) (by decide +kernel), gw (i := 889) (by decide +kernel) (by decide +kernel), gw (i := 29) (by decide +kernel) (by decide +kernel)⟩
theorem v_X7_49 : VL RX7 49 mX7_executeMove 1 := ⟨cl_X7_executeMove, gw (i := 872) (by decide +kernel) (by decide +kernel), gw (i := 874) (by decide +kernel) (by decide +kernel), gw (i := 26) (by decide +kernel) (by decide +kernel)⟩
theorem f_X7_15_6 : FL RX7 15 6 1 := ⟨RX7, TX7, 5, "CodeVerifier$Machine", rfl, by decide, ig_X7, gw (i := 328) (by decide +kernel) (by decide +kernel), Or.inl rfl⟩
theorem f_X7_155_7 : FL RX7 155 7 6 := ⟨RX8, TX8, 13, "CodeVerifier$Members", rfl, by decide, ig_X8, gw (i := 115) (by decide +kernel) (by decide +kernel), Or.inl rfl⟩
theorem f_X7_110_7 : FL RX7 110 7 5 := ⟨RX8, TX8, 13, "CodeVerifier$Members", rfl, by decide, ig_X8, gw (i := 112) (by decide +kernel) (by decide +kernel), Or.inl rfl⟩
theorem v_X7_74 : VL RX7 74 mX7_pushOfType 1 := ⟨cl_X7_pushOfType, gw (i := 843) (by decide +kernel) (by decide +kernel), gw (i := 845) (by decide +kernel) (by decide +kernel), gw (i := 20) (by decide +kernel) (by decide +kernel)⟩
theorem f_X7_162_7 : FL RX7 162 7 3 := ⟨RX8, TX8, 13, "CodeVerifier$Members", rfl, by decide, ig_X8, gw (i := 108) (by decide +kernel) (by decide +kernel), Or.inl rfl⟩
theorem v_X7_88 : VL RX7 88 mX7_popOfType 1 := ⟨cl_X7_popOfType, gw (i := 851) (by decide +kernel) (by decide +kernel), gw (i := 853) (by decide +kernel) (by decide +kernel), gw (i := 21) (by decide +kernel) (by decide +kernel)⟩
theorem v_X7_165 : VL RX7 165 mX7_initialize 1 := ⟨cl_X7_initialize, gw (i := 917) (by decide +kernel) (by decide +kernel), gw (i := 919) (by decide +kernel) (by decide +kernel), gw (i := 34) (by decide +kernel) (by decide +kernel)⟩
theorem v_X7_158 : VL RX7 158 mX8_parameterType 2 := ⟨cl_X8_parameterType, gw (i := 916) (by decide +kernel) (by decide +kernel), gw (i := 756) (by decide +kernel) (by decide +kernel), gw (i := 757) (by decide +kernel) (by decide +kernel)⟩
theorem f_X7_115_0 : FL RX7 115 0 1 := ⟨RX1, TX1, 12, "CodeVerifier$Code", rfl, by decide, ig_X1, gw (i := 162) (by decide +kernel) (by decide +kernel), Or.inl rfl⟩
theorem v_X7_104 : VL RX7 104 mX7_popSlot 0 := ⟨cl_X7_popSlot, gw (i := 855) (by decide +kernel) (by decide +kernel), gw (i := 857) (by decide +kernel) (by decide +kernel), gw (i := 22) (by decide +kernel) (by decide +kernel)⟩
theorem v_X7_80 : VL RX7 80 mX7_require 2 := ⟨cl_X7_require, gw (i := 839) (by decide +kernel) (by decide +kernel), gw (i := 841) (by decide +kernel) (by decide +kernel), gw (i := 19) (by decide +kernel) (by decide +kernel)⟩
theorem f_X7_26_6 : FL RX7 26 6 3 := ⟨RX7, TX7, 5, "CodeVerifier$Machine", rfl, by decide, ig_X7, gw (i := 330) (by decide +kernel) (by decide +kernel), Or.inl rfl⟩
theorem v_X7_152 : VL RX7 152 mX3_replaceLocals 2 := ⟨cl_X3_replaceLocals, gw (i := 908) (by decide +kernel) (by decide +kernel), gw (i := 909) (by decide +kernel) (by decide +kernel), gw (i := 910) (by decide +kernel) (by decide +kernel)⟩
theorem v_X7_174 : VL RX7 174 mX3_replaceStack 2 := ⟨cl_X3_replaceStack, gw (i := 926) (by decide +kernel) (by decide +kernel), gw (i := 927) (by decide +kernel) (by decide +kernel), gw (i := 928) (by decide +kernel) (by decide +kernel)⟩
theorem f_X7_130_2 : FL RX7 130 2 3 := ⟨RX3, TX3, 4, "CodeVerifier$Frame", rfl, by decide, ig_X3, gw (i := 249) (by decide +kernel) (by decide +kernel), Or.inl rfl⟩
theorem p_X7_130_2 : PL false RX7 130 2 3 (.boolean) := ⟨RX3, TX3, 4, "CodeVerifier$Frame", tyX3, rfl, by decide, ig_X3, gw (i := 249) (by decide +kernel) (by decide +kernel), Or.inl rfl, rfl, by decide +kernel, tyX3_ok, nmX3, fun h => by cases h⟩
theorem v_X7_171 : VL RX7 171 mX1_creates 2 := ⟨cl_X1_creates, gw (i := 921) (by decide +kernel) (by decide +kernel), gw (i := 922) (by decide +kernel) (by decide +kernel), gw (i := 923) (by decide +kernel) (by decide +kernel)⟩
theorem f_X7_9_6 : FL RX7 9 6 0 := ⟨RX7, TX7, 5, "CodeVerifier$Machine", rfl, by decide, ig_X7, gw (i := 327) (by decide +kernel) (by decide +kernel), Or.inl rfl⟩
theorem f_X7_168_8 : FL RX7 168 8 0 := ⟨RX10, TX10, 3, "CodeVerifier$Types", rfl, by decide, ig_X10, gw (i := 80) (by decide +kernel) (by decide +kernel), Or.inl rfl⟩
theorem f_X7_180_2 : FL RX7 180 2 2 := ⟨RX3, TX3, 4, "CodeVerifier$Frame", rfl, by decide, ig_X3, gw (i := 244) (by decide +kernel) (by decide +kernel), Or.inl rfl⟩
theorem p_X7_180_2 : PL false RX7 180 2 2 (.int) := ⟨RX3, TX3, 4, "CodeVerifier$Frame", tyX3, rfl, by decide, ig_X3, gw (i := 244) (by decide +kernel) (by decide +kernel), Or.inl rfl, rfl, by decide +kernel, tyX3_ok, nmX3, fun h => by cases h⟩
theorem f_X7_183_2 : FL RX7 183 2 1 := ⟨RX3, TX3, 4, "CodeVerifier$Frame", rfl, by decide, ig_X3, gw (i := 239) (by decide +kernel) (by decide +kernel), Or.inl rfl⟩
theorem v_X7_124 : VL RX7 124 mX10_fits 2 := ⟨cl_X10_fits, gw (i := 859) (by decide +kernel) (by decide +kernel), gw (i := 822) (by decide +kernel) (by decide +kernel), gw (i := 823) (by decide +kernel) (by decide +kernel)⟩
theorem s_X10_27 : SL RX10 27 mX11_isReferenceType 1 := ⟨cl_X11_isReferenceType, Or.inr ⟨"CodeVerifier", List.mem_filter.mpr ⟨List.mem_of_getElem? (i := 821) (by decide +kernel), rfl⟩⟩, gw (i := 737) (by decide +kernel) (by decide +kernel)⟩
theorem v_X10_40 : VL RX10 40 mX10_isInterface 1 := ⟨cl_X10_isInterface, gw (i := 826) (by decide +kernel) (by decide +kernel), gw (i := 575) (by decide +kernel) (by decide +kernel), gw (i := 576) (by decide +kernel) (by decide +kernel)⟩
theorem v_X7_71 : VL RX7 71 mX7_push 1 := ⟨cl_X7_push, gw (i := 835) (by decide +kernel) (by decide +kernel), gw (i := 837) (by decide +kernel) (by decide +kernel), gw (i := 18) (by decide +kernel) (by decide +kernel)⟩
theorem f_X7_186_0 : FL RX7 186 0 2 := ⟨RX1, TX1, 12, "CodeVerifier$Code", rfl, by decide, ig_X1, gw (i := 165) (by decide +kernel) (by decide +kernel), Or.inl rfl⟩
theorem f_X8_33_7 : FL RX8 33 7 8 := ⟨RX8, TX8, 13, "CodeVerifier$Members", rfl, by decide, ig_X8, gw (i := 117) (by decide +kernel) (by decide +kernel), Or.inl rfl⟩
theorem v_X7_149 : VL RX7 149 mX3_hasOnStack 1 := ⟨cl_X3_hasOnStack, gw (i := 904) (by decide +kernel) (by decide +kernel), gw (i := 905) (by decide +kernel) (by decide +kernel), gw (i := 906) (by decide +kernel) (by decide +kernel)⟩
theorem v_X7_143 : VL RX7 143 mX7_popReferenceArray 0 := ⟨cl_X7_popReferenceArray, gw (i := 934) (by decide +kernel) (by decide +kernel), gw (i := 936) (by decide +kernel) (by decide +kernel), gw (i := 36) (by decide +kernel) (by decide +kernel)⟩
theorem v_X7_118 : VL RX7 118 mX7_popReference 0 := ⟨cl_X7_popReference, gw (i := 895) (by decide +kernel) (by decide +kernel), gw (i := 897) (by decide +kernel) (by decide +kernel), gw (i := 31) (by decide +kernel) (by decide +kernel)⟩
theorem s_X7_146 : SL RX7 146 mX7_isArrayType 1 := ⟨cl_X7_isArrayType, Or.inl (gw (i := 938) (by decide +kernel) (by decide +kernel)), gw (i := 939) (by decide +kernel) (by decide +kernel)⟩
theorem s_X7_177 : SL RX7 177 mX11_isReference 1 := ⟨cl_X11_isReference, Or.inr ⟨"CodeVerifier", List.mem_filter.mpr ⟨List.mem_of_getElem? (i := 895) (by decide +kernel), rfl⟩⟩, gw (i := 795) (by decide +kernel) (by decide +kernel)⟩
theorem s_X7_121 : SL RX7 121 mX11_isReferenceType 1 := ⟨cl_X11_isReferenceType, Or.inr ⟨"CodeVerifier", List.mem_filter.mpr ⟨List.mem_of_getElem? (i := 846) (by decide +kernel), rfl⟩⟩, gw (i := 737) (by decide +kernel) (by decide +kernel)⟩
theorem f_X7_77_2 : FL RX7 77 2 0 := ⟨RX3, TX3, 4, "CodeVerifier$Frame", rfl, by decide, ig_X3, gw (i := 231) (by decide +kernel) (by decide +kernel), Or.inl rfl⟩
theorem s_X7_84 : SL RX7 84 mX7_isAnyReference 1 := ⟨cl_X7_isAnyReference, Or.inl (gw (i := 847) (by decide +kernel) (by decide +kernel)), gw (i := 848) (by decide +kernel) (by decide +kernel)⟩
theorem v_X7_91 : VL RX7 91 mX7_store 2 := ⟨cl_X7_store, gw (i := 860) (by decide +kernel) (by decide +kernel), gw (i := 862) (by decide +kernel) (by decide +kernel), gw (i := 23) (by decide +kernel) (by decide +kernel)⟩
theorem v_X7_94 : VL RX7 94 mX7_popAnyReference 0 := ⟨cl_X7_popAnyReference, gw (i := 868) (by decide +kernel) (by decide +kernel), gw (i := 870) (by decide +kernel) (by decide +kernel), gw (i := 25) (by decide +kernel) (by decide +kernel)⟩
theorem v_X7_189 : VL RX7 189 mX7_breakLong 1 := ⟨cl_X7_breakLong, gw (i := 864) (by decide +kernel) (by decide +kernel), gw (i := 866) (by decide +kernel) (by decide +kernel), gw (i := 24) (by decide +kernel) (by decide +kernel)⟩
theorem v_X7_98 : VL RX7 98 mX7_movePair 1 := ⟨cl_X7_movePair, gw (i := 876) (by decide +kernel) (by decide +kernel), gw (i := 878) (by decide +kernel) (by decide +kernel), gw (i := 27) (by decide +kernel) (by decide +kernel)⟩
theorem v_X7_101 : VL RX7 101 mX7_popWhole 0 := ⟨cl_X7_popWhole, gw (i := 883) (by decide +kernel) (by decide +kernel), gw (i := 885) (by decide +kernel) (by decide +kernel), gw (i := 28) (by decide +kernel) (by decide +kernel)⟩
theorem s_X7_107 : SL RX7 107 mX7_isWhole 1 := ⟨cl_X7_isWhole, Or.inl (gw (i := 880) (by decide +kernel) (by decide +kernel)), gw (i := 881) (by decide +kernel) (by decide +kernel)⟩
theorem f_X7_134_7 : FL RX7 134 7 0 := ⟨RX8, TX8, 13, "CodeVerifier$Members", rfl, by decide, ig_X8, gw (i := 100) (by decide +kernel) (by decide +kernel), Or.inl rfl⟩
theorem f_X7_137_7 : FL RX7 137 7 1 := ⟨RX8, TX8, 13, "CodeVerifier$Members", rfl, by decide, ig_X8, gw (i := 102) (by decide +kernel) (by decide +kernel), Or.inl rfl⟩
theorem v_X7_140 : VL RX7 140 mX7_popFieldObject 1 := ⟨cl_X7_popFieldObject, gw (i := 945) (by decide +kernel) (by decide +kernel), gw (i := 947) (by decide +kernel) (by decide +kernel), gw (i := 38) (by decide +kernel) (by decide +kernel)⟩
theorem u_X5_54_4 : UL RX5 54 RX5 "CodeVerifier$Analysis" ⟨"CodeVerifier$Inference", "makeFirstFrame", "(LCodeVerifier$Frame;)V"⟩ mX0_makeFirstFrame 1 := ⟨cl_X0_makeFirstFrame, gw (i := 748) (by decide +kernel) (by decide +kernel), gw (i := 749) (by decide +kernel) (by decide +kernel), Or.inl rfl, gw (i := 751) (by decide +kernel) (by decide +kernel), gw (i := 752) (by decide +kernel) (by decide +kernel), by decide +kernel, rfl⟩
theorem v_X0_61 : VL RX0 61 mX3_clear 0 := ⟨cl_X3_clear, gw (i := 754) (by decide +kernel) (by decide +kernel), gw (i := 262) (by decide +kernel) (by decide +kernel), gw (i := 263) (by decide +kernel) (by decide +kernel)⟩
theorem f_X0_64_0 : FL RX0 64 0 1 := ⟨RX1, TX1, 12, "CodeVerifier$Code", rfl, by decide, ig_X1, gw (i := 161) (by decide +kernel) (by decide +kernel), Or.inl rfl⟩
theorem f_X0_25_4 : FL RX0 25 4 5 := ⟨RX5, TX5, 11, "CodeVerifier$Analysis", rfl, by decide, ig_X5, gw (i := 371) (by decide +kernel) (by decide +kernel), Or.inl rfl⟩
theorem f_X0_69_7 : FL RX0 69 7 3 := ⟨RX8, TX8, 13, "CodeVerifier$Members", rfl, by decide, ig_X8, gw (i := 106) (by decide +kernel) (by decide +kernel), Or.inl rfl⟩
theorem f_X0_75_7 : FL RX0 75 7 4 := ⟨RX8, TX8, 13, "CodeVerifier$Members", rfl, by decide, ig_X8, gw (i := 110) (by decide +kernel) (by decide +kernel), Or.inl rfl⟩
theorem f_X0_85_7 : FL RX0 85 7 6 := ⟨RX8, TX8, 13, "CodeVerifier$Members", rfl, by decide, ig_X8, gw (i := 114) (by decide +kernel) (by decide +kernel), Or.inl rfl⟩
theorem v_X0_88 : VL RX0 88 mX8_parameterType 2 := ⟨cl_X8_parameterType, gw (i := 755) (by decide +kernel) (by decide +kernel), gw (i := 756) (by decide +kernel) (by decide +kernel), gw (i := 757) (by decide +kernel) (by decide +kernel)⟩
theorem f_X0_78_2 : FL RX0 78 2 0 := ⟨RX3, TX3, 4, "CodeVerifier$Frame", rfl, by decide, ig_X3, gw (i := 232) (by decide +kernel) (by decide +kernel), Or.inl rfl⟩
theorem s_X0_92 : SL RX0 92 mX11_slotsOf 1 := ⟨cl_X11_slotsOf, Or.inr ⟨"CodeVerifier", List.mem_filter.mpr ⟨List.mem_of_getElem? (i := 755) (by decide +kernel), rfl⟩⟩, gw (i := 558) (by decide +kernel) (by decide +kernel)⟩
theorem p_X0_81_2 : PL false RX0 81 2 3 (.boolean) := ⟨RX3, TX3, 4, "CodeVerifier$Frame", tyX3, rfl, by decide, ig_X3, gw (i := 247) (by decide +kernel) (by decide +kernel), Or.inl rfl, rfl, by decide +kernel, tyX3_ok, nmX3, fun h => by cases h⟩
theorem f_X5_61_4 : FL RX5 61 4 0 := ⟨RX5, TX5, 11, "CodeVerifier$Inference", rfl, by decide, ig_X5, gw (i := 348) (by decide +kernel) (by decide +kernel), Or.inr (gw (i := 349) (by decide +kernel) (by decide +kernel))⟩
theorem f_X5_65_0 : FL RX5 65 0 6 := ⟨RX1, TX1, 12, "CodeVerifier$Code", rfl, by decide, ig_X1, gw (i := 183) (by decide +kernel) (by decide +kernel), Or.inl rfl⟩
theorem u_X6_15_5 : UL RX6 15 RX6 "CodeVerifier$Analysis" ⟨"CodeVerifier$LinearCheck", "examine", "()I"⟩ mX0_examine 0 := ⟨cl_X0_examine, gw (i := 964) (by decide +kernel) (by decide +kernel), gw (i := 965) (by decide +kernel) (by decide +kernel), Or.inl rfl, gw (i := 966) (by decide +kernel) (by decide +kernel), gw (i := 711) (by decide +kernel) (by decide +kernel), by decide +kernel, rfl⟩
theorem f_X6_19_5 : FL RX6 19 5 2 := ⟨RX6, TX6, 10, "CodeVerifier$LinearCheck", rfl, by decide, ig_X6, gw (i := 356) (by decide +kernel) (by decide +kernel), Or.inr (gw (i := 357) (by decide +kernel) (by decide +kernel))⟩
theorem u_X6_23_5 : UL RX6 23 RX6 "CodeVerifier$Analysis" ⟨"CodeVerifier$LinearCheck", "makeFirstFrame", "(LCodeVerifier$Frame;)V"⟩ mX0_makeFirstFrame 1 := ⟨cl_X0_makeFirstFrame, gw (i := 967) (by decide +kernel) (by decide +kernel), gw (i := 968) (by decide +kernel) (by decide +kernel), Or.inl rfl, gw (i := 969) (by decide +kernel) (by decide +kernel), gw (i := 752) (by decide +kernel) (by decide +kernel), by decide +kernel, rfl⟩
theorem f_X6_27_5 : FL RX6 27 5 0 := ⟨RX6, TX6, 10, "CodeVerifier$LinearCheck", rfl, by decide, ig_X6, gw (i := 346) (by decide +kernel) (by decide +kernel), Or.inr (gw (i := 347) (by decide +kernel) (by decide +kernel))⟩
theorem f_X6_31_0 : FL RX6 31 0 6 := ⟨RX1, TX1, 12, "CodeVerifier$Code", rfl, by decide, ig_X1, gw (i := 182) (by decide +kernel) (by decide +kernel), Or.inl rfl⟩
theorem v_X6_37 : VL RX6 37 mX6_enter 2 := ⟨cl_X6_enter, gw (i := 970) (by decide +kernel) (by decide +kernel), gw (i := 972) (by decide +kernel) (by decide +kernel), gw (i := 39) (by decide +kernel) (by decide +kernel)⟩
theorem p_X6_45_5 : PL false RX6 45 5 3 (.int) := ⟨RX6, TX6, 10, "CodeVerifier$LinearCheck", tyX6, rfl, by decide, ig_X6, gw (i := 361) (by decide +kernel) (by decide +kernel), Or.inr (gw (i := 362) (by decide +kernel) (by decide +kernel)), rfl, by decide +kernel, tyX6_ok, nmX6, fun h => by cases h⟩
theorem f_X6_48_0 : FL RX6 48 0 4 := ⟨RX1, TX1, 12, "CodeVerifier$Code", rfl, by decide, ig_X1, gw (i := 172) (by decide +kernel) (by decide +kernel), Or.inl rfl⟩
theorem s_X6_52 : SL RX6 52 mX9_fallsThrough 1 := ⟨cl_X9_fallsThrough, Or.inl (gw (i := 978) (by decide +kernel) (by decide +kernel)), gw (i := 691) (by decide +kernel) (by decide +kernel)⟩
theorem u_X6_41_5 : UL RX6 41 RX6 "CodeVerifier$Analysis" ⟨"CodeVerifier$LinearCheck", "process", "(I)I"⟩ mX0_process 1 := ⟨cl_X0_process, gw (i := 975) (by decide +kernel) (by decide +kernel), gw (i := 976) (by decide +kernel) (by decide +kernel), Or.inl rfl, gw (i := 977) (by decide +kernel) (by decide +kernel), gw (i := 771) (by decide +kernel) (by decide +kernel), by decide +kernel, rfl⟩
theorem f_X0_38_5 : FL RX0 38 5 6 := ⟨RX6, TX6, 10, "CodeVerifier$Analysis", rfl, by decide, ig_X6, gw (i := 372) (by decide +kernel) (by decide +kernel), Or.inl rfl⟩
theorem p_X0_49_5 : PL false RX0 49 5 3 (.int) := ⟨RX6, TX6, 10, "CodeVerifier$Analysis", tyX6, rfl, by decide, ig_X6, gw (i := 360) (by decide +kernel) (by decide +kernel), Or.inl rfl, rfl, by decide +kernel, tyX6_ok, nmX6, fun h => by cases h⟩
theorem p_X0_53_5 : PL false RX0 53 5 4 (.int) := ⟨RX6, TX6, 10, "CodeVerifier$Analysis", tyX6, rfl, by decide, ig_X6, gw (i := 366) (by decide +kernel) (by decide +kernel), Or.inl rfl, rfl, by decide +kernel, tyX6_ok, nmX6, fun h => by cases h⟩
theorem f_X0_29_5 : FL RX0 29 5 0 := ⟨RX6, TX6, 10, "CodeVerifier$Analysis", rfl, by decide, ig_X6, gw (i := 345) (by decide +kernel) (by decide +kernel), Or.inl rfl⟩
theorem f_X0_25_5 : FL RX0 25 5 5 := ⟨RX6, TX6, 10, "CodeVerifier$Analysis", rfl, by decide, ig_X6, gw (i := 371) (by decide +kernel) (by decide +kernel), Or.inl rfl⟩
theorem f_X0_53_5 : FL RX0 53 5 4 := ⟨RX6, TX6, 10, "CodeVerifier$Analysis", rfl, by decide, ig_X6, gw (i := 366) (by decide +kernel) (by decide +kernel), Or.inl rfl⟩
theorem u_X0_96_5 : UL RX0 96 RX6 "CodeVerifier$Analysis" ⟨"CodeVerifier$Analysis", "flowToHandlers", "(I)I"⟩ mX0_flowToHandlers 1 := ⟨cl_X0_flowToHandlers, gw (i := 773) (by decide +kernel) (by decide +kernel), gw (i := 1055) (by decide +kernel) (by decide +kernel), Or.inl rfl, gw (i := 2) (by decide +kernel) (by decide +kernel), gw (i := 775) (by decide +kernel) (by decide +kernel), by decide +kernel, rfl⟩
theorem u_X0_103_5 : UL RX0 103 RX6 "CodeVerifier$Analysis" ⟨"CodeVerifier$Analysis", "flowToSuccessors", "(I)I"⟩ mX0_flowToSuccessors 1 := ⟨cl_X0_flowToSuccessors, gw (i := 949) (by decide +kernel) (by decide +kernel), gw (i := 1056) (by decide +kernel) (by decide +kernel), Or.inl rfl, gw (i := 3) (by decide +kernel) (by decide +kernel), gw (i := 951) (by decide +kernel) (by decide +kernel), by decide +kernel, rfl⟩
theorem f_X0_45_5 : FL RX0 45 5 7 := ⟨RX6, TX6, 10, "CodeVerifier$Analysis", rfl, by decide, ig_X6, gw (i := 373) (by decide +kernel) (by decide +kernel), Or.inl rfl⟩
theorem f_X0_12_5 : FL RX0 12 5 2 := ⟨RX6, TX6, 10, "CodeVerifier$Analysis", rfl, by decide, ig_X6, gw (i := 355) (by decide +kernel) (by decide +kernel), Or.inl rfl⟩
theorem f_X0_18_5 : FL RX0 18 5 8 := ⟨RX6, TX6, 10, "CodeVerifier$Analysis", rfl, by decide, ig_X6, gw (i := 374) (by decide +kernel) (by decide +kernel), Or.inl rfl⟩
theorem u_X0_126_5 : UL RX0 126 RX6 "CodeVerifier$Analysis" ⟨"CodeVerifier$Analysis", "flow", "(ILCodeVerifier$Frame;Z)I"⟩ mX6_flow 3 := ⟨cl_X6_flow, gw (i := 783) (by decide +kernel) (by decide +kernel), gw (i := 785) (by decide +kernel) (by decide +kernel), Or.inr (List.mem_filter.mpr ⟨List.mem_of_getElem? (i := 780) (by decide +kernel), rfl⟩), gw (i := 813) (by decide +kernel) (by decide +kernel), gw (i := 814) (by decide +kernel) (by decide +kernel), by decide +kernel, rfl⟩
theorem f_X6_9_5 : FL RX6 9 5 9 := ⟨RX6, TX6, 10, "CodeVerifier$LinearCheck", rfl, by decide, ig_X6, gw (i := 404) (by decide +kernel) (by decide +kernel), Or.inl rfl⟩
theorem v_X6_58 : VL RX6 58 mX4_contains 1 := ⟨cl_X4_contains, gw (i := 816) (by decide +kernel) (by decide +kernel), gw (i := 659) (by decide +kernel) (by decide +kernel), gw (i := 660) (by decide +kernel) (by decide +kernel)⟩
theorem f_X6_63_5 : FL RX6 63 5 1 := ⟨RX6, TX6, 10, "CodeVerifier$LinearCheck", rfl, by decide, ig_X6, gw (i := 351) (by decide +kernel) (by decide +kernel), Or.inr (gw (i := 352) (by decide +kernel) (by decide +kernel))⟩
theorem f_X6_67_3 : FL RX6 67 3 0 := ⟨RX4, TX4, 3, "CodeVerifier$FrameTable", rfl, by decide, ig_X4, gw (i := 276) (by decide +kernel) (by decide +kernel), Or.inl rfl⟩
theorem v_X6_71 : VL RX6 71 mX10_frameFits 2 := ⟨cl_X10_frameFits, gw (i := 817) (by decide +kernel) (by decide +kernel), gw (i := 818) (by decide +kernel) (by decide +kernel), gw (i := 819) (by decide +kernel) (by decide +kernel)⟩
theorem f_X10_56_2 : FL RX10 56 2 2 := ⟨RX3, TX3, 4, "CodeVerifier$Frame", rfl, by decide, ig_X3, gw (i := 243) (by decide +kernel) (by decide +kernel), Or.inl rfl⟩
theorem f_X10_61_2 : FL RX10 61 2 3 := ⟨RX3, TX3, 4, "CodeVerifier$Frame", rfl, by decide, ig_X3, gw (i := 250) (by decide +kernel) (by decide +kernel), Or.inl rfl⟩
theorem f_X10_71_2 : FL RX10 71 2 1 := ⟨RX3, TX3, 4, "CodeVerifier$Frame", rfl, by decide, ig_X3, gw (i := 238) (by decide +kernel) (by decide +kernel), Or.inl rfl⟩
theorem v_X10_68 : VL RX10 68 mX10_fits 2 := ⟨cl_X10_fits, gw (i := 821) (by decide +kernel) (by decide +kernel), gw (i := 822) (by decide +kernel) (by decide +kernel), gw (i := 823) (by decide +kernel) (by decide +kernel)⟩
theorem f_X10_65_2 : FL RX10 65 2 0 := ⟨RX3, TX3, 4, "CodeVerifier$Frame", rfl, by decide, ig_X3, gw (i := 234) (by decide +kernel) (by decide +kernel), Or.inl rfl⟩
theorem v_X6_77 : VL RX6 77 mX3_copyFrom 1 := ⟨cl_X3_copyFrom, gw (i := 974) (by decide +kernel) (by decide +kernel), gw (i := 674) (by decide +kernel) (by decide +kernel), gw (i := 675) (by decide +kernel) (by decide +kernel)⟩
theorem f_X8_36_7 : FL RX8 36 7 10 := ⟨RX8, TX8, 13, "CodeVerifier$Members", rfl, by decide, ig_X8, gw (i := 120) (by decide +kernel) (by decide +kernel), Or.inl rfl⟩
theorem f_X8_50_7 : FL RX8 50 7 11 := ⟨RX8, TX8, 13, "CodeVerifier$Members", rfl, by decide, ig_X8, gw (i := 121) (by decide +kernel) (by decide +kernel), Or.inl rfl⟩
theorem p_X8_50_7 : PL false RX8 50 7 11 (.int) := ⟨RX8, TX8, 13, "CodeVerifier$Members", tyX8, rfl, by decide, ig_X8, gw (i := 121) (by decide +kernel) (by decide +kernel), Or.inl rfl, rfl, by decide +kernel, tyX8_ok, nmX8, fun h => by cases h⟩
theorem f_X8_53_7 : FL RX8 53 7 12 := ⟨RX8, TX8, 13, "CodeVerifier$Members", rfl, by decide, ig_X8, gw (i := 123) (by decide +kernel) (by decide +kernel), Or.inl rfl⟩
theorem s_X8_56 : SL RX8 56 mX11_slotsOf 1 := ⟨cl_X11_slotsOf, Or.inr ⟨"CodeVerifier", List.mem_filter.mpr ⟨List.mem_of_getElem? (i := 561) (by decide +kernel), rfl⟩⟩, gw (i := 558) (by decide +kernel) (by decide +kernel)⟩
theorem p_X8_53_7 : PL false RX8 53 7 12 (.int) := ⟨RX8, TX8, 13, "CodeVerifier$Members", tyX8, rfl, by decide, ig_X8, gw (i := 123) (by decide +kernel) (by decide +kernel), Or.inl rfl, rfl, by decide +kernel, tyX8_ok, nmX8, fun h => by cases h⟩
theorem f_X8_18_7 : FL RX8 18 7 3 := ⟨RX8, TX8, 13, "CodeVerifier$Members", rfl, by decide, ig_X8, gw (i := 105) (by decide +kernel) (by decide +kernel), Or.inl rfl⟩
theorem f_X8_24_7 : FL RX8 24 7 5 := ⟨RX8, TX8, 13, "CodeVerifier$Members", rfl, by decide, ig_X8, gw (i := 111) (by decide +kernel) (by decide +kernel), Or.inl rfl⟩
theorem f_X8_27_7 : FL RX8 27 7 6 := ⟨RX8, TX8, 13, "CodeVerifier$Members", rfl, by decide, ig_X8, gw (i := 113) (by decide +kernel) (by decide +kernel), Or.inl rfl⟩
theorem a_X8_60 : AL RX8 60 := ⟨gw (i := 588) (by decide +kernel) (by decide +kernel), gw (i := 590) (by decide +kernel) (by decide +kernel), gw (i := 589) (by decide +kernel) (by decide +kernel), gw (i := 60) (by decide +kernel) (by decide +kernel)⟩
theorem v_X8_66 : VL RX8 66 mX8_dropParameters 0 := ⟨cl_X8_dropParameters, gw (i := 591) (by decide +kernel) (by decide +kernel), gw (i := 579) (by decide +kernel) (by decide +kernel), gw (i := 580) (by decide +kernel) (by decide +kernel)⟩
theorem p_X8_43_7 : PL false RX8 43 7 9 (.int) := ⟨RX8, TX8, 13, "CodeVerifier$Members", tyX8, rfl, by decide, ig_X8, gw (i := 118) (by decide +kernel) (by decide +kernel), Or.inl rfl, rfl, by decide +kernel, tyX8_ok, nmX8, fun h => by cases h⟩
theorem p_X10_19_8 : PL false RX10 19 8 2 (.int) := ⟨RX10, TX10, 3, "CodeVerifier$Types", tyX10, rfl, by decide, ig_X10, gw (i := 82) (by decide +kernel) (by decide +kernel), Or.inl rfl, rfl, by decide +kernel, tyX10_ok, nmX10, fun h => by cases h⟩
theorem f_X11_10_9 : FL RX11 10 9 0 := ⟨RX11, TX11, 11, "CodeVerifier", rfl, by decide, ig_X11, gw (i := 417) (by decide +kernel) (by decide +kernel), Or.inl rfl⟩
theorem v_X11_76 : VL RX11 76 mX10_isClass 1 := ⟨cl_X10_isClass, gw (i := 455) (by decide +kernel) (by decide +kernel), gw (i := 456) (by decide +kernel) (by decide +kernel), gw (i := 457) (by decide +kernel) (by decide +kernel)⟩
theorem f_X11_87_8 : FL RX11 87 8 2 := ⟨RX10, TX10, 3, "CodeVerifier$Types", rfl, by decide, ig_X10, gw (i := 83) (by decide +kernel) (by decide +kernel), Or.inl rfl⟩
theorem v_X11_95 : VL RX11 95 mX10_add 2 := ⟨cl_X10_add, gw (i := 544) (by decide +kernel) (by decide +kernel), gw (i := 545) (by decide +kernel) (by decide +kernel), gw (i := 546) (by decide +kernel) (by decide +kernel)⟩
theorem v_X11_99 : VL RX11 99 mX10_isType 1 := ⟨cl_X10_isType, gw (i := 552) (by decide +kernel) (by decide +kernel), gw (i := 553) (by decide +kernel) (by decide +kernel), gw (i := 554) (by decide +kernel) (by decide +kernel)⟩
theorem f_X11_19_9 : FL RX11 19 9 1 := ⟨RX11, TX11, 11, "CodeVerifier", rfl, by decide, ig_X11, gw (i := 418) (by decide +kernel) (by decide +kernel), Or.inl rfl⟩
theorem f_X11_115_7 : FL RX11 115 7 12 := ⟨RX8, TX8, 13, "CodeVerifier$Members", rfl, by decide, ig_X8, gw (i := 122) (by decide +kernel) (by decide +kernel), Or.inl rfl⟩
theorem s_X11_118 : SL RX11 118 mX11_slotsOf 1 := ⟨cl_X11_slotsOf, Or.inl (gw (i := 557) (by decide +kernel) (by decide +kernel)), gw (i := 558) (by decide +kernel) (by decide +kernel)⟩
theorem v_X11_124 : VL RX11 124 mX8_addParameter 1 := ⟨cl_X8_addParameter, gw (i := 561) (by decide +kernel) (by decide +kernel), gw (i := 562) (by decide +kernel) (by decide +kernel), gw (i := 563) (by decide +kernel) (by decide +kernel)⟩
theorem v_X11_127 : VL RX11 127 mX11_isMethodAllowed 3 := ⟨cl_X11_isMethodAllowed, gw (i := 570) (by decide +kernel) (by decide +kernel), gw (i := 572) (by decide +kernel) (by decide +kernel), gw (i := 5) (by decide +kernel) (by decide +kernel)⟩
theorem f_X11_136_7 : FL RX11 136 7 9 := ⟨RX8, TX8, 13, "CodeVerifier$Members", rfl, by decide, ig_X8, gw (i := 119) (by decide +kernel) (by decide +kernel), Or.inl rfl⟩
theorem v_X11_141 : VL RX11 141 mX8_addMethod 3 := ⟨cl_X8_addMethod, gw (i := 584) (by decide +kernel) (by decide +kernel), gw (i := 585) (by decide +kernel) (by decide +kernel), gw (i := 586) (by decide +kernel) (by decide +kernel)⟩
theorem v_X11_131 : VL RX11 131 mX8_dropParameters 0 := ⟨cl_X8_dropParameters, gw (i := 578) (by decide +kernel) (by decide +kernel), gw (i := 579) (by decide +kernel) (by decide +kernel), gw (i := 580) (by decide +kernel) (by decide +kernel)⟩
theorem v_X11_145 : VL RX11 145 mX10_isInterface 1 := ⟨cl_X10_isInterface, gw (i := 574) (by decide +kernel) (by decide +kernel), gw (i := 575) (by decide +kernel) (by decide +kernel), gw (i := 576) (by decide +kernel) (by decide +kernel)⟩
theorem v_X11_164 : VL RX11 164 mX8_isMethod 1 := ⟨cl_X8_isMethod, gw (i := 596) (by decide +kernel) (by decide +kernel), gw (i := 597) (by decide +kernel) (by decide +kernel), gw (i := 598) (by decide +kernel) (by decide +kernel)⟩
theorem f_X11_172_7 : FL RX11 172 7 3 := ⟨RX8, TX8, 13, "CodeVerifier$Members", rfl, by decide, ig_X8, gw (i := 107) (by decide +kernel) (by decide +kernel), Or.inl rfl⟩
theorem f_X11_26_9 : FL RX11 26 9 2 := ⟨RX11, TX11, 11, "CodeVerifier", rfl, by decide, ig_X11, gw (i := 419) (by decide +kernel) (by decide +kernel), Or.inl rfl⟩
theorem v_X11_178 : VL RX11 178 mX1_start 3 := ⟨cl_X1_start, gw (i := 617) (by decide +kernel) (by decide +kernel), gw (i := 618) (by decide +kernel) (by decide +kernel), gw (i := 619) (by decide +kernel) (by decide +kernel)⟩
theorem f_X11_47_9 : FL RX11 47 9 5 := ⟨RX11, TX11, 11, "CodeVerifier", rfl, by decide, ig_X11, gw (i := 422) (by decide +kernel) (by decide +kernel), Or.inl rfl⟩
theorem v_X11_182 : VL RX11 182 mX4_clear 0 := ⟨cl_X4_clear, gw (i := 621) (by decide +kernel) (by decide +kernel), gw (i := 622) (by decide +kernel) (by decide +kernel), gw (i := 623) (by decide +kernel) (by decide +kernel)⟩
theorem f_X11_51_9 : FL RX11 51 9 6 := ⟨RX11, TX11, 11, "CodeVerifier", rfl, by decide, ig_X11, gw (i := 423) (by decide +kernel) (by decide +kernel), Or.inl rfl⟩
theorem v_X11_183 : VL RX11 183 mX8_slotsNeeded 1 := ⟨cl_X8_slotsNeeded, gw (i := 625) (by decide +kernel) (by decide +kernel), gw (i := 626) (by decide +kernel) (by decide +kernel), gw (i := 627) (by decide +kernel) (by decide +kernel)⟩
theorem f_X11_190_0 : FL RX11 190 0 0 := ⟨RX1, TX1, 12, "CodeVerifier$Code", rfl, by decide, ig_X1, gw (i := 158) (by decide +kernel) (by decide +kernel), Or.inl rfl⟩
theorem f_X11_194_0 : FL RX11 194 0 6 := ⟨RX1, TX1, 12, "CodeVerifier$Code", rfl, by decide, ig_X1, gw (i := 184) (by decide +kernel) (by decide +kernel), Or.inl rfl⟩
theorem v_X11_197 : VL RX11 197 mX1_addInstruction 2 := ⟨cl_X1_addInstruction, gw (i := 635) (by decide +kernel) (by decide +kernel), gw (i := 636) (by decide +kernel) (by decide +kernel), gw (i := 637) (by decide +kernel) (by decide +kernel)⟩
theorem f_X11_202_0 : FL RX11 202 0 11 := ⟨RX1, TX1, 12, "CodeVerifier$Code", rfl, by decide, ig_X1, gw (i := 198) (by decide +kernel) (by decide +kernel), Or.inl rfl⟩
theorem v_X11_207 : VL RX11 207 mX1_addProtection 4 := ⟨cl_X1_addProtection, gw (i := 645) (by decide +kernel) (by decide +kernel), gw (i := 646) (by decide +kernel) (by decide +kernel), gw (i := 647) (by decide +kernel) (by decide +kernel)⟩
theorem f_X11_248_3 : FL RX11 248 3 2 := ⟨RX4, TX4, 3, "CodeVerifier$FrameTable", rfl, by decide, ig_X4, gw (i := 280) (by decide +kernel) (by decide +kernel), Or.inl rfl⟩
theorem v_X11_251 : VL RX11 251 mX11_adoptAtJumps 0 := ⟨cl_X11_adoptAtJumps, gw (i := 654) (by decide +kernel) (by decide +kernel), gw (i := 656) (by decide +kernel) (by decide +kernel), gw (i := 6) (by decide +kernel) (by decide +kernel)⟩
theorem v_X11_254 : VL RX11 254 mX11_adoptAtHandlers 0 := ⟨cl_X11_adoptAtHandlers, gw (i := 678) (by decide +kernel) (by decide +kernel), gw (i := 680) (by decide +kernel) (by decide +kernel), gw (i := 8) (by decide +kernel) (by decide +kernel)⟩
theorem v_X11_257 : VL RX11 257 mX11_adoptBehindEnds 0 := ⟨cl_X11_adoptBehindEnds, gw (i := 686) (by decide +kernel) (by decide +kernel), gw (i := 688) (by decide +kernel) (by decide +kernel), gw (i := 9) (by decide +kernel) (by decide +kernel)⟩
theorem v_X11_276 : VL RX11 276 mX1_protects 2 := ⟨cl_X1_protects, gw (i := 682) (by decide +kernel) (by decide +kernel), gw (i := 683) (by decide +kernel) (by decide +kernel), gw (i := 684) (by decide +kernel) (by decide +kernel)⟩
theorem v_X11_260 : VL RX11 260 mX4_contains 1 := ⟨cl_X4_contains, gw (i := 658) (by decide +kernel) (by decide +kernel), gw (i := 659) (by decide +kernel) (by decide +kernel), gw (i := 660) (by decide +kernel) (by decide +kernel)⟩
theorem f_X11_279_0 : FL RX11 279 0 9 := ⟨RX1, TX1, 12, "CodeVerifier$Code", rfl, by decide, ig_X1, gw (i := 192) (by decide +kernel) (by decide +kernel), Or.inl rfl⟩
theorem v_X11_272 : VL RX11 272 mX11_adoptAt 1 := ⟨cl_X11_adoptAt, gw (i := 665) (by decide +kernel) (by decide +kernel), gw (i := 667) (by decide +kernel) (by decide +kernel), gw (i := 7) (by decide +kernel) (by decide +kernel)⟩
theorem f_X11_285_3 : FL RX11 285 3 0 := ⟨RX4, TX4, 3, "CodeVerifier$FrameTable", rfl, by decide, ig_X4, gw (i := 277) (by decide +kernel) (by decide +kernel), Or.inl rfl⟩
theorem v_X11_244 : VL RX11 244 mX4_put 2 := ⟨cl_X4_put, gw (i := 669) (by decide +kernel) (by decide +kernel), gw (i := 670) (by decide +kernel) (by decide +kernel), gw (i := 671) (by decide +kernel) (by decide +kernel)⟩
theorem f_X11_263_0 : FL RX11 263 0 4 := ⟨RX1, TX1, 12, "CodeVerifier$Code", rfl, by decide, ig_X1, gw (i := 174) (by decide +kernel) (by decide +kernel), Or.inl rfl⟩
theorem s_X11_266 : SL RX11 266 mX9_jumps 1 := ⟨cl_X9_jumps, Or.inl (gw (i := 662) (by decide +kernel) (by decide +kernel)), gw (i := 663) (by decide +kernel) (by decide +kernel)⟩
theorem f_X11_269_0 : FL RX11 269 0 5 := ⟨RX1, TX1, 12, "CodeVerifier$Code", rfl, by decide, ig_X1, gw (i := 179) (by decide +kernel) (by decide +kernel), Or.inl rfl⟩
theorem s_X11_282 : SL RX11 282 mX9_fallsThrough 1 := ⟨cl_X9_fallsThrough, Or.inl (gw (i := 690) (by decide +kernel) (by decide +kernel)), gw (i := 691) (by decide +kernel) (by decide +kernel)⟩
theorem v_X11_289 : VL RX11 289 mX11_requireCode 0 := ⟨cl_X11_requireCode, gw (i := 697) (by decide +kernel) (by decide +kernel), gw (i := 699) (by decide +kernel) (by decide +kernel), gw (i := 10) (by decide +kernel) (by decide +kernel)⟩
theorem f_X11_59_9 : FL RX11 59 9 7 := ⟨RX11, TX11, 11, "CodeVerifier", rfl, by decide, ig_X11, gw (i := 424) (by decide +kernel) (by decide +kernel), Or.inl rfl⟩
theorem v_X11_292 : VL RX11 292 mX5_run 0 := ⟨cl_X5_run, gw (i := 702) (by decide +kernel) (by decide +kernel), gw (i := 703) (by decide +kernel) (by decide +kernel), gw (i := 704) (by decide +kernel) (by decide +kernel)⟩
theorem f_X11_296_4 : FL RX11 296 4 3 := ⟨RX5, TX5, 11, "CodeVerifier$Inference", rfl, by decide, ig_X5, gw (i := 363) (by decide +kernel) (by decide +kernel), Or.inr (gw (i := 364) (by decide +kernel) (by decide +kernel))⟩
theorem p_X11_70_9 : PL false RX11 70 9 9 (.int) := ⟨RX11, TX11, 11, "CodeVerifier", tyX11, rfl, by decide, ig_X11, gw (i := 426) (by decide +kernel) (by decide +kernel), Or.inl rfl, rfl, by decide +kernel, tyX11_ok, nmX11, fun h => by cases h⟩
theorem f_X11_299_4 : FL RX11 299 4 4 := ⟨RX5, TX5, 11, "CodeVerifier$Inference", rfl, by decide, ig_X5, gw (i := 367) (by decide +kernel) (by decide +kernel), Or.inr (gw (i := 368) (by decide +kernel) (by decide +kernel))⟩
theorem p_X11_73_9 : PL false RX11 73 9 10 (.int) := ⟨RX11, TX11, 11, "CodeVerifier", tyX11, rfl, by decide, ig_X11, gw (i := 427) (by decide +kernel) (by decide +kernel), Or.inl rfl, rfl, by decide +kernel, tyX11_ok, nmX11, fun h => by cases h⟩
theorem f_X11_66_9 : FL RX11 66 9 8 := ⟨RX11, TX11, 11, "CodeVerifier", rfl, by decide, ig_X11, gw (i := 425) (by decide +kernel) (by decide +kernel), Or.inl rfl⟩
theorem v_X11_302 : VL RX11 302 mX6_run 0 := ⟨cl_X6_run, gw (i := 960) (by decide +kernel) (by decide +kernel), gw (i := 961) (by decide +kernel) (by decide +kernel), gw (i := 962) (by decide +kernel) (by decide +kernel)⟩
theorem f_X11_303_5 : FL RX11 303 5 3 := ⟨RX6, TX6, 10, "CodeVerifier$LinearCheck", rfl, by decide, ig_X6, gw (i := 365) (by decide +kernel) (by decide +kernel), Or.inr (gw (i := 362) (by decide +kernel) (by decide +kernel))⟩
theorem f_X11_304_5 : FL RX11 304 5 4 := ⟨RX6, TX6, 10, "CodeVerifier$LinearCheck", rfl, by decide, ig_X6, gw (i := 369) (by decide +kernel) (by decide +kernel), Or.inr (gw (i := 370) (by decide +kernel) (by decide +kernel))⟩
theorem f_X11_70_9 : FL RX11 70 9 9 := ⟨RX11, TX11, 11, "CodeVerifier", rfl, by decide, ig_X11, gw (i := 426) (by decide +kernel) (by decide +kernel), Or.inl rfl⟩
theorem f_X11_73_9 : FL RX11 73 9 10 := ⟨RX11, TX11, 11, "CodeVerifier", rfl, by decide, ig_X11, gw (i := 427) (by decide +kernel) (by decide +kernel), Or.inl rfl⟩
theorem v_X11_307 : VL RX11 307 mX11_requireIndex 1 := ⟨cl_X11_requireIndex, gw (i := 991) (by decide +kernel) (by decide +kernel), gw (i := 993) (by decide +kernel) (by decide +kernel), gw (i := 40) (by decide +kernel) (by decide +kernel)⟩
theorem v_X11_224 : VL RX11 224 mX1_isIndex 1 := ⟨cl_X1_isIndex, gw (i := 995) (by decide +kernel) (by decide +kernel), gw (i := 722) (by decide +kernel) (by decide +kernel), gw (i := 723) (by decide +kernel) (by decide +kernel)⟩
theorem v_X11_310 : VL RX11 310 mX11_requireFrame 1 := ⟨cl_X11_requireFrame, gw (i := 1024) (by decide +kernel) (by decide +kernel), gw (i := 1026) (by decide +kernel) (by decide +kernel), gw (i := 42) (by decide +kernel) (by decide +kernel)⟩
theorem f_X11_216_2 : FL RX11 216 2 2 := ⟨RX3, TX3, 4, "CodeVerifier$Frame", rfl, by decide, ig_X3, gw (i := 245) (by decide +kernel) (by decide +kernel), Or.inl rfl⟩
theorem f_X11_221_2 : FL RX11 221 2 1 := ⟨RX3, TX3, 4, "CodeVerifier$Frame", rfl, by decide, ig_X3, gw (i := 240) (by decide +kernel) (by decide +kernel), Or.inl rfl⟩
theorem f_X11_230_0 : FL RX11 230 0 3 := ⟨RX1, TX1, 12, "CodeVerifier$Code", rfl, by decide, ig_X1, gw (i := 168) (by decide +kernel) (by decide +kernel), Or.inl rfl⟩
theorem f_X11_213_2 : FL RX11 213 2 0 := ⟨RX3, TX3, 4, "CodeVerifier$Frame", rfl, by decide, ig_X3, gw (i := 235) (by decide +kernel) (by decide +kernel), Or.inl rfl⟩
theorem c2_X11_322 : Cond.constantLong RX11 322 37 ∈ GW := gw (i := 1000) (by decide +kernel) (by decide +kernel)
theorem c2_X11_324 : Cond.constantLong RX11 324 31 ∈ GW := gw (i := 1001) (by decide +kernel) (by decide +kernel)
theorem f_X11_104_7 : FL RX11 104 7 2 := ⟨RX8, TX8, 13, "CodeVerifier$Members", rfl, by decide, ig_X8, gw (i := 104) (by decide +kernel) (by decide +kernel), Or.inl rfl⟩
theorem v_X11_326 : VL RX11 326 mX11_addFrame 2 := ⟨cl_X11_addFrame, gw (i := 1002) (by decide +kernel) (by decide +kernel), gw (i := 1004) (by decide +kernel) (by decide +kernel), gw (i := 41) (by decide +kernel) (by decide +kernel)⟩
theorem f_X11_241_2 : FL RX11 241 2 3 := ⟨RX3, TX3, 4, "CodeVerifier$Frame", rfl, by decide, ig_X3, gw (i := 251) (by decide +kernel) (by decide +kernel), Or.inl rfl⟩
theorem j_ls3 {a1 a2 a3 b1 b2 b3 d x : Int} (h1 : ¬ x = a1) (h2 : ¬ x = a2) (h3 : ¬ x = a3) : Op.lookupswitch.offset [(a1, b1), (a2, b2), (a3, b3)] d x = d := by
  simp [Op.lookupswitch.offset, List.find?, Ne.symm h1, Ne.symm h2, Ne.symm h3, h1, h2, h3]
