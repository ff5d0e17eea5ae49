/-! methods, and what the tables say of their links -/
abbrev mX1_start : Mt := (yX1_start, cX1_start, 4, none, [], { frames := 0, cells := 0, slots := 0, locals := 0 })
abbrev mX1_addInstruction : Mt := (yX1_addInstruction, cX1_addInstruction, 3, some .int, [], { frames := 0, cells := 0, slots := 0, locals := 0 })
abbrev mX1_addProtection : Mt := (yX1_addProtection, cX1_addProtection, 5, some .int, [], { frames := 0, cells := 0, slots := 0, locals := 0 })
abbrev mX1_isIndex : Mt := (yX1_isIndex, cX1_isIndex, 2, some .boolean, [], { frames := 0, cells := 0, slots := 0, locals := 0 })
abbrev mX1_protects : Mt := (yX1_protects, cX1_protects, 3, some .boolean, [], { frames := 0, cells := 0, slots := 0, locals := 0 })
abbrev mX1_creates : Mt := (yX1_creates, cX1_creates, 3, some .boolean, [], { frames := 1, cells := 0, slots := 0, locals := 21 })
abbrev mX2_isHandlerAllowed : Mt := (yX2_isHandlerAllowed, cX2_isHandlerAllowed, 8, some .boolean, [], { frames := 1, cells := 0, slots := 0, locals := 21 })
abbrev mX10_isClass : Mt := (yX10_isClass, cX10_isClass, 2, some .boolean, [], { frames := 0, cells := 0, slots := 0, locals := 0 })
abbrev mX10_isType : Mt := (yX10_isType, cX10_isType, 2, some .boolean, [], { frames := 0, cells := 0, slots := 0, locals := 0 })
abbrev mX11_isReferenceType : Mt := (yX11_isReferenceType, cX11_isReferenceType, 1, some .boolean, [], { frames := 0, cells := 0, slots := 0, locals := 0 })
abbrev mX8_isField : Mt := (yX8_isField, cX8_isField, 2, some .boolean, [], { frames := 0, cells := 0, slots := 0, locals := 0 })
abbrev mX8_isMethod : Mt := (yX8_isMethod, cX8_isMethod, 2, some .boolean, [], { frames := 0, cells := 0, slots := 0, locals := 0 })
abbrev mX8_isMethodOfKind : Mt := (yX8_isMethodOfKind, cX8_isMethodOfKind, 3, some .boolean, [], { frames := 1, cells := 0, slots := 0, locals := 21 })
abbrev mX2_isOperandAllowed : Mt := (yX2_isOperandAllowed, cX2_isOperandAllowed, 3, some .boolean, [], { frames := 2, cells := 0, slots := 0, locals := 43 })
abbrev mX8_slotsNeeded : Mt := (yX8_slotsNeeded, cX8_slotsNeeded, 2, some .int, [], { frames := 0, cells := 0, slots := 0, locals := 0 })
abbrev mX2_run : Mt := (yX2_run, cX2_run, 2, some .int, [], { frames := 3, cells := 0, slots := 0, locals := 65 })
abbrev mX3_clear : Mt := (yX3_clear, cX3_clear, 2, none, [], { frames := 0, cells := 0, slots := 0, locals := 0 })
abbrev mX3_copyFrom : Mt := (yX3_copyFrom, cX3_copyFrom, 2, none, [], { frames := 1, cells := 0, slots := 0, locals := 22 })
abbrev mX3_copyCaught : Mt := (yX3_copyCaught, cX3_copyCaught, 3, none, [], { frames := 2, cells := 0, slots := 0, locals := 43 })
abbrev mX3_replaceLocals : Mt := (yX3_replaceLocals, cX3_replaceLocals, 4, none, [], { frames := 0, cells := 0, slots := 0, locals := 0 })
abbrev mX3_replaceStack : Mt := (yX3_replaceStack, cX3_replaceStack, 4, none, [], { frames := 0, cells := 0, slots := 0, locals := 0 })
abbrev mX3_hasOnStack : Mt := (yX3_hasOnStack, cX3_hasOnStack, 3, some .boolean, [], { frames := 0, cells := 0, slots := 0, locals := 0 })
abbrev mX3_arePaired : Mt := (yX3_arePaired, cX3_arePaired, 4, some .boolean, [], { frames := 0, cells := 0, slots := 0, locals := 0 })
abbrev mX3_isWellFormed : Mt := (yX3_isWellFormed, cX3_isWellFormed, 1, some .boolean, [], { frames := 1, cells := 0, slots := 0, locals := 23 })
abbrev mX4_clear : Mt := (yX4_clear, cX4_clear, 2, none, [], { frames := 0, cells := 0, slots := 0, locals := 0 })
abbrev mX4_contains : Mt := (yX4_contains, cX4_contains, 2, some .boolean, [], { frames := 0, cells := 0, slots := 0, locals := 0 })
abbrev mX4_put : Mt := (yX4_put, cX4_put, 3, none, [], { frames := 2, cells := 0, slots := 0, locals := 43 })
abbrev mX0_examine : Mt := (yX0_examine, cX0_examine, 2, some .int, [], { frames := 4, cells := 0, slots := 0, locals := 86 })
abbrev mX10_inherits : Mt := (yX10_inherits, cX10_inherits, 5, some .boolean, [], { frames := 0, cells := 0, slots := 0, locals := 0 })
abbrev mX10_commonClass : Mt := (yX10_commonClass, cX10_commonClass, 5, some .int, [], { frames := 1, cells := 0, slots := 0, locals := 24 })
abbrev mX10_referenceLevels : Mt := (yX10_referenceLevels, cX10_referenceLevels, 3, some .int, [], { frames := 0, cells := 0, slots := 0, locals := 0 })
abbrev mX11_isReference : Mt := (yX11_isReference, cX11_isReference, 1, some .boolean, [], { frames := 1, cells := 0, slots := 0, locals := 20 })
abbrev mX10_commonSlot : Mt := (yX10_commonSlot, cX10_commonSlot, 6, some .int, [], { frames := 2, cells := 0, slots := 0, locals := 48 })
abbrev mX5_flow : Mt := (yX5_flow, cX5_flow, 8, some .int, [], { frames := 3, cells := 0, slots := 0, locals := 73 })
abbrev mX0_flowToHandlers : Mt := (yX0_flowToHandlers, cX0_flowToHandlers, 4, some .int, [], { frames := 4, cells := 0, slots := 0, locals := 100 })
abbrev mX9_fallsThrough : Mt := (yX9_fallsThrough, cX9_fallsThrough, 1, some .boolean, [], { frames := 0, cells := 0, slots := 0, locals := 0 })
abbrev mX9_jumps : Mt := (yX9_jumps, cX9_jumps, 1, some .boolean, [], { frames := 0, cells := 0, slots := 0, locals := 0 })
abbrev mX0_flowToSuccessors : Mt := (yX0_flowToSuccessors, cX0_flowToSuccessors, 4, some .int, [], { frames := 4, cells := 0, slots := 0, locals := 100 })
abbrev mX7_require : Mt := (yX7_require, cX7_require, 3, none, [], { frames := 0, cells := 0, slots := 0, locals := 0 })
abbrev mX7_popSlot : Mt := (yX7_popSlot, cX7_popSlot, 1, some .int, [], { frames := 1, cells := 0, slots := 0, locals := 22 })
abbrev mX7_initialize : Mt := (yX7_initialize, cX7_initialize, 7, none, [], { frames := 2, cells := 0, slots := 0, locals := 43 })
abbrev mX10_isInterface : Mt := (yX10_isInterface, cX10_isInterface, 2, some .boolean, [], { frames := 0, cells := 0, slots := 0, locals := 0 })
abbrev mX10_fits : Mt := (yX10_fits, cX10_fits, 6, some .boolean, [], { frames := 1, cells := 0, slots := 0, locals := 24 })
abbrev mX7_popOfType : Mt := (yX7_popOfType, cX7_popOfType, 4, none, [], { frames := 2, cells := 0, slots := 0, locals := 49 })
abbrev mX7_push : Mt := (yX7_push, cX7_push, 2, none, [], { frames := 1, cells := 0, slots := 0, locals := 22 })
abbrev mX7_pushOfType : Mt := (yX7_pushOfType, cX7_pushOfType, 2, none, [], { frames := 2, cells := 0, slots := 0, locals := 43 })
abbrev mX8_parameterType : Mt := (yX8_parameterType, cX8_parameterType, 3, some .int, [], { frames := 0, cells := 0, slots := 0, locals := 0 })
abbrev mX7_call : Mt := (yX7_call, cX7_call, 4, none, [], { frames := 3, cells := 0, slots := 0, locals := 72 })
abbrev mX7_create : Mt := (yX7_create, cX7_create, 2, none, [], { frames := 2, cells := 0, slots := 0, locals := 43 })
abbrev mX7_isArrayType : Mt := (yX7_isArrayType, cX7_isArrayType, 1, some .boolean, [], { frames := 0, cells := 0, slots := 0, locals := 0 })
abbrev mX7_popReference : Mt := (yX7_popReference, cX7_popReference, 2, some .int, [], { frames := 2, cells := 0, slots := 0, locals := 42 })
abbrev mX7_popReferenceArray : Mt := (yX7_popReferenceArray, cX7_popReferenceArray, 3, some .int, [], { frames := 2, cells := 0, slots := 0, locals := 42 })
abbrev mX7_executeArray : Mt := (yX7_executeArray, cX7_executeArray, 5, none, [], { frames := 3, cells := 0, slots := 0, locals := 72 })
abbrev mX7_executeEnd : Mt := (yX7_executeEnd, cX7_executeEnd, 4, none, [], { frames := 3, cells := 0, slots := 0, locals := 72 })
abbrev mX7_isAnyReference : Mt := (yX7_isAnyReference, cX7_isAnyReference, 1, some .boolean, [], { frames := 1, cells := 0, slots := 0, locals := 20 })
abbrev mX7_popAnyReference : Mt := (yX7_popAnyReference, cX7_popAnyReference, 2, some .int, [], { frames := 2, cells := 0, slots := 0, locals := 42 })
abbrev mX7_breakLong : Mt := (yX7_breakLong, cX7_breakLong, 2, none, [], { frames := 0, cells := 0, slots := 0, locals := 0 })
abbrev mX7_store : Mt := (yX7_store, cX7_store, 3, none, [], { frames := 1, cells := 0, slots := 0, locals := 21 })
abbrev mX7_executeLocal : Mt := (yX7_executeLocal, cX7_executeLocal, 3, none, [], { frames := 3, cells := 0, slots := 0, locals := 72 })
abbrev mX7_isWhole : Mt := (yX7_isWhole, cX7_isWhole, 1, some .boolean, [], { frames := 0, cells := 0, slots := 0, locals := 0 })
abbrev mX7_movePair : Mt := (yX7_movePair, cX7_movePair, 4, none, [], { frames := 2, cells := 0, slots := 0, locals := 43 })
abbrev mX7_popWhole : Mt := (yX7_popWhole, cX7_popWhole, 2, some .int, [], { frames := 2, cells := 0, slots := 0, locals := 42 })
abbrev mX7_executeMove : Mt := (yX7_executeMove, cX7_executeMove, 5, none, [], { frames := 3, cells := 0, slots := 0, locals := 66 })
abbrev mX7_executeNumber : Mt := (yX7_executeNumber, cX7_executeNumber, 2, none, [], { frames := 3, cells := 0, slots := 0, locals := 72 })
abbrev mX7_popFieldObject : Mt := (yX7_popFieldObject, cX7_popFieldObject, 4, none, [], { frames := 2, cells := 0, slots := 0, locals := 49 })
abbrev mX7_executeObject : Mt := (yX7_executeObject, cX7_executeObject, 3, none, [], { frames := 3, cells := 0, slots := 0, locals := 72 })
abbrev mX7_execute : Mt := (yX7_execute, cX7_execute, 5, some .int, [], { frames := 4, cells := 0, slots := 0, locals := 96 })
abbrev mX0_process : Mt := (yX0_process, cX0_process, 3, some .int, [], { frames := 5, cells := 0, slots := 0, locals := 123 })
abbrev mX11_slotsOf : Mt := (yX11_slotsOf, cX11_slotsOf, 1, some .int, [], { frames := 0, cells := 0, slots := 0, locals := 0 })
abbrev mX0_makeFirstFrame : Mt := (yX0_makeFirstFrame, cX0_makeFirstFrame, 7, none, [], { frames := 1, cells := 0, slots := 0, locals := 22 })
abbrev mX5_setFirstFrame : Mt := (yX5_setFirstFrame, cX5_setFirstFrame, 2, none, [], { frames := 3, cells := 0, slots := 0, locals := 65 })
abbrev mX5_takePending : Mt := (yX5_takePending, cX5_takePending, 2, some .int, [], { frames := 0, cells := 0, slots := 0, locals := 0 })
abbrev mX5_run : Mt := (yX5_run, cX5_run, 4, some .int, [], { frames := 6, cells := 0, slots := 0, locals := 145 })
abbrev mX10_frameFits : Mt := (yX10_frameFits, cX10_frameFits, 4, some .boolean, [], { frames := 2, cells := 0, slots := 0, locals := 49 })
abbrev mX6_flow : Mt := (yX6_flow, cX6_flow, 5, some .int, [], { frames := 3, cells := 0, slots := 0, locals := 72 })
abbrev mX6_enter : Mt := (yX6_enter, cX6_enter, 3, some .boolean, [], { frames := 3, cells := 0, slots := 0, locals := 72 })
abbrev mX6_run : Mt := (yX6_run, cX6_run, 4, some .int, [], { frames := 6, cells := 0, slots := 0, locals := 145 })
abbrev mX8_addField : Mt := (yX8_addField, cX8_addField, 3, some .int, [], { frames := 0, cells := 0, slots := 0, locals := 0 })
abbrev mX8_addParameter : Mt := (yX8_addParameter, cX8_addParameter, 2, some .int, [], { frames := 1, cells := 0, slots := 0, locals := 20 })
abbrev mX8_dropParameters : Mt := (yX8_dropParameters, cX8_dropParameters, 1, none, [], { frames := 0, cells := 0, slots := 0, locals := 0 })
abbrev mX8_addMethod : Mt := (yX8_addMethod, cX8_addMethod, 4, some .int, [], { frames := 1, cells := 0, slots := 0, locals := 22 })
abbrev mX10_add : Mt := (yX10_add, cX10_add, 3, some .int, [], { frames := 0, cells := 0, slots := 0, locals := 0 })
abbrev mX10_isSlotValue : Mt := (yX10_isSlotValue, cX10_isSlotValue, 2, some .boolean, [], { frames := 1, cells := 0, slots := 0, locals := 21 })
abbrev mX11_declareClass : Mt := (yX11_declareClass, cX11_declareClass, 3, some .int, [], { frames := 6, cells := 1, slots := 6, locals := 84 })
abbrev mX11_declareField : Mt := (yX11_declareField, cX11_declareField, 3, some .int, [], { frames := 6, cells := 1, slots := 6, locals := 84 })
abbrev mX11_parameter : Mt := (yX11_parameter, cX11_parameter, 2, some .int, [], { frames := 6, cells := 1, slots := 6, locals := 84 })
abbrev mX11_isMethodAllowed : Mt := (yX11_isMethodAllowed, cX11_isMethodAllowed, 4, some .boolean, [], { frames := 1, cells := 0, slots := 0, locals := 21 })
abbrev mX11_declareMethod : Mt := (yX11_declareMethod, cX11_declareMethod, 4, some .int, [], { frames := 6, cells := 1, slots := 6, locals := 84 })
abbrev mX11_requireSlotValues : Mt := (yX11_requireSlotValues, cX11_requireSlotValues, 3, none, [], { frames := 6, cells := 1, slots := 6, locals := 84 })
abbrev mX11_isAssignable : Mt := (yX11_isAssignable, cX11_isAssignable, 3, some .boolean, [], { frames := 7, cells := 1, slots := 6, locals := 106 })
abbrev mX11_join : Mt := (yX11_join, cX11_join, 3, some .int, [], { frames := 7, cells := 1, slots := 6, locals := 106 })
abbrev mX11_begin : Mt := (yX11_begin, cX11_begin, 4, some .int, [], { frames := 6, cells := 1, slots := 6, locals := 84 })
abbrev mX11_emit : Mt := (yX11_emit, cX11_emit, 3, some .int, [], { frames := 6, cells := 1, slots := 6, locals := 84 })
abbrev mX11_addHandler : Mt := (yX11_addHandler, cX11_addHandler, 5, some .int, [], { frames := 6, cells := 1, slots := 6, locals := 84 })
abbrev mX11_instructionCount : Mt := (yX11_instructionCount, cX11_instructionCount, 1, some .int, [], { frames := 0, cells := 0, slots := 0, locals := 0 })
abbrev mX11_pushLocal : Mt := (yX11_pushLocal, cX11_pushLocal, 2, some .int, [], { frames := 6, cells := 1, slots := 6, locals := 84 })
abbrev mX11_pushStack : Mt := (yX11_pushStack, cX11_pushStack, 2, some .int, [], { frames := 6, cells := 1, slots := 6, locals := 84 })
abbrev mX11_dropDraft : Mt := (yX11_dropDraft, cX11_dropDraft, 1, none, [], { frames := 1, cells := 0, slots := 0, locals := 21 })
abbrev mX11_declareFrame : Mt := (yX11_declareFrame, cX11_declareFrame, 3, some .int, [], { frames := 6, cells := 1, slots := 6, locals := 84 })
abbrev mX11_adoptAt : Mt := (yX11_adoptAt, cX11_adoptAt, 2, none, [], { frames := 3, cells := 0, slots := 0, locals := 65 })
abbrev mX11_adoptAtHandlers : Mt := (yX11_adoptAtHandlers, cX11_adoptAtHandlers, 3, none, [], { frames := 4, cells := 0, slots := 0, locals := 86 })
abbrev mX11_adoptAtJumps : Mt := (yX11_adoptAtJumps, cX11_adoptAtJumps, 2, none, [], { frames := 4, cells := 0, slots := 0, locals := 86 })
abbrev mX11_adoptBehindEnds : Mt := (yX11_adoptBehindEnds, cX11_adoptBehindEnds, 2, none, [], { frames := 4, cells := 0, slots := 0, locals := 86 })
abbrev mX11_adoptFrames : Mt := (yX11_adoptFrames, cX11_adoptFrames, 1, some .int, [], { frames := 6, cells := 1, slots := 6, locals := 108 })
abbrev mX11_requireCode : Mt := (yX11_requireCode, cX11_requireCode, 1, none, [], { frames := 6, cells := 1, slots := 6, locals := 84 })
abbrev mX11_infer : Mt := (yX11_infer, cX11_infer, 2, some .int, [], { frames := 7, cells := 1, slots := 6, locals := 168 })
abbrev mX11_check : Mt := (yX11_check, cX11_check, 2, some .int, [], { frames := 7, cells := 1, slots := 6, locals := 168 })
abbrev mX11_errorPosition : Mt := (yX11_errorPosition, cX11_errorPosition, 1, some .int, [], { frames := 0, cells := 0, slots := 0, locals := 0 })
abbrev mX11_visits : Mt := (yX11_visits, cX11_visits, 1, some .int, [], { frames := 0, cells := 0, slots := 0, locals := 0 })
abbrev mX11_requireIndex : Mt := (yX11_requireIndex, cX11_requireIndex, 2, none, [], { frames := 6, cells := 1, slots := 6, locals := 84 })
abbrev mX11_hasFrame : Mt := (yX11_hasFrame, cX11_hasFrame, 2, some .boolean, [], { frames := 7, cells := 1, slots := 6, locals := 105 })
abbrev mX11_requireFrame : Mt := (yX11_requireFrame, cX11_requireFrame, 2, none, [], { frames := 7, cells := 2, slots := 12, locals := 105 })
abbrev mX11_stackHeight : Mt := (yX11_stackHeight, cX11_stackHeight, 2, some .int, [], { frames := 8, cells := 2, slots := 12, locals := 126 })
abbrev mX11_stackSlot : Mt := (yX11_stackSlot, cX11_stackSlot, 3, some .int, [], { frames := 8, cells := 3, slots := 18, locals := 126 })
abbrev mX11_localSlot : Mt := (yX11_localSlot, cX11_localSlot, 3, some .int, [], { frames := 8, cells := 3, slots := 18, locals := 126 })
abbrev mX11_isMarked : Mt := (yX11_isMarked, cX11_isMarked, 2, some .boolean, [], { frames := 8, cells := 2, slots := 12, locals := 126 })
abbrev mX11_addFrame : Mt := (yX11_addFrame, cX11_addFrame, 7, some .long, [], { frames := 0, cells := 0, slots := 0, locals := 0 })
abbrev mX11_digest : Mt := (yX11_digest, cX11_digest, 4, some .long, [], { frames := 1, cells := 0, slots := 0, locals := 26 })
abbrev mX12_thrown : Mt := (yX12_thrown, cX12_thrown, 1, some .int, [], { frames := 0, cells := 0, slots := 0, locals := 0 })
abbrev mX12_no : Mt := (yX12_no, cX12_no, 2, some .int, [], { frames := 0, cells := 0, slots := 0, locals := 0 })
abbrev mX12_isClass : Mt := (yX12_isClass, cX12_isClass, 2, some .boolean, [], { frames := 0, cells := 0, slots := 0, locals := 0 })
abbrev mX12_isType : Mt := (yX12_isType, cX12_isType, 2, some .boolean, [], { frames := 0, cells := 0, slots := 0, locals := 0 })
abbrev mX12_isReferenceType : Mt := (yX12_isReferenceType, cX12_isReferenceType, 2, some .boolean, [], { frames := 1, cells := 0, slots := 0, locals := 21 })
abbrev mX12_isArray : Mt := (yX12_isArray, cX12_isArray, 2, some .boolean, [], { frames := 1, cells := 0, slots := 0, locals := 21 })
abbrev mX12_isRow : Mt := (yX12_isRow, cX12_isRow, 2, some .boolean, [], { frames := 2, cells := 0, slots := 0, locals := 42 })
abbrev mX12_isSlotValue : Mt := (yX12_isSlotValue, cX12_isSlotValue, 2, some .boolean, [], { frames := 1, cells := 0, slots := 0, locals := 21 })
abbrev mX12_isReference : Mt := (yX12_isReference, cX12_isReference, 2, some .boolean, [], { frames := 2, cells := 0, slots := 0, locals := 42 })
abbrev mX12_isAnyReference : Mt := (yX12_isAnyReference, cX12_isAnyReference, 2, some .boolean, [], { frames := 3, cells := 0, slots := 0, locals := 63 })
abbrev mX12_isAbove : Mt := (yX12_isAbove, cX12_isAbove, 4, some .boolean, [], { frames := 0, cells := 0, slots := 0, locals := 0 })
abbrev mX12_areAssignable : Mt := (yX12_areAssignable, cX12_areAssignable, 5, some .boolean, [], { frames := 3, cells := 0, slots := 0, locals := 63 })
abbrev mX12_joined : Mt := (yX12_joined, cX12_joined, 7, some .int, [], { frames := 3, cells := 0, slots := 0, locals := 63 })
abbrev mX12_fits : Mt := (yX12_fits, cX12_fits, 3, some .boolean, [], { frames := 4, cells := 0, slots := 0, locals := 87 })
abbrev mX12_meet : Mt := (yX12_meet, cX12_meet, 3, some .int, [], { frames := 4, cells := 0, slots := 0, locals := 89 })
abbrev mX12_isAssignable : Mt := (yX12_isAssignable, cX12_isAssignable, 3, some .boolean, [], { frames := 5, cells := 0, slots := 0, locals := 109 })
abbrev mX12_join : Mt := (yX12_join, cX12_join, 3, some .int, [], { frames := 5, cells := 0, slots := 0, locals := 111 })
abbrev mX12_wide : Mt := (yX12_wide, cX12_wide, 1, some .int, [], { frames := 0, cells := 0, slots := 0, locals := 0 })
abbrev mX12_declareClass : Mt := (yX12_declareClass, cX12_declareClass, 3, some .int, [], { frames := 1, cells := 0, slots := 0, locals := 21 })
abbrev mX12_declareField : Mt := (yX12_declareField, cX12_declareField, 3, some .int, [], { frames := 1, cells := 0, slots := 0, locals := 21 })
abbrev mX12_pendingSlots : Mt := (yX12_pendingSlots, cX12_pendingSlots, 3, some .int, [], { frames := 1, cells := 0, slots := 0, locals := 20 })
abbrev mX12_parameter : Mt := (yX12_parameter, cX12_parameter, 2, some .int, [], { frames := 2, cells := 0, slots := 0, locals := 42 })
abbrev mX12_declareMethod : Mt := (yX12_declareMethod, cX12_declareMethod, 7, some .int, [], { frames := 1, cells := 0, slots := 0, locals := 21 })
abbrev mX12_needed : Mt := (yX12_needed, cX12_needed, 4, some .int, [], { frames := 1, cells := 0, slots := 0, locals := 20 })
abbrev mX12_discard : Mt := (yX12_discard, cX12_discard, 2, none, [], { frames := 0, cells := 0, slots := 0, locals := 0 })
abbrev mX12_begin : Mt := (yX12_begin, cX12_begin, 5, some .int, [], { frames := 2, cells := 0, slots := 0, locals := 43 })
abbrev mX12_emit : Mt := (yX12_emit, cX12_emit, 3, some .int, [], { frames := 1, cells := 0, slots := 0, locals := 21 })
abbrev mX12_addHandler : Mt := (yX12_addHandler, cX12_addHandler, 5, some .int, [], { frames := 1, cells := 0, slots := 0, locals := 21 })
abbrev mX12_instructionCount : Mt := (yX12_instructionCount, cX12_instructionCount, 1, some .int, [], { frames := 0, cells := 0, slots := 0, locals := 0 })
abbrev mX12_pushLocal : Mt := (yX12_pushLocal, cX12_pushLocal, 2, some .int, [], { frames := 2, cells := 0, slots := 0, locals := 42 })
abbrev mX12_pushStack : Mt := (yX12_pushStack, cX12_pushStack, 2, some .int, [], { frames := 2, cells := 0, slots := 0, locals := 42 })
abbrev mX12_declaredCount : Mt := (yX12_declaredCount, cX12_declaredCount, 3, some .int, [], { frames := 0, cells := 0, slots := 0, locals := 0 })
abbrev mX12_isPaired : Mt := (yX12_isPaired, cX12_isPaired, 7, some .boolean, [], { frames := 0, cells := 0, slots := 0, locals := 0 })
abbrev mX12_declareFrame : Mt := (yX12_declareFrame, cX12_declareFrame, 6, some .int, [], { frames := 1, cells := 0, slots := 0, locals := 26 })
abbrev mX12_adopt : Mt := (yX12_adopt, cX12_adopt, 3, none, [], { frames := 0, cells := 0, slots := 0, locals := 0 })
abbrev mX12_goesOn : Mt := (yX12_goesOn, cX12_goesOn, 1, some .boolean, [], { frames := 0, cells := 0, slots := 0, locals := 0 })
abbrev mX12_isJump : Mt := (yX12_isJump, cX12_isJump, 1, some .boolean, [], { frames := 0, cells := 0, slots := 0, locals := 0 })
abbrev mX12_adoptFrames : Mt := (yX12_adoptFrames, cX12_adoptFrames, 3, some .int, [], { frames := 1, cells := 0, slots := 0, locals := 22 })
abbrev mX12_fail : Mt := (yX12_fail, cX12_fail, 3, none, [], { frames := 0, cells := 0, slots := 0, locals := 0 })
abbrev mX12_isWell : Mt := (yX12_isWell, cX12_isWell, 1, some .boolean, [], { frames := 0, cells := 0, slots := 0, locals := 0 })
abbrev mX12_isOperand : Mt := (yX12_isOperand, cX12_isOperand, 3, some .boolean, [], { frames := 2, cells := 0, slots := 0, locals := 42 })
abbrev mX12_isHandler : Mt := (yX12_isHandler, cX12_isHandler, 4, some .boolean, [], { frames := 0, cells := 0, slots := 0, locals := 0 })
abbrev mX12_examine : Mt := (yX12_examine, cX12_examine, 2, none, [], { frames := 3, cells := 0, slots := 0, locals := 64 })
abbrev mX12_setFirst : Mt := (yX12_setFirst, cX12_setFirst, 4, none, [], { frames := 1, cells := 0, slots := 0, locals := 20 })
abbrev mX12_top : Mt := (yX12_top, cX12_top, 2, some .int, [], { frames := 0, cells := 0, slots := 0, locals := 0 })
abbrev mX12_has : Mt := (yX12_has, cX12_has, 2, some .boolean, [], { frames := 1, cells := 0, slots := 0, locals := 22 })
abbrev mX12_require : Mt := (yX12_require, cX12_require, 2, none, [], { frames := 1, cells := 0, slots := 0, locals := 22 })
abbrev mX12_drop : Mt := (yX12_drop, cX12_drop, 4, some .int, [], { frames := 1, cells := 0, slots := 0, locals := 20 })
abbrev mX12_popInt : Mt := (yX12_popInt, cX12_popInt, 1, none, [], { frames := 2, cells := 0, slots := 0, locals := 43 })
abbrev mX12_popLong : Mt := (yX12_popLong, cX12_popLong, 1, none, [], { frames := 2, cells := 0, slots := 0, locals := 43 })
abbrev mX12_popReference : Mt := (yX12_popReference, cX12_popReference, 1, some .int, [], { frames := 3, cells := 0, slots := 0, locals := 63 })
abbrev mX12_popAnyReference : Mt := (yX12_popAnyReference, cX12_popAnyReference, 1, some .int, [], { frames := 4, cells := 0, slots := 0, locals := 84 })
abbrev mX12_popSlot : Mt := (yX12_popSlot, cX12_popSlot, 1, some .int, [], { frames := 2, cells := 0, slots := 0, locals := 43 })
abbrev mX12_popType : Mt := (yX12_popType, cX12_popType, 2, none, [], { frames := 5, cells := 0, slots := 0, locals := 109 })
abbrev mX12_popObject : Mt := (yX12_popObject, cX12_popObject, 2, none, [], { frames := 6, cells := 0, slots := 0, locals := 130 })
abbrev mX12_popInts : Mt := (yX12_popInts, cX12_popInts, 1, none, [], { frames := 2, cells := 0, slots := 0, locals := 43 })
abbrev mX12_popRow : Mt := (yX12_popRow, cX12_popRow, 1, some .int, [], { frames := 3, cells := 0, slots := 0, locals := 63 })
abbrev mX12_push : Mt := (yX12_push, cX12_push, 2, none, [], { frames := 1, cells := 0, slots := 0, locals := 20 })
abbrev mX12_pushType : Mt := (yX12_pushType, cX12_pushType, 2, none, [], { frames := 2, cells := 0, slots := 0, locals := 41 })
abbrev mX12_setLocal : Mt := (yX12_setLocal, cX12_setLocal, 3, none, [], { frames := 1, cells := 0, slots := 0, locals := 20 })
abbrev mX12_storeLong : Mt := (yX12_storeLong, cX12_storeLong, 2, none, [], { frames := 2, cells := 0, slots := 0, locals := 42 })
abbrev mX12_replace : Mt := (yX12_replace, cX12_replace, 4, none, [], { frames := 0, cells := 0, slots := 0, locals := 0 })
abbrev mX12_look : Mt := (yX12_look, cX12_look, 2, none, [], { frames := 1, cells := 0, slots := 0, locals := 22 })
abbrev mX12_compute : Mt := (yX12_compute, cX12_compute, 3, none, [], { frames := 5, cells := 0, slots := 0, locals := 104 })
abbrev mX12_leave : Mt := (yX12_leave, cX12_leave, 4, none, [], { frames := 5, cells := 0, slots := 0, locals := 109 })
abbrev mX12_move : Mt := (yX12_move, cX12_move, 3, none, [], { frames := 5, cells := 0, slots := 0, locals := 104 })
abbrev mX12_shuffle : Mt := (yX12_shuffle, cX12_shuffle, 5, none, [], { frames := 3, cells := 0, slots := 0, locals := 63 })
abbrev mX12_useArray : Mt := (yX12_useArray, cX12_useArray, 4, none, [], { frames := 4, cells := 0, slots := 0, locals := 83 })
abbrev mX12_isToConstruct : Mt := (yX12_isToConstruct, cX12_isToConstruct, 5, some .boolean, [], { frames := 0, cells := 0, slots := 0, locals := 0 })
abbrev mX12_popArguments : Mt := (yX12_popArguments, cX12_popArguments, 3, none, [], { frames := 6, cells := 0, slots := 0, locals := 130 })
abbrev mX12_construct : Mt := (yX12_construct, cX12_construct, 3, none, [], { frames := 7, cells := 0, slots := 0, locals := 152 })
abbrev mX12_create : Mt := (yX12_create, cX12_create, 4, none, [], { frames := 2, cells := 0, slots := 0, locals := 43 })
abbrev mX12_useObject : Mt := (yX12_useObject, cX12_useObject, 3, none, [], { frames := 8, cells := 0, slots := 0, locals := 174 })
abbrev mX12_execute : Mt := (yX12_execute, cX12_execute, 3, none, [], { frames := 9, cells := 0, slots := 0, locals := 196 })
abbrev mX12_fitsFrame : Mt := (yX12_fitsFrame, cX12_fitsFrame, 6, some .boolean, [], { frames := 5, cells := 0, slots := 0, locals := 109 })
abbrev mX12_merge : Mt := (yX12_merge, cX12_merge, 7, none, [], { frames := 5, cells := 0, slots := 0, locals := 111 })
abbrev mX12_flow : Mt := (yX12_flow, cX12_flow, 3, none, [], { frames := 6, cells := 0, slots := 0, locals := 137 })
abbrev mX12_process : Mt := (yX12_process, cX12_process, 4, none, [], { frames := 10, cells := 0, slots := 0, locals := 218 })
abbrev mX12_nextPending : Mt := (yX12_nextPending, cX12_nextPending, 2, some .int, [], { frames := 0, cells := 0, slots := 0, locals := 0 })
abbrev mX12_run : Mt := (yX12_run, cX12_run, 3, none, [], { frames := 11, cells := 0, slots := 0, locals := 241 })
abbrev mX12_infer : Mt := (yX12_infer, cX12_infer, 1, some .int, [], { frames := 12, cells := 0, slots := 0, locals := 263 })
abbrev mX12_enter : Mt := (yX12_enter, cX12_enter, 3, none, [], { frames := 6, cells := 0, slots := 0, locals := 134 })
abbrev mX12_check : Mt := (yX12_check, cX12_check, 2, some .int, [], { frames := 11, cells := 0, slots := 0, locals := 241 })
abbrev mX12_errorPosition : Mt := (yX12_errorPosition, cX12_errorPosition, 1, some .int, [], { frames := 0, cells := 0, slots := 0, locals := 0 })
abbrev mX12_visits : Mt := (yX12_visits, cX12_visits, 1, some .int, [], { frames := 0, cells := 0, slots := 0, locals := 0 })
abbrev mX12_isIndex : Mt := (yX12_isIndex, cX12_isIndex, 2, some .boolean, [], { frames := 0, cells := 0, slots := 0, locals := 0 })
abbrev mX12_hasFrame : Mt := (yX12_hasFrame, cX12_hasFrame, 2, some .boolean, [], { frames := 1, cells := 0, slots := 0, locals := 21 })
abbrev mX12_isLooked : Mt := (yX12_isLooked, cX12_isLooked, 2, some .boolean, [], { frames := 1, cells := 0, slots := 0, locals := 21 })
abbrev mX12_stackHeight : Mt := (yX12_stackHeight, cX12_stackHeight, 2, some .int, [], { frames := 2, cells := 0, slots := 0, locals := 42 })
abbrev mX12_stackSlot : Mt := (yX12_stackSlot, cX12_stackSlot, 3, some .int, [], { frames := 2, cells := 0, slots := 0, locals := 42 })
abbrev mX12_localSlot : Mt := (yX12_localSlot, cX12_localSlot, 3, some .int, [], { frames := 2, cells := 0, slots := 0, locals := 42 })
abbrev mX12_isMarked : Mt := (yX12_isMarked, cX12_isMarked, 2, some .boolean, [], { frames := 2, cells := 0, slots := 0, locals := 42 })
abbrev mX12_digest : Mt := (yX12_digest, cX12_digest, 5, some .long, [], { frames := 1, cells := 0, slots := 0, locals := 22 })
theorem ig_X1 : ∀ w ∈ u_ws RX1 TX1 12, w ∈ GW := fun w hw => List.mem_filter.mpr ((show ∀ w ∈ u_ws RX1 TX1 12, w ∈ (EX ++ lw_tbl) ∧ goodWord w = true from by decide +kernel) w hw)
theorem ig_X2 : ∀ w ∈ u_ws RX2 TX2 4, w ∈ GW := fun w hw => List.mem_filter.mpr ((show ∀ w ∈ u_ws RX2 TX2 4, w ∈ (EX ++ lw_tbl) ∧ goodWord w = true from by decide +kernel) w hw)
theorem ig_X3 : ∀ w ∈ u_ws RX3 TX3 4, w ∈ GW := fun w hw => List.mem_filter.mpr ((show ∀ w ∈ u_ws RX3 TX3 4, w ∈ (EX ++ lw_tbl) ∧ goodWord w = true from by decide +kernel) w hw)
theorem ig_X4 : ∀ w ∈ u_ws RX4 TX4 3, w ∈ GW := fun w hw => List.mem_filter.mpr ((show ∀ w ∈ u_ws RX4 TX4 3, w ∈ (EX ++ lw_tbl) ∧ goodWord w = true from by decide +kernel) w hw)
theorem ig_X5 : ∀ w ∈ u_ws RX5 TX5 11, w ∈ GW := fun w hw => List.mem_filter.mpr ((show ∀ w ∈ u_ws RX5 TX5 11, w ∈ (EX ++ lw_tbl) ∧ goodWord w = true from by decide +kernel) w hw)
theorem ig_X6 : ∀ w ∈ u_ws RX6 TX6 10, w ∈ GW := fun w hw => List.mem_filter.mpr ((show ∀ w ∈ u_ws RX6 TX6 10, w ∈ (EX ++ lw_tbl) ∧ goodWord w = true from by decide +kernel) w hw)
theorem ig_X7 : ∀ w ∈ u_ws RX7 TX7 5, w ∈ GW := fun w hw => List.mem_filter.mpr ((show ∀ w ∈ u_ws RX7 TX7 5, w ∈ (EX ++ lw_tbl) ∧ goodWord w = true from by decide +kernel) w hw)
theorem ig_X8 : ∀ w ∈ u_ws RX8 TX8 13, w ∈ GW := fun w hw => List.mem_filter.mpr ((show ∀ w ∈ u_ws RX8 TX8 13, w ∈ (EX ++ lw_tbl) ∧ goodWord w = true from by decide +kernel) w hw)
theorem ig_X10 : ∀ w ∈ u_ws RX10 TX10 3, w ∈ GW := fun w hw => List.mem_filter.mpr ((show ∀ w ∈ u_ws RX10 TX10 3, w ∈ (EX ++ lw_tbl) ∧ goodWord w = true from by decide +kernel) w hw)
theorem ig_X11 : ∀ w ∈ u_ws RX11 TX11 11, w ∈ GW := fun w hw => List.mem_filter.mpr ((show ∀ w ∈ u_ws RX11 TX11 11, w ∈ (EX ++ lw_tbl) ∧ goodWord w = true from by decide +kernel) w hw)
theorem ig_X12 : ∀ w ∈ u_ws RX12 TX12 44, w ∈ GW := fun w hw => List.mem_filter.mpr ((show ∀ w ∈ u_ws RX12 TX12 44, w ∈ (EX ++ lw_tbl) ∧ goodWord w = true from by decide +kernel) w hw)
theorem cl_X1_isIndex : CL mX1_isIndex 1 := ⟨rfl, gw (i := 859) (by decide +kernel) (by decide +kernel), gw (i := 114) (by decide +kernel) (by decide +kernel), by decide +kernel, by decide +kernel⟩
theorem cl_X8_slotsNeeded : CL mX8_slotsNeeded 1 := ⟨rfl, gw (i := 806) (by decide +kernel) (by decide +kernel), gw (i := 113) (by decide +kernel) (by decide +kernel), by decide +kernel, by decide +kernel⟩
theorem cl_X2_isHandlerAllowed : CL mX2_isHandlerAllowed 1 := ⟨rfl, gw (i := 962) (by decide +kernel) (by decide +kernel), gw (i := 119) (by decide +kernel) (by decide +kernel), by decide +kernel, by decide +kernel⟩
theorem cl_X2_isOperandAllowed : CL mX2_isOperandAllowed 2 := ⟨rfl, gw (i := 945) (by decide +kernel) (by decide +kernel), gw (i := 119) (by decide +kernel) (by decide +kernel), by decide +kernel, by decide +kernel⟩
theorem cl_X8_isField : CL mX8_isField 1 := ⟨rfl, gw (i := 950) (by decide +kernel) (by decide +kernel), gw (i := 113) (by decide +kernel) (by decide +kernel), by decide +kernel, by decide +kernel⟩
theorem cl_X10_isClass : CL mX10_isClass 1 := ⟨rfl, gw (i := 558) (by decide +kernel) (by decide +kernel), gw (i := 112) (by decide +kernel) (by decide +kernel), by decide +kernel, by decide +kernel⟩
theorem cl_X8_isMethodOfKind : CL mX8_isMethodOfKind 2 := ⟨rfl, gw (i := 955) (by decide +kernel) (by decide +kernel), gw (i := 113) (by decide +kernel) (by decide +kernel), by decide +kernel, by decide +kernel⟩
theorem cl_X10_isType : CL mX10_isType 1 := ⟨rfl, gw (i := 658) (by decide +kernel) (by decide +kernel), gw (i := 112) (by decide +kernel) (by decide +kernel), by decide +kernel, by decide +kernel⟩
theorem cl_X11_isReferenceType : CL mX11_isReferenceType 1 := ⟨rfl, gw (i := 734) (by decide +kernel) (by decide +kernel), gw (i := 111) (by decide +kernel) (by decide +kernel), by decide +kernel, by decide +kernel⟩
theorem cl_X8_isMethod : CL mX8_isMethod 1 := ⟨rfl, gw (i := 777) (by decide +kernel) (by decide +kernel), gw (i := 113) (by decide +kernel) (by decide +kernel), by decide +kernel, by decide +kernel⟩
theorem cl_X3_copyFrom : CL mX3_copyFrom 1 := ⟨rfl, gw (i := 879) (by decide +kernel) (by decide +kernel), gw (i := 115) (by decide +kernel) (by decide +kernel), by decide +kernel, by decide +kernel⟩
theorem cl_X3_arePaired : CL mX3_arePaired 2 := ⟨rfl, gw (i := 870) (by decide +kernel) (by decide +kernel), gw (i := 115) (by decide +kernel) (by decide +kernel), by decide +kernel, by decide +kernel⟩
theorem cl_X4_clear : CL mX4_clear 0 := ⟨rfl, gw (i := 802) (by decide +kernel) (by decide +kernel), gw (i := 116) (by decide +kernel) (by decide +kernel), by decide +kernel, by decide +kernel⟩
theorem cl_X0_examine : CL mX0_examine 0 := ⟨rfl, gw (i := 937) (by decide +kernel) (by decide +kernel), gw (i := 117) (by decide +kernel) (by decide +kernel), by decide +kernel, by decide +kernel⟩
theorem cl_X5_takePending : CL mX5_takePending 0 := ⟨rfl, gw (i := 985) (by decide +kernel) (by decide +kernel), gw (i := 118) (by decide +kernel) (by decide +kernel), by decide +kernel, by decide +kernel⟩
theorem cl_X0_process : CL mX0_process 1 := ⟨rfl, gw (i := 992) (by decide +kernel) (by decide +kernel), gw (i := 117) (by decide +kernel) (by decide +kernel), by decide +kernel, by decide +kernel⟩
theorem cl_X5_setFirstFrame : CL mX5_setFirstFrame 0 := ⟨rfl, gw (i := 967) (by decide +kernel) (by decide +kernel), gw (i := 118) (by decide +kernel) (by decide +kernel), by decide +kernel, by decide +kernel⟩
theorem cl_X2_run : CL mX2_run 0 := ⟨rfl, gw (i := 941) (by decide +kernel) (by decide +kernel), gw (i := 119) (by decide +kernel) (by decide +kernel), by decide +kernel, by decide +kernel⟩
theorem cl_X0_flowToHandlers : CL mX0_flowToHandlers 1 := ⟨rfl, gw (i := 996) (by decide +kernel) (by decide +kernel), gw (i := 117) (by decide +kernel) (by decide +kernel), by decide +kernel, by decide +kernel⟩
theorem cl_X0_flowToSuccessors : CL mX0_flowToSuccessors 1 := ⟨rfl, gw (i := 1145) (by decide +kernel) (by decide +kernel), gw (i := 117) (by decide +kernel) (by decide +kernel), by decide +kernel, by decide +kernel⟩
theorem cl_X7_execute : CL mX7_execute 2 := ⟨rfl, gw (i := 1023) (by decide +kernel) (by decide +kernel), gw (i := 120) (by decide +kernel) (by decide +kernel), by decide +kernel, by decide +kernel⟩
theorem cl_X1_protects : CL mX1_protects 2 := ⟨rfl, gw (i := 907) (by decide +kernel) (by decide +kernel), gw (i := 114) (by decide +kernel) (by decide +kernel), by decide +kernel, by decide +kernel⟩
theorem cl_X3_copyCaught : CL mX3_copyCaught 2 := ⟨rfl, gw (i := 1001) (by decide +kernel) (by decide +kernel), gw (i := 115) (by decide +kernel) (by decide +kernel), by decide +kernel, by decide +kernel⟩
theorem cl_X5_flow : CL mX5_flow 3 := ⟨rfl, gw (i := 1008) (by decide +kernel) (by decide +kernel), gw (i := 118) (by decide +kernel) (by decide +kernel), by decide +kernel, by decide +kernel⟩
theorem cl_X4_contains : CL mX4_contains 1 := ⟨rfl, gw (i := 541) (by decide +kernel) (by decide +kernel), gw (i := 116) (by decide +kernel) (by decide +kernel), by decide +kernel, by decide +kernel⟩
theorem cl_X10_commonSlot : CL mX10_commonSlot 2 := ⟨rfl, gw (i := 756) (by decide +kernel) (by decide +kernel), gw (i := 112) (by decide +kernel) (by decide +kernel), by decide +kernel, by decide +kernel⟩
theorem cl_X4_put : CL mX4_put 2 := ⟨rfl, gw (i := 875) (by decide +kernel) (by decide +kernel), gw (i := 116) (by decide +kernel) (by decide +kernel), by decide +kernel, by decide +kernel⟩
theorem cl_X11_isReference : CL mX11_isReference 1 := ⟨rfl, gw (i := 759) (by decide +kernel) (by decide +kernel), gw (i := 111) (by decide +kernel) (by decide +kernel), by decide +kernel, by decide +kernel⟩
theorem cl_X10_referenceLevels : CL mX10_referenceLevels 1 := ⟨rfl, gw (i := 737) (by decide +kernel) (by decide +kernel), gw (i := 112) (by decide +kernel) (by decide +kernel), by decide +kernel, by decide +kernel⟩
theorem cl_X10_commonClass : CL mX10_commonClass 2 := ⟨rfl, gw (i := 764) (by decide +kernel) (by decide +kernel), gw (i := 112) (by decide +kernel) (by decide +kernel), by decide +kernel, by decide +kernel⟩
theorem cl_X10_inherits : CL mX10_inherits 2 := ⟨rfl, gw (i := 745) (by decide +kernel) (by decide +kernel), gw (i := 112) (by decide +kernel) (by decide +kernel), by decide +kernel, by decide +kernel⟩
theorem cl_X9_fallsThrough : CL mX9_fallsThrough 1 := ⟨rfl, gw (i := 914) (by decide +kernel) (by decide +kernel), gw (i := 131) (by decide +kernel) (by decide +kernel), by decide +kernel, by decide +kernel⟩
theorem cl_X9_jumps : CL mX9_jumps 1 := ⟨rfl, gw (i := 895) (by decide +kernel) (by decide +kernel), gw (i := 131) (by decide +kernel) (by decide +kernel), by decide +kernel, by decide +kernel⟩
theorem cl_X7_executeLocal : CL mX7_executeLocal 2 := ⟨rfl, gw (i := 1027) (by decide +kernel) (by decide +kernel), gw (i := 120) (by decide +kernel) (by decide +kernel), by decide +kernel, by decide +kernel⟩
theorem cl_X7_executeObject : CL mX7_executeObject 2 := ⟨rfl, gw (i := 1137) (by decide +kernel) (by decide +kernel), gw (i := 120) (by decide +kernel) (by decide +kernel), by decide +kernel, by decide +kernel⟩
theorem cl_X7_executeArray : CL mX7_executeArray 2 := ⟨rfl, gw (i := 1126) (by decide +kernel) (by decide +kernel), gw (i := 120) (by decide +kernel) (by decide +kernel), by decide +kernel, by decide +kernel⟩
theorem cl_X7_call : CL mX7_call 2 := ⟨rfl, gw (i := 1108) (by decide +kernel) (by decide +kernel), gw (i := 120) (by decide +kernel) (by decide +kernel), by decide +kernel, by decide +kernel⟩
theorem cl_X7_create : CL mX7_create 1 := ⟨rfl, gw (i := 1096) (by decide +kernel) (by decide +kernel), gw (i := 120) (by decide +kernel) (by decide +kernel), by decide +kernel, by decide +kernel⟩
theorem cl_X7_executeEnd : CL mX7_executeEnd 1 := ⟨rfl, gw (i := 1087) (by decide +kernel) (by decide +kernel), gw (i := 120) (by decide +kernel) (by decide +kernel), by decide +kernel, by decide +kernel⟩
theorem cl_X7_executeNumber : CL mX7_executeNumber 1 := ⟨rfl, gw (i := 1083) (by decide +kernel) (by decide +kernel), gw (i := 120) (by decide +kernel) (by decide +kernel), by decide +kernel, by decide +kernel⟩
theorem cl_X7_executeMove : CL mX7_executeMove 1 := ⟨rfl, gw (i := 1068) (by decide +kernel) (by decide +kernel), gw (i := 120) (by decide +kernel) (by decide +kernel), by decide +kernel, by decide +kernel⟩
theorem cl_X7_pushOfType : CL mX7_pushOfType 1 := ⟨rfl, gw (i := 1039) (by decide +kernel) (by decide +kernel), gw (i := 120) (by decide +kernel) (by decide +kernel), by decide +kernel, by decide +kernel⟩
theorem cl_X7_popOfType : CL mX7_popOfType 1 := ⟨rfl, gw (i := 1047) (by decide +kernel) (by decide +kernel), gw (i := 120) (by decide +kernel) (by decide +kernel), by decide +kernel, by decide +kernel⟩
theorem cl_X7_initialize : CL mX7_initialize 1 := ⟨rfl, gw (i := 1113) (by decide +kernel) (by decide +kernel), gw (i := 120) (by decide +kernel) (by decide +kernel), by decide +kernel, by decide +kernel⟩
theorem cl_X8_parameterType : CL mX8_parameterType 2 := ⟨rfl, gw (i := 978) (by decide +kernel) (by decide +kernel), gw (i := 113) (by decide +kernel) (by decide +kernel), by decide +kernel, by decide +kernel⟩
theorem cl_X7_popSlot : CL mX7_popSlot 0 := ⟨rfl, gw (i := 1051) (by decide +kernel) (by decide +kernel), gw (i := 120) (by decide +kernel) (by decide +kernel), by decide +kernel, by decide +kernel⟩
theorem cl_X7_require : CL mX7_require 2 := ⟨rfl, gw (i := 1035) (by decide +kernel) (by decide +kernel), gw (i := 120) (by decide +kernel) (by decide +kernel), by decide +kernel, by decide +kernel⟩
theorem cl_X3_replaceLocals : CL mX3_replaceLocals 2 := ⟨rfl, gw (i := 1104) (by decide +kernel) (by decide +kernel), gw (i := 115) (by decide +kernel) (by decide +kernel), by decide +kernel, by decide +kernel⟩
theorem cl_X3_replaceStack : CL mX3_replaceStack 2 := ⟨rfl, gw (i := 1122) (by decide +kernel) (by decide +kernel), gw (i := 115) (by decide +kernel) (by decide +kernel), by decide +kernel, by decide +kernel⟩
theorem cl_X1_creates : CL mX1_creates 2 := ⟨rfl, gw (i := 1117) (by decide +kernel) (by decide +kernel), gw (i := 114) (by decide +kernel) (by decide +kernel), by decide +kernel, by decide +kernel⟩
theorem cl_X10_fits : CL mX10_fits 2 := ⟨rfl, gw (i := 731) (by decide +kernel) (by decide +kernel), gw (i := 112) (by decide +kernel) (by decide +kernel), by decide +kernel, by decide +kernel⟩
theorem cl_X10_isInterface : CL mX10_isInterface 1 := ⟨rfl, gw (i := 696) (by decide +kernel) (by decide +kernel), gw (i := 112) (by decide +kernel) (by decide +kernel), by decide +kernel, by decide +kernel⟩
theorem cl_X7_push : CL mX7_push 1 := ⟨rfl, gw (i := 1031) (by decide +kernel) (by decide +kernel), gw (i := 120) (by decide +kernel) (by decide +kernel), by decide +kernel, by decide +kernel⟩
theorem cl_X3_hasOnStack : CL mX3_hasOnStack 1 := ⟨rfl, gw (i := 1100) (by decide +kernel) (by decide +kernel), gw (i := 115) (by decide +kernel) (by decide +kernel), by decide +kernel, by decide +kernel⟩
theorem cl_X7_popReferenceArray : CL mX7_popReferenceArray 0 := ⟨rfl, gw (i := 1130) (by decide +kernel) (by decide +kernel), gw (i := 120) (by decide +kernel) (by decide +kernel), by decide +kernel, by decide +kernel⟩
theorem cl_X7_popReference : CL mX7_popReference 0 := ⟨rfl, gw (i := 1091) (by decide +kernel) (by decide +kernel), gw (i := 120) (by decide +kernel) (by decide +kernel), by decide +kernel, by decide +kernel⟩
theorem cl_X7_isArrayType : CL mX7_isArrayType 1 := ⟨rfl, gw (i := 1133) (by decide +kernel) (by decide +kernel), gw (i := 120) (by decide +kernel) (by decide +kernel), by decide +kernel, by decide +kernel⟩
theorem cl_X7_isAnyReference : CL mX7_isAnyReference 1 := ⟨rfl, gw (i := 1042) (by decide +kernel) (by decide +kernel), gw (i := 120) (by decide +kernel) (by decide +kernel), by decide +kernel, by decide +kernel⟩
theorem cl_X7_store : CL mX7_store 2 := ⟨rfl, gw (i := 1056) (by decide +kernel) (by decide +kernel), gw (i := 120) (by decide +kernel) (by decide +kernel), by decide +kernel, by decide +kernel⟩
theorem cl_X7_popAnyReference : CL mX7_popAnyReference 0 := ⟨rfl, gw (i := 1064) (by decide +kernel) (by decide +kernel), gw (i := 120) (by decide +kernel) (by decide +kernel), by decide +kernel, by decide +kernel⟩
theorem cl_X7_breakLong : CL mX7_breakLong 1 := ⟨rfl, gw (i := 1060) (by decide +kernel) (by decide +kernel), gw (i := 120) (by decide +kernel) (by decide +kernel), by decide +kernel, by decide +kernel⟩
theorem cl_X7_movePair : CL mX7_movePair 1 := ⟨rfl, gw (i := 1072) (by decide +kernel) (by decide +kernel), gw (i := 120) (by decide +kernel) (by decide +kernel), by decide +kernel, by decide +kernel⟩
theorem cl_X7_popWhole : CL mX7_popWhole 0 := ⟨rfl, gw (i := 1079) (by decide +kernel) (by decide +kernel), gw (i := 120) (by decide +kernel) (by decide +kernel), by decide +kernel, by decide +kernel⟩
theorem cl_X7_isWhole : CL mX7_isWhole 1 := ⟨rfl, gw (i := 1075) (by decide +kernel) (by decide +kernel), gw (i := 120) (by decide +kernel) (by decide +kernel), by decide +kernel, by decide +kernel⟩
theorem cl_X7_popFieldObject : CL mX7_popFieldObject 1 := ⟨rfl, gw (i := 1141) (by decide +kernel) (by decide +kernel), gw (i := 120) (by decide +kernel) (by decide +kernel), by decide +kernel, by decide +kernel⟩
theorem cl_X0_makeFirstFrame : CL mX0_makeFirstFrame 1 := ⟨rfl, gw (i := 973) (by decide +kernel) (by decide +kernel), gw (i := 117) (by decide +kernel) (by decide +kernel), by decide +kernel, by decide +kernel⟩
theorem cl_X3_clear : CL mX3_clear 0 := ⟨rfl, gw (i := 333) (by decide +kernel) (by decide +kernel), gw (i := 115) (by decide +kernel) (by decide +kernel), by decide +kernel, by decide +kernel⟩
theorem cl_X11_slotsOf : CL mX11_slotsOf 1 := ⟨rfl, gw (i := 675) (by decide +kernel) (by decide +kernel), gw (i := 111) (by decide +kernel) (by decide +kernel), by decide +kernel, by decide +kernel⟩
theorem cl_X6_enter : CL mX6_enter 2 := ⟨rfl, gw (i := 1169) (by decide +kernel) (by decide +kernel), gw (i := 121) (by decide +kernel) (by decide +kernel), by decide +kernel, by decide +kernel⟩
theorem cl_X6_flow : CL mX6_flow 3 := ⟨rfl, gw (i := 1013) (by decide +kernel) (by decide +kernel), gw (i := 121) (by decide +kernel) (by decide +kernel), by decide +kernel, by decide +kernel⟩
theorem cl_X10_frameFits : CL mX10_frameFits 2 := ⟨rfl, gw (i := 1018) (by decide +kernel) (by decide +kernel), gw (i := 112) (by decide +kernel) (by decide +kernel), by decide +kernel, by decide +kernel⟩
theorem cl_X8_dropParameters : CL mX8_dropParameters 0 := ⟨rfl, gw (i := 700) (by decide +kernel) (by decide +kernel), gw (i := 113) (by decide +kernel) (by decide +kernel), by decide +kernel, by decide +kernel⟩
theorem cl_X10_add : CL mX10_add 2 := ⟨rfl, gw (i := 647) (by decide +kernel) (by decide +kernel), gw (i := 112) (by decide +kernel) (by decide +kernel), by decide +kernel, by decide +kernel⟩
theorem cl_X8_addField : CL mX8_addField 2 := ⟨rfl, gw (i := 664) (by decide +kernel) (by decide +kernel), gw (i := 113) (by decide +kernel) (by decide +kernel), by decide +kernel, by decide +kernel⟩
theorem cl_X8_addParameter : CL mX8_addParameter 1 := ⟨rfl, gw (i := 680) (by decide +kernel) (by decide +kernel), gw (i := 113) (by decide +kernel) (by decide +kernel), by decide +kernel, by decide +kernel⟩
theorem cl_X11_isMethodAllowed : CL mX11_isMethodAllowed 3 := ⟨rfl, gw (i := 692) (by decide +kernel) (by decide +kernel), gw (i := 111) (by decide +kernel) (by decide +kernel), by decide +kernel, by decide +kernel⟩
theorem cl_X8_addMethod : CL mX8_addMethod 3 := ⟨rfl, gw (i := 706) (by decide +kernel) (by decide +kernel), gw (i := 113) (by decide +kernel) (by decide +kernel), by decide +kernel, by decide +kernel⟩
theorem cl_X11_requireSlotValues : CL mX11_requireSlotValues 2 := ⟨rfl, gw (i := 721) (by decide +kernel) (by decide +kernel), gw (i := 111) (by decide +kernel) (by decide +kernel), by decide +kernel, by decide +kernel⟩
theorem cl_X10_isSlotValue : CL mX10_isSlotValue 1 := ⟨rfl, gw (i := 725) (by decide +kernel) (by decide +kernel), gw (i := 112) (by decide +kernel) (by decide +kernel), by decide +kernel, by decide +kernel⟩
theorem cl_X1_start : CL mX1_start 3 := ⟨rfl, gw (i := 798) (by decide +kernel) (by decide +kernel), gw (i := 114) (by decide +kernel) (by decide +kernel), by decide +kernel, by decide +kernel⟩
theorem cl_X1_addInstruction : CL mX1_addInstruction 2 := ⟨rfl, gw (i := 819) (by decide +kernel) (by decide +kernel), gw (i := 114) (by decide +kernel) (by decide +kernel), by decide +kernel, by decide +kernel⟩
theorem cl_X1_addProtection : CL mX1_addProtection 4 := ⟨rfl, gw (i := 832) (by decide +kernel) (by decide +kernel), gw (i := 114) (by decide +kernel) (by decide +kernel), by decide +kernel, by decide +kernel⟩
theorem cl_X11_dropDraft : CL mX11_dropDraft 0 := ⟨rfl, gw (i := 863) (by decide +kernel) (by decide +kernel), gw (i := 111) (by decide +kernel) (by decide +kernel), by decide +kernel, by decide +kernel⟩
theorem cl_X3_isWellFormed : CL mX3_isWellFormed 0 := ⟨rfl, gw (i := 867) (by decide +kernel) (by decide +kernel), gw (i := 115) (by decide +kernel) (by decide +kernel), by decide +kernel, by decide +kernel⟩
theorem cl_X11_adoptAtJumps : CL mX11_adoptAtJumps 0 := ⟨rfl, gw (i := 892) (by decide +kernel) (by decide +kernel), gw (i := 111) (by decide +kernel) (by decide +kernel), by decide +kernel, by decide +kernel⟩
theorem cl_X11_adoptAtHandlers : CL mX11_adoptAtHandlers 0 := ⟨rfl, gw (i := 903) (by decide +kernel) (by decide +kernel), gw (i := 111) (by decide +kernel) (by decide +kernel), by decide +kernel, by decide +kernel⟩
theorem cl_X11_adoptBehindEnds : CL mX11_adoptBehindEnds 0 := ⟨rfl, gw (i := 911) (by decide +kernel) (by decide +kernel), gw (i := 111) (by decide +kernel) (by decide +kernel), by decide +kernel, by decide +kernel⟩
theorem cl_X11_adoptAt : CL mX11_adoptAt 1 := ⟨rfl, gw (i := 899) (by decide +kernel) (by decide +kernel), gw (i := 111) (by decide +kernel) (by decide +kernel), by decide +kernel, by decide +kernel⟩
theorem cl_X11_requireCode : CL mX11_requireCode 0 := ⟨rfl, gw (i := 925) (by decide +kernel) (by decide +kernel), gw (i := 111) (by decide +kernel) (by decide +kernel), by decide +kernel, by decide +kernel⟩
theorem cl_X5_run : CL mX5_run 0 := ⟨rfl, gw (i := 930) (by decide +kernel) (by decide +kernel), gw (i := 118) (by decide +kernel) (by decide +kernel), by decide +kernel, by decide +kernel⟩
theorem cl_X6_run : CL mX6_run 0 := ⟨rfl, gw (i := 1159) (by decide +kernel) (by decide +kernel), gw (i := 121) (by decide +kernel) (by decide +kernel), by decide +kernel, by decide +kernel⟩
theorem cl_X11_requireIndex : CL mX11_requireIndex 1 := ⟨rfl, gw (i := 1185) (by decide +kernel) (by decide +kernel), gw (i := 111) (by decide +kernel) (by decide +kernel), by decide +kernel, by decide +kernel⟩
theorem cl_X11_requireFrame : CL mX11_requireFrame 1 := ⟨rfl, gw (i := 1196) (by decide +kernel) (by decide +kernel), gw (i := 111) (by decide +kernel) (by decide +kernel), by decide +kernel, by decide +kernel⟩
theorem cl_X11_addFrame : CL mX11_addFrame 2 := ⟨rfl, gw (i := 545) (by decide +kernel) (by decide +kernel), gw (i := 111) (by decide +kernel) (by decide +kernel), by decide +kernel, by decide +kernel⟩
theorem cl_X12_isType : CL mX12_isType 1 := ⟨rfl, gw (i := 1391) (by decide +kernel) (by decide +kernel), gw (i := 122) (by decide +kernel) (by decide +kernel), by decide +kernel, by decide +kernel⟩
theorem cl_X12_isArray : CL mX12_isArray 1 := ⟨rfl, gw (i := 1419) (by decide +kernel) (by decide +kernel), gw (i := 122) (by decide +kernel) (by decide +kernel), by decide +kernel, by decide +kernel⟩
theorem cl_X12_isReferenceType : CL mX12_isReferenceType 1 := ⟨rfl, gw (i := 1407) (by decide +kernel) (by decide +kernel), gw (i := 122) (by decide +kernel) (by decide +kernel), by decide +kernel, by decide +kernel⟩
theorem cl_X12_isReference : CL mX12_isReference 1 := ⟨rfl, gw (i := 1403) (by decide +kernel) (by decide +kernel), gw (i := 122) (by decide +kernel) (by decide +kernel), by decide +kernel, by decide +kernel⟩
theorem cl_X12_isClass : CL mX12_isClass 1 := ⟨rfl, gw (i := 1423) (by decide +kernel) (by decide +kernel), gw (i := 122) (by decide +kernel) (by decide +kernel), by decide +kernel, by decide +kernel⟩
theorem cl_X12_isAbove : CL mX12_isAbove 2 := ⟨rfl, gw (i := 1427) (by decide +kernel) (by decide +kernel), gw (i := 122) (by decide +kernel) (by decide +kernel), by decide +kernel, by decide +kernel⟩
theorem cl_X12_isRow : CL mX12_isRow 1 := ⟨rfl, gw (i := 1415) (by decide +kernel) (by decide +kernel), gw (i := 122) (by decide +kernel) (by decide +kernel), by decide +kernel, by decide +kernel⟩
theorem cl_X12_areAssignable : CL mX12_areAssignable 2 := ⟨rfl, gw (i := 1411) (by decide +kernel) (by decide +kernel), gw (i := 122) (by decide +kernel) (by decide +kernel), by decide +kernel, by decide +kernel⟩
theorem cl_X12_joined : CL mX12_joined 2 := ⟨rfl, gw (i := 1439) (by decide +kernel) (by decide +kernel), gw (i := 122) (by decide +kernel) (by decide +kernel), by decide +kernel, by decide +kernel⟩
theorem cl_X12_isSlotValue : CL mX12_isSlotValue 1 := ⟨rfl, gw (i := 1387) (by decide +kernel) (by decide +kernel), gw (i := 122) (by decide +kernel) (by decide +kernel), by decide +kernel, by decide +kernel⟩
theorem cl_X12_no : CL mX12_no 1 := ⟨rfl, gw (i := 1395) (by decide +kernel) (by decide +kernel), gw (i := 122) (by decide +kernel) (by decide +kernel), by decide +kernel, by decide +kernel⟩
theorem cl_X12_fits : CL mX12_fits 2 := ⟨rfl, gw (i := 1399) (by decide +kernel) (by decide +kernel), gw (i := 122) (by decide +kernel) (by decide +kernel), by decide +kernel, by decide +kernel⟩
theorem cl_X12_meet : CL mX12_meet 2 := ⟨rfl, gw (i := 1435) (by decide +kernel) (by decide +kernel), gw (i := 122) (by decide +kernel) (by decide +kernel), by decide +kernel, by decide +kernel⟩
theorem cl_X12_wide : CL mX12_wide 1 := ⟨rfl, gw (i := 1458) (by decide +kernel) (by decide +kernel), gw (i := 122) (by decide +kernel) (by decide +kernel), by decide +kernel, by decide +kernel⟩
theorem cl_X12_pendingSlots : CL mX12_pendingSlots 0 := ⟨rfl, gw (i := 1455) (by decide +kernel) (by decide +kernel), gw (i := 122) (by decide +kernel) (by decide +kernel), by decide +kernel, by decide +kernel⟩
theorem cl_X12_discard : CL mX12_discard 0 := ⟨rfl, gw (i := 1470) (by decide +kernel) (by decide +kernel), gw (i := 122) (by decide +kernel) (by decide +kernel), by decide +kernel, by decide +kernel⟩
theorem cl_X12_needed : CL mX12_needed 1 := ⟨rfl, gw (i := 1474) (by decide +kernel) (by decide +kernel), gw (i := 122) (by decide +kernel) (by decide +kernel), by decide +kernel, by decide +kernel⟩
theorem cl_X12_isPaired : CL mX12_isPaired 2 := ⟨rfl, gw (i := 1502) (by decide +kernel) (by decide +kernel), gw (i := 122) (by decide +kernel) (by decide +kernel), by decide +kernel, by decide +kernel⟩
theorem cl_X12_declaredCount : CL mX12_declaredCount 0 := ⟨rfl, gw (i := 1506) (by decide +kernel) (by decide +kernel), gw (i := 122) (by decide +kernel) (by decide +kernel), by decide +kernel, by decide +kernel⟩
theorem cl_X12_adopt : CL mX12_adopt 1 := ⟨rfl, gw (i := 1517) (by decide +kernel) (by decide +kernel), gw (i := 122) (by decide +kernel) (by decide +kernel), by decide +kernel, by decide +kernel⟩
theorem cl_X12_goesOn : CL mX12_goesOn 1 := ⟨rfl, gw (i := 1520) (by decide +kernel) (by decide +kernel), gw (i := 122) (by decide +kernel) (by decide +kernel), by decide +kernel, by decide +kernel⟩
theorem cl_X12_isJump : CL mX12_isJump 1 := ⟨rfl, gw (i := 1513) (by decide +kernel) (by decide +kernel), gw (i := 122) (by decide +kernel) (by decide +kernel), by decide +kernel, by decide +kernel⟩
theorem cl_X12_fail : CL mX12_fail 2 := ⟨rfl, gw (i := 1532) (by decide +kernel) (by decide +kernel), gw (i := 122) (by decide +kernel) (by decide +kernel), by decide +kernel, by decide +kernel⟩
theorem cl_X12_isHandler : CL mX12_isHandler 1 := ⟨rfl, gw (i := 1540) (by decide +kernel) (by decide +kernel), gw (i := 122) (by decide +kernel) (by decide +kernel), by decide +kernel, by decide +kernel⟩
theorem cl_X12_isOperand : CL mX12_isOperand 2 := ⟨rfl, gw (i := 1536) (by decide +kernel) (by decide +kernel), gw (i := 122) (by decide +kernel) (by decide +kernel), by decide +kernel, by decide +kernel⟩
theorem cl_X12_isWell : CL mX12_isWell 0 := ⟨rfl, gw (i := 1544) (by decide +kernel) (by decide +kernel), gw (i := 122) (by decide +kernel) (by decide +kernel), by decide +kernel, by decide +kernel⟩
theorem cl_X12_has : CL mX12_has 1 := ⟨rfl, gw (i := 1607) (by decide +kernel) (by decide +kernel), gw (i := 122) (by decide +kernel) (by decide +kernel), by decide +kernel, by decide +kernel⟩
theorem cl_X12_drop : CL mX12_drop 1 := ⟨rfl, gw (i := 1619) (by decide +kernel) (by decide +kernel), gw (i := 122) (by decide +kernel) (by decide +kernel), by decide +kernel, by decide +kernel⟩
theorem cl_X12_top : CL mX12_top 1 := ⟨rfl, gw (i := 1611) (by decide +kernel) (by decide +kernel), gw (i := 122) (by decide +kernel) (by decide +kernel), by decide +kernel, by decide +kernel⟩
theorem cl_X12_require : CL mX12_require 1 := ⟨rfl, gw (i := 1615) (by decide +kernel) (by decide +kernel), gw (i := 122) (by decide +kernel) (by decide +kernel), by decide +kernel, by decide +kernel⟩
theorem cl_X12_isAnyReference : CL mX12_isAnyReference 1 := ⟨rfl, gw (i := 1599) (by decide +kernel) (by decide +kernel), gw (i := 122) (by decide +kernel) (by decide +kernel), by decide +kernel, by decide +kernel⟩
theorem cl_X12_popLong : CL mX12_popLong 0 := ⟨rfl, gw (i := 1627) (by decide +kernel) (by decide +kernel), gw (i := 122) (by decide +kernel) (by decide +kernel), by decide +kernel, by decide +kernel⟩
theorem cl_X12_popType : CL mX12_popType 1 := ⟨rfl, gw (i := 1667) (by decide +kernel) (by decide +kernel), gw (i := 122) (by decide +kernel) (by decide +kernel), by decide +kernel, by decide +kernel⟩
theorem cl_X12_push : CL mX12_push 1 := ⟨rfl, gw (i := 1587) (by decide +kernel) (by decide +kernel), gw (i := 122) (by decide +kernel) (by decide +kernel), by decide +kernel, by decide +kernel⟩
theorem cl_X12_setLocal : CL mX12_setLocal 2 := ⟨rfl, gw (i := 1623) (by decide +kernel) (by decide +kernel), gw (i := 122) (by decide +kernel) (by decide +kernel), by decide +kernel, by decide +kernel⟩
theorem cl_X12_useArray : CL mX12_useArray 2 := ⟨rfl, gw (i := 1691) (by decide +kernel) (by decide +kernel), gw (i := 122) (by decide +kernel) (by decide +kernel), by decide +kernel, by decide +kernel⟩
theorem cl_X12_useObject : CL mX12_useObject 2 := ⟨rfl, gw (i := 1659) (by decide +kernel) (by decide +kernel), gw (i := 122) (by decide +kernel) (by decide +kernel), by decide +kernel, by decide +kernel⟩
theorem cl_X12_leave : CL mX12_leave 1 := ⟨rfl, gw (i := 1651) (by decide +kernel) (by decide +kernel), gw (i := 122) (by decide +kernel) (by decide +kernel), by decide +kernel, by decide +kernel⟩
theorem cl_X12_compute : CL mX12_compute 2 := ⟨rfl, gw (i := 1647) (by decide +kernel) (by decide +kernel), gw (i := 122) (by decide +kernel) (by decide +kernel), by decide +kernel, by decide +kernel⟩
theorem cl_X12_shuffle : CL mX12_shuffle 1 := ⟨rfl, gw (i := 1639) (by decide +kernel) (by decide +kernel), gw (i := 122) (by decide +kernel) (by decide +kernel), by decide +kernel, by decide +kernel⟩
theorem cl_X12_move : CL mX12_move 2 := ⟨rfl, gw (i := 1583) (by decide +kernel) (by decide +kernel), gw (i := 122) (by decide +kernel) (by decide +kernel), by decide +kernel, by decide +kernel⟩
theorem cl_X12_popInt : CL mX12_popInt 0 := ⟨rfl, gw (i := 1603) (by decide +kernel) (by decide +kernel), gw (i := 122) (by decide +kernel) (by decide +kernel), by decide +kernel, by decide +kernel⟩
theorem cl_X12_pushType : CL mX12_pushType 1 := ⟨rfl, gw (i := 1591) (by decide +kernel) (by decide +kernel), gw (i := 122) (by decide +kernel) (by decide +kernel), by decide +kernel, by decide +kernel⟩
theorem cl_X12_look : CL mX12_look 1 := ⟨rfl, gw (i := 1595) (by decide +kernel) (by decide +kernel), gw (i := 122) (by decide +kernel) (by decide +kernel), by decide +kernel, by decide +kernel⟩
theorem cl_X12_popAnyReference : CL mX12_popAnyReference 0 := ⟨rfl, gw (i := 1635) (by decide +kernel) (by decide +kernel), gw (i := 122) (by decide +kernel) (by decide +kernel), by decide +kernel, by decide +kernel⟩
theorem cl_X12_popReference : CL mX12_popReference 0 := ⟨rfl, gw (i := 1655) (by decide +kernel) (by decide +kernel), gw (i := 122) (by decide +kernel) (by decide +kernel), by decide +kernel, by decide +kernel⟩
theorem cl_X12_storeLong : CL mX12_storeLong 1 := ⟨rfl, gw (i := 1631) (by decide +kernel) (by decide +kernel), gw (i := 122) (by decide +kernel) (by decide +kernel), by decide +kernel, by decide +kernel⟩
theorem cl_X12_popSlot : CL mX12_popSlot 0 := ⟨rfl, gw (i := 1643) (by decide +kernel) (by decide +kernel), gw (i := 122) (by decide +kernel) (by decide +kernel), by decide +kernel, by decide +kernel⟩
theorem cl_X12_popInts : CL mX12_popInts 0 := ⟨rfl, gw (i := 1695) (by decide +kernel) (by decide +kernel), gw (i := 122) (by decide +kernel) (by decide +kernel), by decide +kernel, by decide +kernel⟩
theorem cl_X12_popRow : CL mX12_popRow 0 := ⟨rfl, gw (i := 1699) (by decide +kernel) (by decide +kernel), gw (i := 122) (by decide +kernel) (by decide +kernel), by decide +kernel, by decide +kernel⟩
theorem cl_X12_popObject : CL mX12_popObject 1 := ⟨rfl, gw (i := 1663) (by decide +kernel) (by decide +kernel), gw (i := 122) (by decide +kernel) (by decide +kernel), by decide +kernel, by decide +kernel⟩
theorem cl_X12_create : CL mX12_create 1 := ⟨rfl, gw (i := 1671) (by decide +kernel) (by decide +kernel), gw (i := 122) (by decide +kernel) (by decide +kernel), by decide +kernel, by decide +kernel⟩
theorem cl_X12_construct : CL mX12_construct 1 := ⟨rfl, gw (i := 1675) (by decide +kernel) (by decide +kernel), gw (i := 122) (by decide +kernel) (by decide +kernel), by decide +kernel, by decide +kernel⟩
theorem cl_X12_popArguments : CL mX12_popArguments 1 := ⟨rfl, gw (i := 1679) (by decide +kernel) (by decide +kernel), gw (i := 122) (by decide +kernel) (by decide +kernel), by decide +kernel, by decide +kernel⟩
theorem cl_X12_replace : CL mX12_replace 2 := ⟨rfl, gw (i := 1687) (by decide +kernel) (by decide +kernel), gw (i := 122) (by decide +kernel) (by decide +kernel), by decide +kernel, by decide +kernel⟩
theorem cl_X12_isToConstruct : CL mX12_isToConstruct 2 := ⟨rfl, gw (i := 1683) (by decide +kernel) (by decide +kernel), gw (i := 122) (by decide +kernel) (by decide +kernel), by decide +kernel, by decide +kernel⟩
theorem cl_X12_fitsFrame : CL mX12_fitsFrame 3 := ⟨rfl, gw (i := 1575) (by decide +kernel) (by decide +kernel), gw (i := 122) (by decide +kernel) (by decide +kernel), by decide +kernel, by decide +kernel⟩
theorem cl_X12_merge : CL mX12_merge 2 := ⟨rfl, gw (i := 1556) (by decide +kernel) (by decide +kernel), gw (i := 122) (by decide +kernel) (by decide +kernel), by decide +kernel, by decide +kernel⟩
theorem cl_X12_flow : CL mX12_flow 2 := ⟨rfl, gw (i := 1571) (by decide +kernel) (by decide +kernel), gw (i := 122) (by decide +kernel) (by decide +kernel), by decide +kernel, by decide +kernel⟩
theorem cl_X12_execute : CL mX12_execute 0 := ⟨rfl, gw (i := 1579) (by decide +kernel) (by decide +kernel), gw (i := 122) (by decide +kernel) (by decide +kernel), by decide +kernel, by decide +kernel⟩
theorem cl_X12_examine : CL mX12_examine 0 := ⟨rfl, gw (i := 1528) (by decide +kernel) (by decide +kernel), gw (i := 122) (by decide +kernel) (by decide +kernel), by decide +kernel, by decide +kernel⟩
theorem cl_X12_run : CL mX12_run 0 := ⟨rfl, gw (i := 1548) (by decide +kernel) (by decide +kernel), gw (i := 122) (by decide +kernel) (by decide +kernel), by decide +kernel, by decide +kernel⟩
theorem cl_X12_setFirst : CL mX12_setFirst 0 := ⟨rfl, gw (i := 1552) (by decide +kernel) (by decide +kernel), gw (i := 122) (by decide +kernel) (by decide +kernel), by decide +kernel, by decide +kernel⟩
theorem cl_X12_nextPending : CL mX12_nextPending 0 := ⟨rfl, gw (i := 1563) (by decide +kernel) (by decide +kernel), gw (i := 122) (by decide +kernel) (by decide +kernel), by decide +kernel, by decide +kernel⟩
theorem cl_X12_process : CL mX12_process 1 := ⟨rfl, gw (i := 1567) (by decide +kernel) (by decide +kernel), gw (i := 122) (by decide +kernel) (by decide +kernel), by decide +kernel, by decide +kernel⟩
theorem cl_X12_enter : CL mX12_enter 1 := ⟨rfl, gw (i := 1707) (by decide +kernel) (by decide +kernel), gw (i := 122) (by decide +kernel) (by decide +kernel), by decide +kernel, by decide +kernel⟩
theorem cl_X12_isIndex : CL mX12_isIndex 1 := ⟨rfl, gw (i := 1723) (by decide +kernel) (by decide +kernel), gw (i := 122) (by decide +kernel) (by decide +kernel), by decide +kernel, by decide +kernel⟩
theorem cl_X12_isLooked : CL mX12_isLooked 1 := ⟨rfl, gw (i := 1731) (by decide +kernel) (by decide +kernel), gw (i := 122) (by decide +kernel) (by decide +kernel), by decide +kernel, by decide +kernel⟩
theorem p_X1_30_0 : PL false RX1 30 0 0 (.boolean) := ⟨RX1, TX1, 12, "CodeVerifier$Code", tyX1, rfl, by decide, ig_X1, gw (i := 225) (by decide +kernel) (by decide +kernel), Or.inl rfl, rfl, by decide +kernel, tyX1_ok, nmX1, fun h => by cases h⟩
theorem p_X1_34_0 : PL false RX1 34 0 1 (.int) := ⟨RX1, TX1, 12, "CodeVerifier$Code", tyX1, rfl, by decide, ig_X1, gw (i := 227) (by decide +kernel) (by decide +kernel), Or.inl rfl, rfl, by decide +kernel, tyX1_ok, nmX1, fun h => by cases h⟩
theorem p_X1_38_0 : PL false RX1 38 0 2 (.int) := ⟨RX1, TX1, 12, "CodeVerifier$Code", tyX1, rfl, by decide, ig_X1, gw (i := 231) (by decide +kernel) (by decide +kernel), Or.inl rfl, rfl, by decide +kernel, tyX1_ok, nmX1, fun h => by cases h⟩
theorem p_X1_41_0 : PL false RX1 41 0 3 (.int) := ⟨RX1, TX1, 12, "CodeVerifier$Code", tyX1, rfl, by decide, ig_X1, gw (i := 235) (by decide +kernel) (by decide +kernel), Or.inl rfl, rfl, by decide +kernel, tyX1_ok, nmX1, fun h => by cases h⟩
theorem p_X1_44_0 : PL false RX1 44 0 6 (.int) := ⟨RX1, TX1, 12, "CodeVerifier$Code", tyX1, rfl, by decide, ig_X1, gw (i := 250) (by decide +kernel) (by decide +kernel), Or.inl rfl, rfl, by decide +kernel, tyX1_ok, nmX1, fun h => by cases h⟩
theorem p_X1_47_0 : PL false RX1 47 0 11 (.int) := ⟨RX1, TX1, 12, "CodeVerifier$Code", tyX1, rfl, by decide, ig_X1, gw (i := 264) (by decide +kernel) (by decide +kernel), Or.inl rfl, rfl, by decide +kernel, tyX1_ok, nmX1, fun h => by cases h⟩
theorem f_X1_9_0 : FL RX1 9 0 4 := ⟨RX1, TX1, 12, "CodeVerifier$Code", rfl, by decide, ig_X1, gw (i := 238) (by decide +kernel) (by decide +kernel), Or.inl rfl⟩
theorem f_X1_44_0 : FL RX1 44 0 6 := ⟨RX1, TX1, 12, "CodeVerifier$Code", rfl, by decide, ig_X1, gw (i := 250) (by decide +kernel) (by decide +kernel), Or.inl rfl⟩
theorem f_X1_15_0 : FL RX1 15 0 5 := ⟨RX1, TX1, 12, "CodeVerifier$Code", rfl, by decide, ig_X1, gw (i := 244) (by decide +kernel) (by decide +kernel), Or.inl rfl⟩
theorem f_X1_18_0 : FL RX1 18 0 7 := ⟨RX1, TX1, 12, "CodeVerifier$Code", rfl, by decide, ig_X1, gw (i := 254) (by decide +kernel) (by decide +kernel), Or.inl rfl⟩
theorem f_X1_47_0 : FL RX1 47 0 11 := ⟨RX1, TX1, 12, "CodeVerifier$Code", rfl, by decide, ig_X1, gw (i := 264) (by decide +kernel) (by decide +kernel), Or.inl rfl⟩
theorem f_X1_21_0 : FL RX1 21 0 8 := ⟨RX1, TX1, 12, "CodeVerifier$Code", rfl, by decide, ig_X1, gw (i := 256) (by decide +kernel) (by decide +kernel), Or.inl rfl⟩
theorem f_X1_24_0 : FL RX1 24 0 9 := ⟨RX1, TX1, 12, "CodeVerifier$Code", rfl, by decide, ig_X1, gw (i := 258) (by decide +kernel) (by decide +kernel), Or.inl rfl⟩
theorem f_X1_27_0 : FL RX1 27 0 10 := ⟨RX1, TX1, 12, "CodeVerifier$Code", rfl, by decide, ig_X1, gw (i := 262) (by decide +kernel) (by decide +kernel), Or.inl rfl⟩
theorem v_X1_50 : VL RX1 50 mX1_isIndex 1 := ⟨cl_X1_isIndex, gw (i := 1118) (by decide +kernel) (by decide +kernel), gw (i := 857) (by decide +kernel) (by decide +kernel), gw (i := 858) (by decide +kernel) (by decide +kernel)⟩
theorem p_X2_23_1 : PL false RX2 23 1 3 (.int) := ⟨RX2, TX2, 4, "CodeVerifier$Examination", tyX2, rfl, by decide, ig_X2, gw (i := 377) (by decide +kernel) (by decide +kernel), Or.inl rfl, rfl, by decide +kernel, tyX2_ok, nmX2, fun h => by cases h⟩
theorem f_X2_19_1 : FL RX2 19 1 2 := ⟨RX2, TX2, 4, "CodeVerifier$Examination", rfl, by decide, ig_X2, gw (i := 376) (by decide +kernel) (by decide +kernel), Or.inl rfl⟩
theorem f_X2_27_0 : FL RX2 27 0 6 := ⟨RX1, TX1, 12, "CodeVerifier$Code", rfl, by decide, ig_X1, gw (i := 249) (by decide +kernel) (by decide +kernel), Or.inl rfl⟩
theorem f_X2_43_0 : FL RX2 43 0 11 := ⟨RX1, TX1, 12, "CodeVerifier$Code", rfl, by decide, ig_X1, gw (i := 265) (by decide +kernel) (by decide +kernel), Or.inl rfl⟩
theorem f_X2_15_1 : FL RX2 15 1 1 := ⟨RX2, TX2, 4, "CodeVerifier$Examination", rfl, by decide, ig_X2, gw (i := 375) (by decide +kernel) (by decide +kernel), Or.inl rfl⟩
theorem f_X2_50_0 : FL RX2 50 0 1 := ⟨RX1, TX1, 12, "CodeVerifier$Code", rfl, by decide, ig_X1, gw (i := 228) (by decide +kernel) (by decide +kernel), Or.inl rfl⟩
theorem v_X2_53 : VL RX2 53 mX8_slotsNeeded 1 := ⟨cl_X8_slotsNeeded, gw (i := 963) (by decide +kernel) (by decide +kernel), gw (i := 804) (by decide +kernel) (by decide +kernel), gw (i := 805) (by decide +kernel) (by decide +kernel)⟩
theorem f_X2_59_0 : FL RX2 59 0 3 := ⟨RX1, TX1, 12, "CodeVerifier$Code", rfl, by decide, ig_X1, gw (i := 236) (by decide +kernel) (by decide +kernel), Or.inl rfl⟩
theorem v_X2_46 : VL RX2 46 mX2_isHandlerAllowed 1 := ⟨cl_X2_isHandlerAllowed, gw (i := 959) (by decide +kernel) (by decide +kernel), gw (i := 961) (by decide +kernel) (by decide +kernel), gw (i := 17) (by decide +kernel) (by decide +kernel)⟩
theorem f_X2_32_0 : FL RX2 32 0 4 := ⟨RX1, TX1, 12, "CodeVerifier$Code", rfl, by decide, ig_X1, gw (i := 240) (by decide +kernel) (by decide +kernel), Or.inl rfl⟩
theorem f_X2_36_0 : FL RX2 36 0 5 := ⟨RX1, TX1, 12, "CodeVerifier$Code", rfl, by decide, ig_X1, gw (i := 246) (by decide +kernel) (by decide +kernel), Or.inl rfl⟩
theorem v_X2_39 : VL RX2 39 mX2_isOperandAllowed 2 := ⟨cl_X2_isOperandAllowed, gw (i := 942) (by decide +kernel) (by decide +kernel), gw (i := 944) (by decide +kernel) (by decide +kernel), gw (i := 16) (by decide +kernel) (by decide +kernel)⟩
theorem f_X2_82_0 : FL RX2 82 0 7 := ⟨RX1, TX1, 12, "CodeVerifier$Code", rfl, by decide, ig_X1, gw (i := 255) (by decide +kernel) (by decide +kernel), Or.inl rfl⟩
theorem f_X2_85_0 : FL RX2 85 0 8 := ⟨RX1, TX1, 12, "CodeVerifier$Code", rfl, by decide, ig_X1, gw (i := 257) (by decide +kernel) (by decide +kernel), Or.inl rfl⟩
theorem f_X2_88_0 : FL RX2 88 0 9 := ⟨RX1, TX1, 12, "CodeVerifier$Code", rfl, by decide, ig_X1, gw (i := 259) (by decide +kernel) (by decide +kernel), Or.inl rfl⟩
theorem v_X2_62 : VL RX2 62 mX1_isIndex 1 := ⟨cl_X1_isIndex, gw (i := 946) (by decide +kernel) (by decide +kernel), gw (i := 857) (by decide +kernel) (by decide +kernel), gw (i := 858) (by decide +kernel) (by decide +kernel)⟩
theorem v_X2_65 : VL RX2 65 mX8_isField 1 := ⟨cl_X8_isField, gw (i := 947) (by decide +kernel) (by decide +kernel), gw (i := 948) (by decide +kernel) (by decide +kernel), gw (i := 949) (by decide +kernel) (by decide +kernel)⟩
theorem f_X2_9_1 : FL RX2 9 1 0 := ⟨RX2, TX2, 4, "CodeVerifier$Examination", rfl, by decide, ig_X2, gw (i := 374) (by decide +kernel) (by decide +kernel), Or.inl rfl⟩
theorem v_X2_68 : VL RX2 68 mX10_isClass 1 := ⟨cl_X10_isClass, gw (i := 951) (by decide +kernel) (by decide +kernel), gw (i := 556) (by decide +kernel) (by decide +kernel), gw (i := 557) (by decide +kernel) (by decide +kernel)⟩
theorem v_X2_73 : VL RX2 73 mX8_isMethodOfKind 2 := ⟨cl_X8_isMethodOfKind, gw (i := 952) (by decide +kernel) (by decide +kernel), gw (i := 953) (by decide +kernel) (by decide +kernel), gw (i := 954) (by decide +kernel) (by decide +kernel)⟩
theorem v_X2_76 : VL RX2 76 mX10_isType 1 := ⟨cl_X10_isType, gw (i := 957) (by decide +kernel) (by decide +kernel), gw (i := 656) (by decide +kernel) (by decide +kernel), gw (i := 657) (by decide +kernel) (by decide +kernel)⟩
theorem s_X2_79 : SL RX2 79 mX11_isReferenceType 1 := ⟨cl_X11_isReferenceType, Or.inr ⟨"CodeVerifier", List.mem_filter.mpr ⟨List.mem_of_getElem? (i := 954) (by decide +kernel), rfl⟩⟩, gw (i := 733) (by decide +kernel) (by decide +kernel)⟩
theorem f_X10_19_8 : FL RX10 19 8 2 := ⟨RX10, TX10, 3, "CodeVerifier$Types", rfl, by decide, ig_X10, gw (i := 150) (by decide +kernel) (by decide +kernel), Or.inl rfl⟩
theorem f_X10_15_8 : FL RX10 15 8 1 := ⟨RX10, TX10, 3, "CodeVerifier$Types", rfl, by decide, ig_X10, gw (i := 149) (by decide +kernel) (by decide +kernel), Or.inl rfl⟩
theorem f_X8_39_7 : FL RX8 39 7 2 := ⟨RX8, TX8, 13, "CodeVerifier$Members", rfl, by decide, ig_X8, gw (i := 171) (by decide +kernel) (by decide +kernel), Or.inl rfl⟩
theorem v_X8_46 : VL RX8 46 mX8_isMethod 1 := ⟨cl_X8_isMethod, gw (i := 956) (by decide +kernel) (by decide +kernel), gw (i := 775) (by decide +kernel) (by decide +kernel), gw (i := 776) (by decide +kernel) (by decide +kernel)⟩
theorem f_X8_21_7 : FL RX8 21 7 4 := ⟨RX8, TX8, 13, "CodeVerifier$Members", rfl, by decide, ig_X8, gw (i := 177) (by decide +kernel) (by decide +kernel), Or.inl rfl⟩
theorem f_X8_43_7 : FL RX8 43 7 9 := ⟨RX8, TX8, 13, "CodeVerifier$Members", rfl, by decide, ig_X8, gw (i := 186) (by decide +kernel) (by decide +kernel), Or.inl rfl⟩
theorem f_X8_30_7 : FL RX8 30 7 7 := ⟨RX8, TX8, 13, "CodeVerifier$Members", rfl, by decide, ig_X8, gw (i := 184) (by decide +kernel) (by decide +kernel), Or.inl rfl⟩
theorem p_X3_18_2 : PL false RX3 18 2 2 (.int) := ⟨RX3, TX3, 4, "CodeVerifier$Frame", tyX3, rfl, by decide, ig_X3, gw (i := 310) (by decide +kernel) (by decide +kernel), Or.inl rfl, rfl, by decide +kernel, tyX3_ok, nmX3, fun h => by cases h⟩
theorem p_X3_22_2 : PL false RX3 22 2 3 (.boolean) := ⟨RX3, TX3, 4, "CodeVerifier$Frame", tyX3, rfl, by decide, ig_X3, gw (i := 315) (by decide +kernel) (by decide +kernel), Or.inl rfl, rfl, by decide +kernel, tyX3_ok, nmX3, fun h => by cases h⟩
theorem f_X3_9_2 : FL RX3 9 2 0 := ⟨RX3, TX3, 4, "CodeVerifier$Frame", rfl, by decide, ig_X3, gw (i := 299) (by decide +kernel) (by decide +kernel), Or.inl rfl⟩
theorem a_X3_26 : AL RX3 26 := ⟨gw (i := 880) (by decide +kernel) (by decide +kernel), gw (i := 709) (by decide +kernel) (by decide +kernel), gw (i := 708) (by decide +kernel) (by decide +kernel), gw (i := 128) (by decide +kernel) (by decide +kernel)⟩
theorem f_X3_15_2 : FL RX3 15 2 1 := ⟨RX3, TX3, 4, "CodeVerifier$Frame", rfl, by decide, ig_X3, gw (i := 305) (by decide +kernel) (by decide +kernel), Or.inl rfl⟩
theorem f_X3_18_2 : FL RX3 18 2 2 := ⟨RX3, TX3, 4, "CodeVerifier$Frame", rfl, by decide, ig_X3, gw (i := 310) (by decide +kernel) (by decide +kernel), Or.inl rfl⟩
theorem f_X3_22_2 : FL RX3 22 2 3 := ⟨RX3, TX3, 4, "CodeVerifier$Frame", rfl, by decide, ig_X3, gw (i := 315) (by decide +kernel) (by decide +kernel), Or.inl rfl⟩
theorem v_X3_32 : VL RX3 32 mX3_copyFrom 1 := ⟨cl_X3_copyFrom, gw (i := 1002) (by decide +kernel) (by decide +kernel), gw (i := 877) (by decide +kernel) (by decide +kernel), gw (i := 878) (by decide +kernel) (by decide +kernel)⟩
theorem s_X3_36 : SL RX3 36 mX3_arePaired 2 := ⟨cl_X3_arePaired, Or.inl (gw (i := 868) (by decide +kernel) (by decide +kernel)), gw (i := 869) (by decide +kernel) (by decide +kernel)⟩
theorem p_X4_22_3 : PL false RX4 22 3 2 (.int) := ⟨RX4, TX4, 3, "CodeVerifier$FrameTable", tyX4, rfl, by decide, ig_X4, gw (i := 348) (by decide +kernel) (by decide +kernel), Or.inl rfl, rfl, by decide +kernel, tyX4_ok, nmX4, fun h => by cases h⟩
theorem f_X4_17_3 : FL RX4 17 3 1 := ⟨RX4, TX4, 3, "CodeVerifier$FrameTable", rfl, by decide, ig_X4, gw (i := 347) (by decide +kernel) (by decide +kernel), Or.inl rfl⟩
theorem f_X4_11_3 : FL RX4 11 3 0 := ⟨RX4, TX4, 3, "CodeVerifier$FrameTable", rfl, by decide, ig_X4, gw (i := 343) (by decide +kernel) (by decide +kernel), Or.inl rfl⟩
theorem v_X4_26 : VL RX4 26 mX3_copyFrom 1 := ⟨cl_X3_copyFrom, gw (i := 876) (by decide +kernel) (by decide +kernel), gw (i := 877) (by decide +kernel) (by decide +kernel), gw (i := 878) (by decide +kernel) (by decide +kernel)⟩
theorem f_X4_22_3 : FL RX4 22 3 2 := ⟨RX4, TX4, 3, "CodeVerifier$FrameTable", rfl, by decide, ig_X4, gw (i := 348) (by decide +kernel) (by decide +kernel), Or.inl rfl⟩
theorem f_X5_15_4 : FL RX5 15 4 9 := ⟨RX5, TX5, 11, "CodeVerifier$Inference", rfl, by decide, ig_X5, gw (i := 412) (by decide +kernel) (by decide +kernel), Or.inl rfl⟩
theorem v_X5_19 : VL RX5 19 mX4_clear 0 := ⟨cl_X4_clear, gw (i := 931) (by decide +kernel) (by decide +kernel), gw (i := 800) (by decide +kernel) (by decide +kernel), gw (i := 801) (by decide +kernel) (by decide +kernel)⟩
theorem u_X5_25_4 : UL RX5 25 RX5 "CodeVerifier$Analysis" ⟨"CodeVerifier$Inference", "examine", "()I"⟩ mX0_examine 0 := ⟨cl_X0_examine, gw (i := 932) (by decide +kernel) (by decide +kernel), gw (i := 933) (by decide +kernel) (by decide +kernel), Or.inl rfl, gw (i := 935) (by decide +kernel) (by decide +kernel), gw (i := 936) (by decide +kernel) (by decide +kernel), by decide +kernel, rfl⟩
theorem c1_X5_32 : Cond.constant RX5 32 1000000 ∈ GW := gw (i := 981) (by decide +kernel) (by decide +kernel)
theorem v_X5_33 : VL RX5 33 mX5_takePending 0 := ⟨cl_X5_takePending, gw (i := 982) (by decide +kernel) (by decide +kernel), gw (i := 984) (by decide +kernel) (by decide +kernel), gw (i := 19) (by decide +kernel) (by decide +kernel)⟩
theorem f_X5_36_4 : FL RX5 36 4 2 := ⟨RX5, TX5, 11, "CodeVerifier$Inference", rfl, by decide, ig_X5, gw (i := 427) (by decide +kernel) (by decide +kernel), Or.inr (gw (i := 428) (by decide +kernel) (by decide +kernel))⟩
theorem f_X5_40_3 : FL RX5 40 3 0 := ⟨RX4, TX4, 3, "CodeVerifier$FrameTable", rfl, by decide, ig_X4, gw (i := 344) (by decide +kernel) (by decide +kernel), Or.inl rfl⟩
theorem v_X5_44 : VL RX5 44 mX3_copyFrom 1 := ⟨cl_X3_copyFrom, gw (i := 986) (by decide +kernel) (by decide +kernel), gw (i := 877) (by decide +kernel) (by decide +kernel), gw (i := 878) (by decide +kernel) (by decide +kernel)⟩
theorem u_X5_50_4 : UL RX5 50 RX5 "CodeVerifier$Analysis" ⟨"CodeVerifier$Inference", "process", "(I)I"⟩ mX0_process 1 := ⟨cl_X0_process, gw (i := 987) (by decide +kernel) (by decide +kernel), gw (i := 988) (by decide +kernel) (by decide +kernel), Or.inl rfl, gw (i := 990) (by decide +kernel) (by decide +kernel), gw (i := 991) (by decide +kernel) (by decide +kernel), by decide +kernel, rfl⟩
theorem v_X5_29 : VL RX5 29 mX5_setFirstFrame 0 := ⟨cl_X5_setFirstFrame, gw (i := 964) (by decide +kernel) (by decide +kernel), gw (i := 966) (by decide +kernel) (by decide +kernel), gw (i := 18) (by decide +kernel) (by decide +kernel)⟩
theorem f_X0_38_4 : FL RX0 38 4 6 := ⟨RX5, TX5, 11, "CodeVerifier$Analysis", rfl, by decide, ig_X5, gw (i := 441) (by decide +kernel) (by decide +kernel), Or.inl rfl⟩
theorem v_X0_56 : VL RX0 56 mX2_run 0 := ⟨cl_X2_run, gw (i := 938) (by decide +kernel) (by decide +kernel), gw (i := 939) (by decide +kernel) (by decide +kernel), gw (i := 940) (by decide +kernel) (by decide +kernel)⟩
theorem f_X0_60_1 : FL RX0 60 1 3 := ⟨RX2, TX2, 4, "CodeVerifier$Examination", rfl, by decide, ig_X2, gw (i := 378) (by decide +kernel) (by decide +kernel), Or.inl rfl⟩
theorem p_X0_49_4 : PL false RX0 49 4 3 (.int) := ⟨RX5, TX5, 11, "CodeVerifier$Analysis", tyX5, rfl, by decide, ig_X5, gw (i := 429) (by decide +kernel) (by decide +kernel), Or.inl rfl, rfl, by decide +kernel, tyX5_ok, nmX5, fun h => by cases h⟩
theorem p_X0_53_4 : PL false RX0 53 4 4 (.int) := ⟨RX5, TX5, 11, "CodeVerifier$Analysis", tyX5, rfl, by decide, ig_X5, gw (i := 435) (by decide +kernel) (by decide +kernel), Or.inl rfl, rfl, by decide +kernel, tyX5_ok, nmX5, fun h => by cases h⟩
theorem f_X0_53_4 : FL RX0 53 4 4 := ⟨RX5, TX5, 11, "CodeVerifier$Analysis", rfl, by decide, ig_X5, gw (i := 435) (by decide +kernel) (by decide +kernel), Or.inl rfl⟩
theorem u_X0_96_4 : UL RX0 96 RX5 "CodeVerifier$Analysis" ⟨"CodeVerifier$Analysis", "flowToHandlers", "(I)I"⟩ mX0_flowToHandlers 1 := ⟨cl_X0_flowToHandlers, gw (i := 993) (by decide +kernel) (by decide +kernel), gw (i := 1752) (by decide +kernel) (by decide +kernel), Or.inl rfl, gw (i := 0) (by decide +kernel) (by decide +kernel), gw (i := 995) (by decide +kernel) (by decide +kernel), by decide +kernel, rfl⟩
theorem u_X0_103_4 : UL RX0 103 RX5 "CodeVerifier$Analysis" ⟨"CodeVerifier$Analysis", "flowToSuccessors", "(I)I"⟩ mX0_flowToSuccessors 1 := ⟨cl_X0_flowToSuccessors, gw (i := 1142) (by decide +kernel) (by decide +kernel), gw (i := 1753) (by decide +kernel) (by decide +kernel), Or.inl rfl, gw (i := 1) (by decide +kernel) (by decide +kernel), gw (i := 1144) (by decide +kernel) (by decide +kernel), by decide +kernel, rfl⟩
theorem f_X0_45_4 : FL RX0 45 4 7 := ⟨RX5, TX5, 11, "CodeVerifier$Analysis", rfl, by decide, ig_X5, gw (i := 442) (by decide +kernel) (by decide +kernel), Or.inl rfl⟩
theorem f_X0_12_4 : FL RX0 12 4 2 := ⟨RX5, TX5, 11, "CodeVerifier$Analysis", rfl, by decide, ig_X5, gw (i := 424) (by decide +kernel) (by decide +kernel), Or.inl rfl⟩
theorem v_X0_99 : VL RX0 99 mX7_execute 2 := ⟨cl_X7_execute, gw (i := 1020) (by decide +kernel) (by decide +kernel), gw (i := 1021) (by decide +kernel) (by decide +kernel), gw (i := 1022) (by decide +kernel) (by decide +kernel)⟩
theorem f_X0_29_4 : FL RX0 29 4 0 := ⟨RX5, TX5, 11, "CodeVerifier$Analysis", rfl, by decide, ig_X5, gw (i := 414) (by decide +kernel) (by decide +kernel), Or.inl rfl⟩
theorem f_X0_106_0 : FL RX0 106 0 11 := ⟨RX1, TX1, 12, "CodeVerifier$Code", rfl, by decide, ig_X1, gw (i := 266) (by decide +kernel) (by decide +kernel), Or.inl rfl⟩
theorem v_X0_109 : VL RX0 109 mX1_protects 2 := ⟨cl_X1_protects, gw (i := 997) (by decide +kernel) (by decide +kernel), gw (i := 905) (by decide +kernel) (by decide +kernel), gw (i := 906) (by decide +kernel) (by decide +kernel)⟩
theorem f_X0_113_0 : FL RX0 113 0 2 := ⟨RX1, TX1, 12, "CodeVerifier$Code", rfl, by decide, ig_X1, gw (i := 232) (by decide +kernel) (by decide +kernel), Or.inl rfl⟩
theorem f_X0_18_4 : FL RX0 18 4 8 := ⟨RX5, TX5, 11, "CodeVerifier$Analysis", rfl, by decide, ig_X5, gw (i := 443) (by decide +kernel) (by decide +kernel), Or.inl rfl⟩
theorem f_X0_116_0 : FL RX0 116 0 10 := ⟨RX1, TX1, 12, "CodeVerifier$Code", rfl, by decide, ig_X1, gw (i := 263) (by decide +kernel) (by decide +kernel), Or.inl rfl⟩
theorem v_X0_119 : VL RX0 119 mX3_copyCaught 2 := ⟨cl_X3_copyCaught, gw (i := 998) (by decide +kernel) (by decide +kernel), gw (i := 999) (by decide +kernel) (by decide +kernel), gw (i := 1000) (by decide +kernel) (by decide +kernel)⟩
theorem f_X0_123_0 : FL RX0 123 0 9 := ⟨RX1, TX1, 12, "CodeVerifier$Code", rfl, by decide, ig_X1, gw (i := 260) (by decide +kernel) (by decide +kernel), Or.inl rfl⟩
theorem u_X0_126_4 : UL RX0 126 RX5 "CodeVerifier$Analysis" ⟨"CodeVerifier$Analysis", "flow", "(ILCodeVerifier$Frame;Z)I"⟩ mX5_flow 3 := ⟨cl_X5_flow, gw (i := 1003) (by decide +kernel) (by decide +kernel), gw (i := 1005) (by decide +kernel) (by decide +kernel), Or.inr (List.mem_filter.mpr ⟨List.mem_of_getElem? (i := 1000) (by decide +kernel), rfl⟩), gw (i := 1006) (by decide +kernel) (by decide +kernel), gw (i := 1007) (by decide +kernel) (by decide +kernel), by decide +kernel, rfl⟩
theorem v_X5_71 : VL RX5 71 mX4_contains 1 := ⟨cl_X4_contains, gw (i := 1009) (by decide +kernel) (by decide +kernel), gw (i := 539) (by decide +kernel) (by decide +kernel), gw (i := 540) (by decide +kernel) (by decide +kernel)⟩
theorem f_X5_75_2 : FL RX5 75 2 2 := ⟨RX3, TX3, 4, "CodeVerifier$Frame", rfl, by decide, ig_X3, gw (i := 311) (by decide +kernel) (by decide +kernel), Or.inl rfl⟩
theorem f_X5_78_2 : FL RX5 78 2 3 := ⟨RX3, TX3, 4, "CodeVerifier$Frame", rfl, by decide, ig_X3, gw (i := 317) (by decide +kernel) (by decide +kernel), Or.inl rfl⟩
theorem p_X5_78_2 : PL false RX5 78 2 3 (.boolean) := ⟨RX3, TX3, 4, "CodeVerifier$Frame", tyX3, rfl, by decide, ig_X3, gw (i := 317) (by decide +kernel) (by decide +kernel), Or.inl rfl, rfl, by decide +kernel, tyX3_ok, nmX3, fun h => by cases h⟩
theorem f_X5_9_4 : FL RX5 9 4 10 := ⟨RX5, TX5, 11, "CodeVerifier$Inference", rfl, by decide, ig_X5, gw (i := 413) (by decide +kernel) (by decide +kernel), Or.inl rfl⟩
theorem f_X5_82_4 : FL RX5 82 4 1 := ⟨RX5, TX5, 11, "CodeVerifier$Inference", rfl, by decide, ig_X5, gw (i := 422) (by decide +kernel) (by decide +kernel), Or.inr (gw (i := 423) (by decide +kernel) (by decide +kernel))⟩
theorem f_X5_96_2 : FL RX5 96 2 0 := ⟨RX3, TX3, 4, "CodeVerifier$Frame", rfl, by decide, ig_X3, gw (i := 302) (by decide +kernel) (by decide +kernel), Or.inl rfl⟩
theorem v_X5_90 : VL RX5 90 mX10_commonSlot 2 := ⟨cl_X10_commonSlot, gw (i := 1010) (by decide +kernel) (by decide +kernel), gw (i := 754) (by decide +kernel) (by decide +kernel), gw (i := 755) (by decide +kernel) (by decide +kernel)⟩
theorem f_X5_86_2 : FL RX5 86 2 1 := ⟨RX3, TX3, 4, "CodeVerifier$Frame", rfl, by decide, ig_X3, gw (i := 306) (by decide +kernel) (by decide +kernel), Or.inl rfl⟩
theorem v_X5_57 : VL RX5 57 mX4_put 2 := ⟨cl_X4_put, gw (i := 980) (by decide +kernel) (by decide +kernel), gw (i := 873) (by decide +kernel) (by decide +kernel), gw (i := 874) (by decide +kernel) (by decide +kernel)⟩
theorem s_X10_47 : SL RX10 47 mX11_isReference 1 := ⟨cl_X11_isReference, Or.inr ⟨"CodeVerifier", List.mem_filter.mpr ⟨List.mem_of_getElem? (i := 753) (by decide +kernel), rfl⟩⟩, gw (i := 758) (by decide +kernel) (by decide +kernel)⟩
theorem s_X10_30 : SL RX10 30 mX10_referenceLevels 1 := ⟨cl_X10_referenceLevels, Or.inl (gw (i := 735) (by decide +kernel) (by decide +kernel)), gw (i := 736) (by decide +kernel) (by decide +kernel)⟩
theorem h_X10_34 : MLk RX10 34 Lib.Math.min.name Lib.Math.min.code := ⟨gw (i := 738) (by decide +kernel) (by decide +kernel), gw (i := 739) (by decide +kernel) (by decide +kernel), gw (i := 129) (by decide +kernel) (by decide +kernel), gw (i := 740) (by decide +kernel) (by decide +kernel)⟩
theorem v_X10_50 : VL RX10 50 mX10_commonClass 2 := ⟨cl_X10_commonClass, gw (i := 761) (by decide +kernel) (by decide +kernel), gw (i := 763) (by decide +kernel) (by decide +kernel), gw (i := 9) (by decide +kernel) (by decide +kernel)⟩
theorem v_X10_53 : VL RX10 53 mX10_isClass 1 := ⟨cl_X10_isClass, gw (i := 765) (by decide +kernel) (by decide +kernel), gw (i := 556) (by decide +kernel) (by decide +kernel), gw (i := 557) (by decide +kernel) (by decide +kernel)⟩
theorem v_X10_43 : VL RX10 43 mX10_inherits 2 := ⟨cl_X10_inherits, gw (i := 742) (by decide +kernel) (by decide +kernel), gw (i := 744) (by decide +kernel) (by decide +kernel), gw (i := 8) (by decide +kernel) (by decide +kernel)⟩
theorem f_X10_9_8 : FL RX10 9 8 0 := ⟨RX10, TX10, 3, "CodeVerifier$Types", rfl, by decide, ig_X10, gw (i := 147) (by decide +kernel) (by decide +kernel), Or.inl rfl⟩
theorem s_X11_330 : SL RX11 330 mX11_isReferenceType 1 := ⟨cl_X11_isReferenceType, Or.inl (gw (i := 760) (by decide +kernel) (by decide +kernel)), gw (i := 733) (by decide +kernel) (by decide +kernel)⟩
theorem f_X0_130_0 : FL RX0 130 0 4 := ⟨RX1, TX1, 12, "CodeVerifier$Code", rfl, by decide, ig_X1, gw (i := 242) (by decide +kernel) (by decide +kernel), Or.inl rfl⟩
theorem s_X0_133 : SL RX0 133 mX9_fallsThrough 1 := ⟨cl_X9_fallsThrough, Or.inl (gw (i := 1146) (by decide +kernel) (by decide +kernel)), gw (i := 913) (by decide +kernel) (by decide +kernel)⟩
theorem s_X0_142 : SL RX0 142 mX9_jumps 1 := ⟨cl_X9_jumps, Or.inl (gw (i := 1148) (by decide +kernel) (by decide +kernel)), gw (i := 894) (by decide +kernel) (by decide +kernel)⟩
theorem f_X0_145_0 : FL RX0 145 0 5 := ⟨RX1, TX1, 12, "CodeVerifier$Code", rfl, by decide, ig_X1, gw (i := 247) (by decide +kernel) (by decide +kernel), Or.inl rfl⟩
theorem v_X0_139 : VL RX0 139 mX1_isIndex 1 := ⟨cl_X1_isIndex, gw (i := 1147) (by decide +kernel) (by decide +kernel), gw (i := 857) (by decide +kernel) (by decide +kernel), gw (i := 858) (by decide +kernel) (by decide +kernel)⟩
theorem p_X7_26_6 : PL false RX7 26 6 3 (.object "CodeVerifier$Frame") := ⟨RX7, TX7, 5, "CodeVerifier$Machine", tyX7, rfl, by decide, ig_X7, gw (i := 399) (by decide +kernel) (by decide +kernel), Or.inl rfl, rfl, by decide +kernel, tyX7_ok, nmX7, fun h => by cases h⟩
theorem p_X7_30_6 : PL false RX7 30 6 4 (.int) := ⟨RX7, TX7, 5, "CodeVerifier$Machine", tyX7, rfl, by decide, ig_X7, gw (i := 400) (by decide +kernel) (by decide +kernel), Or.inl rfl, rfl, by decide +kernel, tyX7_ok, nmX7, fun h => by cases h⟩
theorem f_X7_19_6 : FL RX7 19 6 2 := ⟨RX7, TX7, 5, "CodeVerifier$Machine", rfl, by decide, ig_X7, gw (i := 398) (by decide +kernel) (by decide +kernel), Or.inl rfl⟩
theorem f_X7_34_0 : FL RX7 34 0 4 := ⟨RX1, TX1, 12, "CodeVerifier$Code", rfl, by decide, ig_X1, gw (i := 239) (by decide +kernel) (by decide +kernel), Or.inl rfl⟩
theorem f_X7_40_0 : FL RX7 40 0 5 := ⟨RX1, TX1, 12, "CodeVerifier$Code", rfl, by decide, ig_X1, gw (i := 245) (by decide +kernel) (by decide +kernel), Or.inl rfl⟩
theorem v_X7_45 : VL RX7 45 mX7_executeLocal 2 := ⟨cl_X7_executeLocal, gw (i := 1024) (by decide +kernel) (by decide +kernel), gw (i := 1026) (by decide +kernel) (by decide +kernel), gw (i := 20) (by decide +kernel) (by decide +kernel)⟩
theorem f_X7_30_6 : FL RX7 30 6 4 := ⟨RX7, TX7, 5, "CodeVerifier$Machine", rfl, by decide, ig_X7, gw (i := 400) (by decide +kernel) (by decide +kernel), Or.inl rfl⟩
theorem v_X7_68 : VL RX7 68 mX7_executeObject 2 := ⟨cl_X7_executeObject, gw (i := 1134) (by decide +kernel) (by decide +kernel), gw (i := 1136) (by decide +kernel) (by decide +kernel), gw (i := 40) (by decide +kernel) (by decide +kernel)⟩
theorem v_X7_65 : VL RX7 65 mX7_executeArray 2 := ⟨cl_X7_executeArray, gw (i := 1123) (by decide +kernel) (by decide +kernel), gw (i := 1125) (by decide +kernel) (by decide +kernel), gw (i := 38) (by decide +kernel) (by decide +kernel)⟩
theorem v_X7_62 : VL RX7 62 mX7_call 2 := ⟨cl_X7_call, gw (i := 1105) (by decide +kernel) (by decide +kernel), gw (i := 1107) (by decide +kernel) (by decide +kernel), gw (i := 36) (by decide +kernel) (by decide +kernel)⟩
theorem v_X7_59 : VL RX7 59 mX7_create 1 := ⟨cl_X7_create, gw (i := 1093) (by decide +kernel) (by decide +kernel), gw (i := 1095) (by decide +kernel) (by decide +kernel), gw (i := 35) (by decide +kernel) (by decide +kernel)⟩
theorem v_X7_56 : VL RX7 56 mX7_executeEnd 1 := ⟨cl_X7_executeEnd, gw (i := 1084) (by decide +kernel) (by decide +kernel), gw (i := 1086) (by decide +kernel) (by decide +kernel), gw (i := 33) (by decide +kernel) (by decide +kernel)⟩
theorem v_X7_53 : VL RX7 53 mX7_executeNumber 1 := ⟨cl_X7_executeNumber, gw (i := 1080) (by decide +kernel) (by decide +kernel), gw (i := 1082) (by decide +kernel) (by decide +kernel), gw (i := 32) (by decide +kernel) (by decide +kernel)⟩
theorem v_X7_49 : VL RX7 49 mX7_executeMove 1 := ⟨cl_X7_executeMove, gw (i := 1065) (by decide +kernel) (by decide +kernel), gw (i := 1067) (by decide +kernel) (by decide +kernel), gw (i := 29) (by decide +kernel) (by decide +kernel)⟩
theorem f_X7_15_6 : FL RX7 15 6 1 := ⟨RX7, TX7, 5, "CodeVerifier$Machine", rfl, by decide, ig_X7, gw (i := 397) (by decide +kernel) (by decide +kernel), Or.inl rfl⟩
theorem f_X7_155_7 : FL RX7 155 7 6 := ⟨RX8, TX8, 13, "CodeVerifier$Members", rfl, by decide, ig_X8, gw (i := 183) (by decide +kernel) (by decide +kernel), Or.inl rfl⟩
theorem f_X7_110_7 : FL RX7 110 7 5 := ⟨RX8, TX8, 13, "CodeVerifier$Members", rfl, by decide, ig_X8, gw (i := 180) (by decide +kernel) (by decide +kernel), Or.inl rfl⟩
theorem v_X7_74 : VL RX7 74 mX7_pushOfType 1 := ⟨cl_X7_pushOfType, gw (i := 1036) (by decide +kernel) (by decide +kernel), gw (i := 1038) (by decide +kernel) (by decide +kernel), gw (i := 23) (by decide +kernel) (by decide +kernel)⟩
theorem f_X7_162_7 : FL RX7 162 7 3 := ⟨RX8, TX8, 13, "CodeVerifier$Members", rfl, by decide, ig_X8, gw (i := 176) (by decide +kernel) (by decide +kernel), Or.inl rfl⟩
theorem v_X7_88 : VL RX7 88 mX7_popOfType 1 := ⟨cl_X7_popOfType, gw (i := 1044) (by decide +kernel) (by decide +kernel), gw (i := 1046) (by decide +kernel) (by decide +kernel), gw (i := 24) (by decide +kernel) (by decide +kernel)⟩
theorem v_X7_165 : VL RX7 165 mX7_initialize 1 := ⟨cl_X7_initialize, gw (i := 1110) (by decide +kernel) (by decide +kernel), gw (i := 1112) (by decide +kernel) (by decide +kernel), gw (i := 37) (by decide +kernel) (by decide +kernel)⟩
theorem v_X7_158 : VL RX7 158 mX8_parameterType 2 := ⟨cl_X8_parameterType, gw (i := 1109) (by decide +kernel) (by decide +kernel), gw (i := 976) (by decide +kernel) (by decide +kernel), gw (i := 977) (by decide +kernel) (by decide +kernel)⟩
theorem f_X7_115_0 : FL RX7 115 0 1 := ⟨RX1, TX1, 12, "CodeVerifier$Code", rfl, by decide, ig_X1, gw (i := 230) (by decide +kernel) (by decide +kernel), Or.inl rfl⟩
theorem v_X7_104 : VL RX7 104 mX7_popSlot 0 := ⟨cl_X7_popSlot, gw (i := 1048) (by decide +kernel) (by decide +kernel), gw (i := 1050) (by decide +kernel) (by decide +kernel), gw (i := 25) (by decide +kernel) (by decide +kernel)⟩
theorem v_X7_80 : VL RX7 80 mX7_require 2 := ⟨cl_X7_require, gw (i := 1032) (by decide +kernel) (by decide +kernel), gw (i := 1034) (by decide +kernel) (by decide +kernel), gw (i := 22) (by decide +kernel) (by decide +kernel)⟩
theorem f_X7_26_6 : FL RX7 26 6 3 := ⟨RX7, TX7, 5, "CodeVerifier$Machine", rfl, by decide, ig_X7, gw (i := 399) (by decide +kernel) (by decide +kernel), Or.inl rfl⟩
theorem v_X7_152 : VL RX7 152 mX3_replaceLocals 2 := ⟨cl_X3_replaceLocals, gw (i := 1101) (by decide +kernel) (by decide +kernel), gw (i := 1102) (by decide +kernel) (by decide +kernel), gw (i := 1103) (by decide +kernel) (by decide +kernel)⟩
theorem v_X7_174 : VL RX7 174 mX3_replaceStack 2 := ⟨cl_X3_replaceStack, gw (i := 1119) (by decide +kernel) (by decide +kernel), gw (i := 1120) (by decide +kernel) (by decide +kernel), gw (i := 1121) (by decide +kernel) (by decide +kernel)⟩
theorem f_X7_130_2 : FL RX7 130 2 3 := ⟨RX3, TX3, 4, "CodeVerifier$Frame", rfl, by decide, ig_X3, gw (i := 318) (by decide +kernel) (by decide +kernel), Or.inl rfl⟩
theorem p_X7_130_2 : PL false RX7 130 2 3 (.boolean) := ⟨RX3, TX3, 4, "CodeVerifier$Frame", tyX3, rfl, by decide, ig_X3, gw (i := 318) (by decide +kernel) (by decide +kernel), Or.inl rfl, rfl, by decide +kernel, tyX3_ok, nmX3, fun h => by cases h⟩
theorem v_X7_171 : VL RX7 171 mX1_creates 2 := ⟨cl_X1_creates, gw (i := 1114) (by decide +kernel) (by decide +kernel), gw (i := 1115) (by decide +kernel) (by decide +kernel), gw (i := 1116) (by decide +kernel) (by decide +kernel)⟩
theorem f_X7_9_6 : FL RX7 9 6 0 := ⟨RX7, TX7, 5, "CodeVerifier$Machine", rfl, by decide, ig_X7, gw (i := 396) (by decide +kernel) (by decide +kernel), Or.inl rfl⟩
theorem f_X7_168_8 : FL RX7 168 8 0 := ⟨RX10, TX10, 3, "CodeVerifier$Types", rfl, by decide, ig_X10, gw (i := 148) (by decide +kernel) (by decide +kernel), Or.inl rfl⟩
theorem f_X7_180_2 : FL RX7 180 2 2 := ⟨RX3, TX3, 4, "CodeVerifier$Frame", rfl, by decide, ig_X3, gw (i := 314) (by decide +kernel) (by decide +kernel), Or.inl rfl⟩
theorem p_X7_180_2 : PL false RX7 180 2 2 (.int) := ⟨RX3, TX3, 4, "CodeVerifier$Frame", tyX3, rfl, by decide, ig_X3, gw (i := 314) (by decide +kernel) (by decide +kernel), Or.inl rfl, rfl, by decide +kernel, tyX3_ok, nmX3, fun h => by cases h⟩
theorem f_X7_183_2 : FL RX7 183 2 1 := ⟨RX3, TX3, 4, "CodeVerifier$Frame", rfl, by decide, ig_X3, gw (i := 309) (by decide +kernel) (by decide +kernel), Or.inl rfl⟩
theorem v_X7_124 : VL RX7 124 mX10_fits 2 := ⟨cl_X10_fits, gw (i := 1052) (by decide +kernel) (by decide +kernel), gw (i := 729) (by decide +kernel) (by decide +kernel), gw (i := 730) (by decide +kernel) (by decide +kernel)⟩
theorem s_X10_27 : SL RX10 27 mX11_isReferenceType 1 := ⟨cl_X11_isReferenceType, Or.inr ⟨"CodeVerifier", List.mem_filter.mpr ⟨List.mem_of_getElem? (i := 728) (by decide +kernel), rfl⟩⟩, gw (i := 733) (by decide +kernel) (by decide +kernel)⟩
theorem v_X10_40 : VL RX10 40 mX10_isInterface 1 := ⟨cl_X10_isInterface, gw (i := 741) (by decide +kernel) (by decide +kernel), gw (i := 694) (by decide +kernel) (by decide +kernel), gw (i := 695) (by decide +kernel) (by decide +kernel)⟩
theorem v_X7_71 : VL RX7 71 mX7_push 1 := ⟨cl_X7_push, gw (i := 1028) (by decide +kernel) (by decide +kernel), gw (i := 1030) (by decide +kernel) (by decide +kernel), gw (i := 21) (by decide +kernel) (by decide +kernel)⟩
theorem f_X7_186_0 : FL RX7 186 0 2 := ⟨RX1, TX1, 12, "CodeVerifier$Code", rfl, by decide, ig_X1, gw (i := 234) (by decide +kernel) (by decide +kernel), Or.inl rfl⟩
theorem f_X8_33_7 : FL RX8 33 7 8 := ⟨RX8, TX8, 13, "CodeVerifier$Members", rfl, by decide, ig_X8, gw (i := 185) (by decide +kernel) (by decide +kernel), Or.inl rfl⟩
theorem v_X7_149 : VL RX7 149 mX3_hasOnStack 1 := ⟨cl_X3_hasOnStack, gw (i := 1097) (by decide +kernel) (by decide +kernel), gw (i := 1098) (by decide +kernel) (by decide +kernel), gw (i := 1099) (by decide +kernel) (by decide +kernel)⟩
theorem v_X7_143 : VL RX7 143 mX7_popReferenceArray 0 := ⟨cl_X7_popReferenceArray, gw (i := 1127) (by decide +kernel) (by decide +kernel), gw (i := 1129) (by decide +kernel) (by decide +kernel), gw (i := 39) (by decide +kernel) (by decide +kernel)⟩
theorem v_X7_118 : VL RX7 118 mX7_popReference 0 := ⟨cl_X7_popReference, gw (i := 1088) (by decide +kernel) (by decide +kernel), gw (i := 1090) (by decide +kernel) (by decide +kernel), gw (i := 34) (by decide +kernel) (by decide +kernel)⟩
theorem s_X7_146 : SL RX7 146 mX7_isArrayType 1 := ⟨cl_X7_isArrayType, Or.inl (gw (i := 1131) (by decide +kernel) (by decide +kernel)), gw (i := 1132) (by decide +kernel) (by decide +kernel)⟩
theorem s_X7_177 : SL RX7 177 mX11_isReference 1 := ⟨cl_X11_isReference, Or.inr ⟨"CodeVerifier", List.mem_filter.mpr ⟨List.mem_of_getElem? (i := 1088) (by decide +kernel), rfl⟩⟩, gw (i := 758) (by decide +kernel) (by decide +kernel)⟩
theorem s_X7_121 : SL RX7 121 mX11_isReferenceType 1 := ⟨cl_X11_isReferenceType, Or.inr ⟨"CodeVerifier", List.mem_filter.mpr ⟨List.mem_of_getElem? (i := 1039) (by decide +kernel), rfl⟩⟩, gw (i := 733) (by decide +kernel) (by decide +kernel)⟩
theorem f_X7_77_2 : FL RX7 77 2 0 := ⟨RX3, TX3, 4, "CodeVerifier$Frame", rfl, by decide, ig_X3, gw (i := 300) (by decide +kernel) (by decide +kernel), Or.inl rfl⟩
theorem s_X7_84 : SL RX7 84 mX7_isAnyReference 1 := ⟨cl_X7_isAnyReference, Or.inl (gw (i := 1040) (by decide +kernel) (by decide +kernel)), gw (i := 1041) (by decide +kernel) (by decide +kernel)⟩
theorem v_X7_91 : VL RX7 91 mX7_store 2 := ⟨cl_X7_store, gw (i := 1053) (by decide +kernel) (by decide +kernel), gw (i := 1055) (by decide +kernel) (by decide +kernel), gw (i := 26) (by decide +kernel) (by decide +kernel)⟩
theorem v_X7_94 : VL RX7 94 mX7_popAnyReference 0 := ⟨cl_X7_popAnyReference, gw (i := 1061) (by decide +kernel) (by decide +kernel), gw (i := 1063) (by decide +kernel) (by decide +kernel), gw (i := 28) (by decide +kernel) (by decide +kernel)⟩
theorem v_X7_189 : VL RX7 189 mX7_breakLong 1 := ⟨cl_X7_breakLong, gw (i := 1057) (by decide +kernel) (by decide +kernel), gw (i := 1059) (by decide +kernel) (by decide +kernel), gw (i := 27) (by decide +kernel) (by decide +kernel)⟩
theorem v_X7_98 : VL RX7 98 mX7_movePair 1 := ⟨cl_X7_movePair, gw (i := 1069) (by decide +kernel) (by decide +kernel), gw (i := 1071) (by decide +kernel) (by decide +kernel), gw (i := 30) (by decide +kernel) (by decide +kernel)⟩
theorem v_X7_101 : VL RX7 101 mX7_popWhole 0 := ⟨cl_X7_popWhole, gw (i := 1076) (by decide +kernel) (by decide +kernel), gw (i := 1078) (by decide +kernel) (by decide +kernel), gw (i := 31) (by decide +kernel) (by decide +kernel)⟩
theorem s_X7_107 : SL RX7 107 mX7_isWhole 1 := ⟨cl_X7_isWhole, Or.inl (gw (i := 1073) (by decide +kernel) (by decide +kernel)), gw (i := 1074) (by decide +kernel) (by decide +kernel)⟩
theorem f_X7_134_7 : FL RX7 134 7 0 := ⟨RX8, TX8, 13, "CodeVerifier$Members", rfl, by decide, ig_X8, gw (i := 168) (by decide +kernel) (by decide +kernel), Or.inl rfl⟩
theorem f_X7_137_7 : FL RX7 137 7 1 := ⟨RX8, TX8, 13, "CodeVerifier$Members", rfl, by decide, ig_X8, gw (i := 170) (by decide +kernel) (by decide +kernel), Or.inl rfl⟩
theorem v_X7_140 : VL RX7 140 mX7_popFieldObject 1 := ⟨cl_X7_popFieldObject, gw (i := 1138) (by decide +kernel) (by decide +kernel), gw (i := 1140) (by decide +kernel) (by decide +kernel), gw (i := 41) (by decide +kernel) (by decide +kernel)⟩
theorem u_X5_54_4 : UL RX5 54 RX5 "CodeVerifier$Analysis" ⟨"CodeVerifier$Inference", "makeFirstFrame", "(LCodeVerifier$Frame;)V"⟩ mX0_makeFirstFrame 1 := ⟨cl_X0_makeFirstFrame, gw (i := 968) (by decide +kernel) (by decide +kernel), gw (i := 969) (by decide +kernel) (by decide +kernel), Or.inl rfl, gw (i := 971) (by decide +kernel) (by decide +kernel), gw (i := 972) (by decide +kernel) (by decide +kernel), by decide +kernel, rfl⟩
theorem v_X0_61 : VL RX0 61 mX3_clear 0 := ⟨cl_X3_clear, gw (i := 974) (by decide +kernel) (by decide +kernel), gw (i := 331) (by decide +kernel) (by decide +kernel), gw (i := 332) (by decide +kernel) (by decide +kernel)⟩
theorem f_X0_64_0 : FL RX0 64 0 1 := ⟨RX1, TX1, 12, "CodeVerifier$Code", rfl, by decide, ig_X1, gw (i := 229) (by decide +kernel) (by decide +kernel), Or.inl rfl⟩
theorem f_X0_25_4 : FL RX0 25 4 5 := ⟨RX5, TX5, 11, "CodeVerifier$Analysis", rfl, by decide, ig_X5, gw (i := 440) (by decide +kernel) (by decide +kernel), Or.inl rfl⟩
theorem f_X0_69_7 : FL RX0 69 7 3 := ⟨RX8, TX8, 13, "CodeVerifier$Members", rfl, by decide, ig_X8, gw (i := 174) (by decide +kernel) (by decide +kernel), Or.inl rfl⟩
theorem f_X0_75_7 : FL RX0 75 7 4 := ⟨RX8, TX8, 13, "CodeVerifier$Members", rfl, by decide, ig_X8, gw (i := 178) (by decide +kernel) (by decide +kernel), Or.inl rfl⟩
theorem f_X0_85_7 : FL RX0 85 7 6 := ⟨RX8, TX8, 13, "CodeVerifier$Members", rfl, by decide, ig_X8, gw (i := 182) (by decide +kernel) (by decide +kernel), Or.inl rfl⟩
theorem v_X0_88 : VL RX0 88 mX8_parameterType 2 := ⟨cl_X8_parameterType, gw (i := 975) (by decide +kernel) (by decide +kernel), gw (i := 976) (by decide +kernel) (by decide +kernel), gw (i := 977) (by decide +kernel) (by decide +kernel)⟩
theorem f_X0_78_2 : FL RX0 78 2 0 := ⟨RX3, TX3, 4, "CodeVerifier$Frame", rfl, by decide, ig_X3, gw (i := 301) (by decide +kernel) (by decide +kernel), Or.inl rfl⟩
theorem s_X0_92 : SL RX0 92 mX11_slotsOf 1 := ⟨cl_X11_slotsOf, Or.inr ⟨"CodeVerifier", List.mem_filter.mpr ⟨List.mem_of_getElem? (i := 975) (by decide +kernel), rfl⟩⟩, gw (i := 674) (by decide +kernel) (by decide +kernel)⟩
theorem p_X0_81_2 : PL false RX0 81 2 3 (.boolean) := ⟨RX3, TX3, 4, "CodeVerifier$Frame", tyX3, rfl, by decide, ig_X3, gw (i := 316) (by decide +kernel) (by decide +kernel), Or.inl rfl, rfl, by decide +kernel, tyX3_ok, nmX3, fun h => by cases h⟩
theorem f_X5_61_4 : FL RX5 61 4 0 := ⟨RX5, TX5, 11, "CodeVerifier$Inference", rfl, by decide, ig_X5, gw (i := 417) (by decide +kernel) (by decide +kernel), Or.inr (gw (i := 418) (by decide +kernel) (by decide +kernel))⟩
theorem f_X5_65_0 : FL RX5 65 0 6 := ⟨RX1, TX1, 12, "CodeVerifier$Code", rfl, by decide, ig_X1, gw (i := 252) (by decide +kernel) (by decide +kernel), Or.inl rfl⟩
theorem u_X6_15_5 : UL RX6 15 RX6 "CodeVerifier$Analysis" ⟨"CodeVerifier$LinearCheck", "examine", "()I"⟩ mX0_examine 0 := ⟨cl_X0_examine, gw (i := 1160) (by decide +kernel) (by decide +kernel), gw (i := 1161) (by decide +kernel) (by decide +kernel), Or.inl rfl, gw (i := 1162) (by decide +kernel) (by decide +kernel), gw (i := 936) (by decide +kernel) (by decide +kernel), by decide +kernel, rfl⟩
theorem f_X6_19_5 : FL RX6 19 5 2 := ⟨RX6, TX6, 10, "CodeVerifier$LinearCheck", rfl, by decide, ig_X6, gw (i := 425) (by decide +kernel) (by decide +kernel), Or.inr (gw (i := 426) (by decide +kernel) (by decide +kernel))⟩
theorem u_X6_23_5 : UL RX6 23 RX6 "CodeVerifier$Analysis" ⟨"CodeVerifier$LinearCheck", "makeFirstFrame", "(LCodeVerifier$Frame;)V"⟩ mX0_makeFirstFrame 1 := ⟨cl_X0_makeFirstFrame, gw (i := 1163) (by decide +kernel) (by decide +kernel), gw (i := 1164) (by decide +kernel) (by decide +kernel), Or.inl rfl, gw (i := 1165) (by decide +kernel) (by decide +kernel), gw (i := 972) (by decide +kernel) (by decide +kernel), by decide +kernel, rfl⟩
theorem f_X6_27_5 : FL RX6 27 5 0 := ⟨RX6, TX6, 10, "CodeVerifier$LinearCheck", rfl, by decide, ig_X6, gw (i := 415) (by decide +kernel) (by decide +kernel), Or.inr (gw (i := 416) (by decide +kernel) (by decide +kernel))⟩
theorem f_X6_31_0 : FL RX6 31 0 6 := ⟨RX1, TX1, 12, "CodeVerifier$Code", rfl, by decide, ig_X1, gw (i := 251) (by decide +kernel) (by decide +kernel), Or.inl rfl⟩
theorem v_X6_37 : VL RX6 37 mX6_enter 2 := ⟨cl_X6_enter, gw (i := 1166) (by decide +kernel) (by decide +kernel), gw (i := 1168) (by decide +kernel) (by decide +kernel), gw (i := 42) (by decide +kernel) (by decide +kernel)⟩
theorem p_X6_45_5 : PL false RX6 45 5 3 (.int) := ⟨RX6, TX6, 10, "CodeVerifier$LinearCheck", tyX6, rfl, by decide, ig_X6, gw (i := 430) (by decide +kernel) (by decide +kernel), Or.inr (gw (i := 431) (by decide +kernel) (by decide +kernel)), rfl, by decide +kernel, tyX6_ok, nmX6, fun h => by cases h⟩
theorem f_X6_48_0 : FL RX6 48 0 4 := ⟨RX1, TX1, 12, "CodeVerifier$Code", rfl, by decide, ig_X1, gw (i := 241) (by decide +kernel) (by decide +kernel), Or.inl rfl⟩
theorem s_X6_52 : SL RX6 52 mX9_fallsThrough 1 := ⟨cl_X9_fallsThrough, Or.inl (gw (i := 1174) (by decide +kernel) (by decide +kernel)), gw (i := 913) (by decide +kernel) (by decide +kernel)⟩
theorem u_X6_41_5 : UL RX6 41 RX6 "CodeVerifier$Analysis" ⟨"CodeVerifier$LinearCheck", "process", "(I)I"⟩ mX0_process 1 := ⟨cl_X0_process, gw (i := 1171) (by decide +kernel) (by decide +kernel), gw (i := 1172) (by decide +kernel) (by decide +kernel), Or.inl rfl, gw (i := 1173) (by decide +kernel) (by decide +kernel), gw (i := 991) (by decide +kernel) (by decide +kernel), by decide +kernel, rfl⟩
theorem f_X0_38_5 : FL RX0 38 5 6 := ⟨RX6, TX6, 10, "CodeVerifier$Analysis", rfl, by decide, ig_X6, gw (i := 441) (by decide +kernel) (by decide +kernel), Or.inl rfl⟩
theorem p_X0_49_5 : PL false RX0 49 5 3 (.int) := ⟨RX6, TX6, 10, "CodeVerifier$Analysis", tyX6, rfl, by decide, ig_X6, gw (i := 429) (by decide +kernel) (by decide +kernel), Or.inl rfl, rfl, by decide +kernel, tyX6_ok, nmX6, fun h => by cases h⟩
theorem p_X0_53_5 : PL false RX0 53 5 4 (.int) := ⟨RX6, TX6, 10, "CodeVerifier$Analysis", tyX6, rfl, by decide, ig_X6, gw (i := 435) (by decide +kernel) (by decide +kernel), Or.inl rfl, rfl, by decide +kernel, tyX6_ok, nmX6, fun h => by cases h⟩
theorem f_X0_29_5 : FL RX0 29 5 0 := ⟨RX6, TX6, 10, "CodeVerifier$Analysis", rfl, by decide, ig_X6, gw (i := 414) (by decide +kernel) (by decide +kernel), Or.inl rfl⟩
theorem f_X0_25_5 : FL RX0 25 5 5 := ⟨RX6, TX6, 10, "CodeVerifier$Analysis", rfl, by decide, ig_X6, gw (i := 440) (by decide +kernel) (by decide +kernel), Or.inl rfl⟩
theorem f_X0_53_5 : FL RX0 53 5 4 := ⟨RX6, TX6, 10, "CodeVerifier$Analysis", rfl, by decide, ig_X6, gw (i := 435) (by decide +kernel) (by decide +kernel), Or.inl rfl⟩
theorem u_X0_96_5 : UL RX0 96 RX6 "CodeVerifier$Analysis" ⟨"CodeVerifier$Analysis", "flowToHandlers", "(I)I"⟩ mX0_flowToHandlers 1 := ⟨cl_X0_flowToHandlers, gw (i := 993) (by decide +kernel) (by decide +kernel), gw (i := 1752) (by decide +kernel) (by decide +kernel), Or.inl rfl, gw (i := 2) (by decide +kernel) (by decide +kernel), gw (i := 995) (by decide +kernel) (by decide +kernel), by decide +kernel, rfl⟩
theorem u_X0_103_5 : UL RX0 103 RX6 "CodeVerifier$Analysis" ⟨"CodeVerifier$Analysis", "flowToSuccessors", "(I)I"⟩ mX0_flowToSuccessors 1 := ⟨cl_X0_flowToSuccessors, gw (i := 1142) (by decide +kernel) (by decide +kernel), gw (i := 1753) (by decide +kernel) (by decide +kernel), Or.inl rfl, gw (i := 3) (by decide +kernel) (by decide +kernel), gw (i := 1144) (by decide +kernel) (by decide +kernel), by decide +kernel, rfl⟩
theorem f_X0_45_5 : FL RX0 45 5 7 := ⟨RX6, TX6, 10, "CodeVerifier$Analysis", rfl, by decide, ig_X6, gw (i := 442) (by decide +kernel) (by decide +kernel), Or.inl rfl⟩
theorem f_X0_12_5 : FL RX0 12 5 2 := ⟨RX6, TX6, 10, "CodeVerifier$Analysis", rfl, by decide, ig_X6, gw (i := 424) (by decide +kernel) (by decide +kernel), Or.inl rfl⟩
theorem f_X0_18_5 : FL RX0 18 5 8 := ⟨RX6, TX6, 10, "CodeVerifier$Analysis", rfl, by decide, ig_X6, gw (i := 443) (by decide +kernel) (by decide +kernel), Or.inl rfl⟩
theorem u_X0_126_5 : UL RX0 126 RX6 "CodeVerifier$Analysis" ⟨"CodeVerifier$Analysis", "flow", "(ILCodeVerifier$Frame;Z)I"⟩ mX6_flow 3 := ⟨cl_X6_flow, gw (i := 1003) (by decide +kernel) (by decide +kernel), gw (i := 1005) (by decide +kernel) (by decide +kernel), Or.inr (List.mem_filter.mpr ⟨List.mem_of_getElem? (i := 1000) (by decide +kernel), rfl⟩), gw (i := 1011) (by decide +kernel) (by decide +kernel), gw (i := 1012) (by decide +kernel) (by decide +kernel), by decide +kernel, rfl⟩
theorem f_X6_9_5 : FL RX6 9 5 9 := ⟨RX6, TX6, 10, "CodeVerifier$LinearCheck", rfl, by decide, ig_X6, gw (i := 473) (by decide +kernel) (by decide +kernel), Or.inl rfl⟩
theorem v_X6_58 : VL RX6 58 mX4_contains 1 := ⟨cl_X4_contains, gw (i := 1014) (by decide +kernel) (by decide +kernel), gw (i := 539) (by decide +kernel) (by decide +kernel), gw (i := 540) (by decide +kernel) (by decide +kernel)⟩
theorem f_X6_63_5 : FL RX6 63 5 1 := ⟨RX6, TX6, 10, "CodeVerifier$LinearCheck", rfl, by decide, ig_X6, gw (i := 420) (by decide +kernel) (by decide +kernel), Or.inr (gw (i := 421) (by decide +kernel) (by decide +kernel))⟩
theorem f_X6_67_3 : FL RX6 67 3 0 := ⟨RX4, TX4, 3, "CodeVerifier$FrameTable", rfl, by decide, ig_X4, gw (i := 345) (by decide +kernel) (by decide +kernel), Or.inl rfl⟩
theorem v_X6_71 : VL RX6 71 mX10_frameFits 2 := ⟨cl_X10_frameFits, gw (i := 1015) (by decide +kernel) (by decide +kernel), gw (i := 1016) (by decide +kernel) (by decide +kernel), gw (i := 1017) (by decide +kernel) (by decide +kernel)⟩
theorem f_X10_56_2 : FL RX10 56 2 2 := ⟨RX3, TX3, 4, "CodeVerifier$Frame", rfl, by decide, ig_X3, gw (i := 312) (by decide +kernel) (by decide +kernel), Or.inl rfl⟩
theorem f_X10_61_2 : FL RX10 61 2 3 := ⟨RX3, TX3, 4, "CodeVerifier$Frame", rfl, by decide, ig_X3, gw (i := 319) (by decide +kernel) (by decide +kernel), Or.inl rfl⟩
theorem f_X10_71_2 : FL RX10 71 2 1 := ⟨RX3, TX3, 4, "CodeVerifier$Frame", rfl, by decide, ig_X3, gw (i := 307) (by decide +kernel) (by decide +kernel), Or.inl rfl⟩
theorem v_X10_68 : VL RX10 68 mX10_fits 2 := ⟨cl_X10_fits, gw (i := 1019) (by decide +kernel) (by decide +kernel), gw (i := 729) (by decide +kernel) (by decide +kernel), gw (i := 730) (by decide +kernel) (by decide +kernel)⟩
theorem f_X10_65_2 : FL RX10 65 2 0 := ⟨RX3, TX3, 4, "CodeVerifier$Frame", rfl, by decide, ig_X3, gw (i := 303) (by decide +kernel) (by decide +kernel), Or.inl rfl⟩
theorem v_X6_77 : VL RX6 77 mX3_copyFrom 1 := ⟨cl_X3_copyFrom, gw (i := 1170) (by decide +kernel) (by decide +kernel), gw (i := 877) (by decide +kernel) (by decide +kernel), gw (i := 878) (by decide +kernel) (by decide +kernel)⟩
theorem f_X8_9_7 : FL RX8 9 7 0 := ⟨RX8, TX8, 13, "CodeVerifier$Members", rfl, by decide, ig_X8, gw (i := 167) (by decide +kernel) (by decide +kernel), Or.inl rfl⟩
theorem f_X8_15_7 : FL RX8 15 7 1 := ⟨RX8, TX8, 13, "CodeVerifier$Members", rfl, by decide, ig_X8, gw (i := 169) (by decide +kernel) (by decide +kernel), Or.inl rfl⟩
theorem p_X8_39_7 : PL false RX8 39 7 2 (.int) := ⟨RX8, TX8, 13, "CodeVerifier$Members", tyX8, rfl, by decide, ig_X8, gw (i := 171) (by decide +kernel) (by decide +kernel), Or.inl rfl, rfl, by decide +kernel, tyX8_ok, nmX8, fun h => by cases h⟩
theorem f_X8_36_7 : FL RX8 36 7 10 := ⟨RX8, TX8, 13, "CodeVerifier$Members", rfl, by decide, ig_X8, gw (i := 188) (by decide +kernel) (by decide +kernel), Or.inl rfl⟩
theorem f_X8_50_7 : FL RX8 50 7 11 := ⟨RX8, TX8, 13, "CodeVerifier$Members", rfl, by decide, ig_X8, gw (i := 189) (by decide +kernel) (by decide +kernel), Or.inl rfl⟩
theorem p_X8_50_7 : PL false RX8 50 7 11 (.int) := ⟨RX8, TX8, 13, "CodeVerifier$Members", tyX8, rfl, by decide, ig_X8, gw (i := 189) (by decide +kernel) (by decide +kernel), Or.inl rfl, rfl, by decide +kernel, tyX8_ok, nmX8, fun h => by cases h⟩
theorem f_X8_53_7 : FL RX8 53 7 12 := ⟨RX8, TX8, 13, "CodeVerifier$Members", rfl, by decide, ig_X8, gw (i := 191) (by decide +kernel) (by decide +kernel), Or.inl rfl⟩
theorem s_X8_56 : SL RX8 56 mX11_slotsOf 1 := ⟨cl_X11_slotsOf, Or.inr ⟨"CodeVerifier", List.mem_filter.mpr ⟨List.mem_of_getElem? (i := 677) (by decide +kernel), rfl⟩⟩, gw (i := 674) (by decide +kernel) (by decide +kernel)⟩
theorem p_X8_53_7 : PL false RX8 53 7 12 (.int) := ⟨RX8, TX8, 13, "CodeVerifier$Members", tyX8, rfl, by decide, ig_X8, gw (i := 191) (by decide +kernel) (by decide +kernel), Or.inl rfl, rfl, by decide +kernel, tyX8_ok, nmX8, fun h => by cases h⟩
theorem f_X8_18_7 : FL RX8 18 7 3 := ⟨RX8, TX8, 13, "CodeVerifier$Members", rfl, by decide, ig_X8, gw (i := 173) (by decide +kernel) (by decide +kernel), Or.inl rfl⟩
theorem f_X8_24_7 : FL RX8 24 7 5 := ⟨RX8, TX8, 13, "CodeVerifier$Members", rfl, by decide, ig_X8, gw (i := 179) (by decide +kernel) (by decide +kernel), Or.inl rfl⟩
theorem f_X8_27_7 : FL RX8 27 7 6 := ⟨RX8, TX8, 13, "CodeVerifier$Members", rfl, by decide, ig_X8, gw (i := 181) (by decide +kernel) (by decide +kernel), Or.inl rfl⟩
theorem a_X8_60 : AL RX8 60 := ⟨gw (i := 707) (by decide +kernel) (by decide +kernel), gw (i := 709) (by decide +kernel) (by decide +kernel), gw (i := 708) (by decide +kernel) (by decide +kernel), gw (i := 128) (by decide +kernel) (by decide +kernel)⟩
theorem v_X8_66 : VL RX8 66 mX8_dropParameters 0 := ⟨cl_X8_dropParameters, gw (i := 710) (by decide +kernel) (by decide +kernel), gw (i := 698) (by decide +kernel) (by decide +kernel), gw (i := 699) (by decide +kernel) (by decide +kernel)⟩
theorem p_X8_43_7 : PL false RX8 43 7 9 (.int) := ⟨RX8, TX8, 13, "CodeVerifier$Members", tyX8, rfl, by decide, ig_X8, gw (i := 186) (by decide +kernel) (by decide +kernel), Or.inl rfl, rfl, by decide +kernel, tyX8_ok, nmX8, fun h => by cases h⟩
theorem p_X10_19_8 : PL false RX10 19 8 2 (.int) := ⟨RX10, TX10, 3, "CodeVerifier$Types", tyX10, rfl, by decide, ig_X10, gw (i := 150) (by decide +kernel) (by decide +kernel), Or.inl rfl, rfl, by decide +kernel, tyX10_ok, nmX10, fun h => by cases h⟩
theorem v_X10_23 : VL RX10 23 mX10_isType 1 := ⟨cl_X10_isType, gw (i := 726) (by decide +kernel) (by decide +kernel), gw (i := 656) (by decide +kernel) (by decide +kernel), gw (i := 657) (by decide +kernel) (by decide +kernel)⟩
theorem f_X11_10_9 : FL RX11 10 9 0 := ⟨RX11, TX11, 11, "CodeVerifier", rfl, by decide, ig_X11, gw (i := 486) (by decide +kernel) (by decide +kernel), Or.inl rfl⟩
theorem v_X11_76 : VL RX11 76 mX10_isClass 1 := ⟨cl_X10_isClass, gw (i := 555) (by decide +kernel) (by decide +kernel), gw (i := 556) (by decide +kernel) (by decide +kernel), gw (i := 557) (by decide +kernel) (by decide +kernel)⟩
theorem f_X11_87_8 : FL RX11 87 8 2 := ⟨RX10, TX10, 3, "CodeVerifier$Types", rfl, by decide, ig_X10, gw (i := 151) (by decide +kernel) (by decide +kernel), Or.inl rfl⟩
theorem v_X11_95 : VL RX11 95 mX10_add 2 := ⟨cl_X10_add, gw (i := 644) (by decide +kernel) (by decide +kernel), gw (i := 645) (by decide +kernel) (by decide +kernel), gw (i := 646) (by decide +kernel) (by decide +kernel)⟩
theorem v_X11_99 : VL RX11 99 mX10_isType 1 := ⟨cl_X10_isType, gw (i := 655) (by decide +kernel) (by decide +kernel), gw (i := 656) (by decide +kernel) (by decide +kernel), gw (i := 657) (by decide +kernel) (by decide +kernel)⟩
theorem f_X11_19_9 : FL RX11 19 9 1 := ⟨RX11, TX11, 11, "CodeVerifier", rfl, by decide, ig_X11, gw (i := 487) (by decide +kernel) (by decide +kernel), Or.inl rfl⟩
theorem f_X11_104_7 : FL RX11 104 7 2 := ⟨RX8, TX8, 13, "CodeVerifier$Members", rfl, by decide, ig_X8, gw (i := 172) (by decide +kernel) (by decide +kernel), Or.inl rfl⟩
theorem v_X11_109 : VL RX11 109 mX8_addField 2 := ⟨cl_X8_addField, gw (i := 661) (by decide +kernel) (by decide +kernel), gw (i := 662) (by decide +kernel) (by decide +kernel), gw (i := 663) (by decide +kernel) (by decide +kernel)⟩
theorem f_X11_115_7 : FL RX11 115 7 12 := ⟨RX8, TX8, 13, "CodeVerifier$Members", rfl, by decide, ig_X8, gw (i := 190) (by decide +kernel) (by decide +kernel), Or.inl rfl⟩
theorem s_X11_118 : SL RX11 118 mX11_slotsOf 1 := ⟨cl_X11_slotsOf, Or.inl (gw (i := 673) (by decide +kernel) (by decide +kernel)), gw (i := 674) (by decide +kernel) (by decide +kernel)⟩
theorem v_X11_124 : VL RX11 124 mX8_addParameter 1 := ⟨cl_X8_addParameter, gw (i := 677) (by decide +kernel) (by decide +kernel), gw (i := 678) (by decide +kernel) (by decide +kernel), gw (i := 679) (by decide +kernel) (by decide +kernel)⟩
theorem v_X11_127 : VL RX11 127 mX11_isMethodAllowed 3 := ⟨cl_X11_isMethodAllowed, gw (i := 689) (by decide +kernel) (by decide +kernel), gw (i := 691) (by decide +kernel) (by decide +kernel), gw (i := 6) (by decide +kernel) (by decide +kernel)⟩
theorem f_X11_136_7 : FL RX11 136 7 9 := ⟨RX8, TX8, 13, "CodeVerifier$Members", rfl, by decide, ig_X8, gw (i := 187) (by decide +kernel) (by decide +kernel), Or.inl rfl⟩
theorem v_X11_141 : VL RX11 141 mX8_addMethod 3 := ⟨cl_X8_addMethod, gw (i := 703) (by decide +kernel) (by decide +kernel), gw (i := 704) (by decide +kernel) (by decide +kernel), gw (i := 705) (by decide +kernel) (by decide +kernel)⟩
theorem v_X11_131 : VL RX11 131 mX8_dropParameters 0 := ⟨cl_X8_dropParameters, gw (i := 697) (by decide +kernel) (by decide +kernel), gw (i := 698) (by decide +kernel) (by decide +kernel), gw (i := 699) (by decide +kernel) (by decide +kernel)⟩
theorem v_X11_145 : VL RX11 145 mX10_isInterface 1 := ⟨cl_X10_isInterface, gw (i := 693) (by decide +kernel) (by decide +kernel), gw (i := 694) (by decide +kernel) (by decide +kernel), gw (i := 695) (by decide +kernel) (by decide +kernel)⟩
theorem v_X11_148 : VL RX11 148 mX11_requireSlotValues 2 := ⟨cl_X11_requireSlotValues, gw (i := 718) (by decide +kernel) (by decide +kernel), gw (i := 720) (by decide +kernel) (by decide +kernel), gw (i := 7) (by decide +kernel) (by decide +kernel)⟩
theorem v_X11_152 : VL RX11 152 mX10_fits 2 := ⟨cl_X10_fits, gw (i := 728) (by decide +kernel) (by decide +kernel), gw (i := 729) (by decide +kernel) (by decide +kernel), gw (i := 730) (by decide +kernel) (by decide +kernel)⟩
theorem v_X11_159 : VL RX11 159 mX10_isSlotValue 1 := ⟨cl_X10_isSlotValue, gw (i := 722) (by decide +kernel) (by decide +kernel), gw (i := 723) (by decide +kernel) (by decide +kernel), gw (i := 724) (by decide +kernel) (by decide +kernel)⟩
theorem v_X11_156 : VL RX11 156 mX10_commonSlot 2 := ⟨cl_X10_commonSlot, gw (i := 753) (by decide +kernel) (by decide +kernel), gw (i := 754) (by decide +kernel) (by decide +kernel), gw (i := 755) (by decide +kernel) (by decide +kernel)⟩
theorem v_X11_164 : VL RX11 164 mX8_isMethod 1 := ⟨cl_X8_isMethod, gw (i := 774) (by decide +kernel) (by decide +kernel), gw (i := 775) (by decide +kernel) (by decide +kernel), gw (i := 776) (by decide +kernel) (by decide +kernel)⟩
theorem f_X11_172_7 : FL RX11 172 7 3 := ⟨RX8, TX8, 13, "CodeVerifier$Members", rfl, by decide, ig_X8, gw (i := 175) (by decide +kernel) (by decide +kernel), Or.inl rfl⟩
theorem f_X11_26_9 : FL RX11 26 9 2 := ⟨RX11, TX11, 11, "CodeVerifier", rfl, by decide, ig_X11, gw (i := 488) (by decide +kernel) (by decide +kernel), Or.inl rfl⟩
theorem v_X11_178 : VL RX11 178 mX1_start 3 := ⟨cl_X1_start, gw (i := 795) (by decide +kernel) (by decide +kernel), gw (i := 796) (by decide +kernel) (by decide +kernel), gw (i := 797) (by decide +kernel) (by decide +kernel)⟩
theorem f_X11_47_9 : FL RX11 47 9 5 := ⟨RX11, TX11, 11, "CodeVerifier", rfl, by decide, ig_X11, gw (i := 491) (by decide +kernel) (by decide +kernel), Or.inl rfl⟩
theorem v_X11_182 : VL RX11 182 mX4_clear 0 := ⟨cl_X4_clear, gw (i := 799) (by decide +kernel) (by decide +kernel), gw (i := 800) (by decide +kernel) (by decide +kernel), gw (i := 801) (by decide +kernel) (by decide +kernel)⟩
theorem f_X11_51_9 : FL RX11 51 9 6 := ⟨RX11, TX11, 11, "CodeVerifier", rfl, by decide, ig_X11, gw (i := 492) (by decide +kernel) (by decide +kernel), Or.inl rfl⟩
theorem v_X11_183 : VL RX11 183 mX8_slotsNeeded 1 := ⟨cl_X8_slotsNeeded, gw (i := 803) (by decide +kernel) (by decide +kernel), gw (i := 804) (by decide +kernel) (by decide +kernel), gw (i := 805) (by decide +kernel) (by decide +kernel)⟩
theorem f_X11_190_0 : FL RX11 190 0 0 := ⟨RX1, TX1, 12, "CodeVerifier$Code", rfl, by decide, ig_X1, gw (i := 226) (by decide +kernel) (by decide +kernel), Or.inl rfl⟩
theorem f_X11_194_0 : FL RX11 194 0 6 := ⟨RX1, TX1, 12, "CodeVerifier$Code", rfl, by decide, ig_X1, gw (i := 253) (by decide +kernel) (by decide +kernel), Or.inl rfl⟩
theorem v_X11_197 : VL RX11 197 mX1_addInstruction 2 := ⟨cl_X1_addInstruction, gw (i := 816) (by decide +kernel) (by decide +kernel), gw (i := 817) (by decide +kernel) (by decide +kernel), gw (i := 818) (by decide +kernel) (by decide +kernel)⟩
theorem f_X11_202_0 : FL RX11 202 0 11 := ⟨RX1, TX1, 12, "CodeVerifier$Code", rfl, by decide, ig_X1, gw (i := 267) (by decide +kernel) (by decide +kernel), Or.inl rfl⟩
theorem v_X11_207 : VL RX11 207 mX1_addProtection 4 := ⟨cl_X1_addProtection, gw (i := 829) (by decide +kernel) (by decide +kernel), gw (i := 830) (by decide +kernel) (by decide +kernel), gw (i := 831) (by decide +kernel) (by decide +kernel)⟩
theorem f_X11_40_9 : FL RX11 40 9 4 := ⟨RX11, TX11, 11, "CodeVerifier", rfl, by decide, ig_X11, gw (i := 490) (by decide +kernel) (by decide +kernel), Or.inl rfl⟩
theorem f_X11_33_9 : FL RX11 33 9 3 := ⟨RX11, TX11, 11, "CodeVerifier", rfl, by decide, ig_X11, gw (i := 489) (by decide +kernel) (by decide +kernel), Or.inl rfl⟩
theorem f_X11_213_2 : FL RX11 213 2 0 := ⟨RX3, TX3, 4, "CodeVerifier$Frame", rfl, by decide, ig_X3, gw (i := 304) (by decide +kernel) (by decide +kernel), Or.inl rfl⟩
theorem p_X11_40_9 : PL false RX11 40 9 4 (.int) := ⟨RX11, TX11, 11, "CodeVerifier", tyX11, rfl, by decide, ig_X11, gw (i := 490) (by decide +kernel) (by decide +kernel), Or.inl rfl, rfl, by decide +kernel, tyX11_ok, nmX11, fun h => by cases h⟩
theorem f_X11_216_2 : FL RX11 216 2 2 := ⟨RX3, TX3, 4, "CodeVerifier$Frame", rfl, by decide, ig_X3, gw (i := 313) (by decide +kernel) (by decide +kernel), Or.inl rfl⟩
theorem f_X11_221_2 : FL RX11 221 2 1 := ⟨RX3, TX3, 4, "CodeVerifier$Frame", rfl, by decide, ig_X3, gw (i := 308) (by decide +kernel) (by decide +kernel), Or.inl rfl⟩
theorem p_X11_216_2 : PL false RX11 216 2 2 (.int) := ⟨RX3, TX3, 4, "CodeVerifier$Frame", tyX3, rfl, by decide, ig_X3, gw (i := 313) (by decide +kernel) (by decide +kernel), Or.inl rfl, rfl, by decide +kernel, tyX3_ok, nmX3, fun h => by cases h⟩
theorem v_X11_224 : VL RX11 224 mX1_isIndex 1 := ⟨cl_X1_isIndex, gw (i := 856) (by decide +kernel) (by decide +kernel), gw (i := 857) (by decide +kernel) (by decide +kernel), gw (i := 858) (by decide +kernel) (by decide +kernel)⟩
theorem f_X11_230_0 : FL RX11 230 0 3 := ⟨RX1, TX1, 12, "CodeVerifier$Code", rfl, by decide, ig_X1, gw (i := 237) (by decide +kernel) (by decide +kernel), Or.inl rfl⟩
theorem v_X11_227 : VL RX11 227 mX11_dropDraft 0 := ⟨cl_X11_dropDraft, gw (i := 860) (by decide +kernel) (by decide +kernel), gw (i := 862) (by decide +kernel) (by decide +kernel), gw (i := 10) (by decide +kernel) (by decide +kernel)⟩
theorem f_X11_232_0 : FL RX11 232 0 2 := ⟨RX1, TX1, 12, "CodeVerifier$Code", rfl, by decide, ig_X1, gw (i := 233) (by decide +kernel) (by decide +kernel), Or.inl rfl⟩
theorem v_X11_235 : VL RX11 235 mX3_isWellFormed 0 := ⟨cl_X3_isWellFormed, gw (i := 864) (by decide +kernel) (by decide +kernel), gw (i := 865) (by decide +kernel) (by decide +kernel), gw (i := 866) (by decide +kernel) (by decide +kernel)⟩
theorem p_X11_241_2 : PL false RX11 241 2 3 (.boolean) := ⟨RX3, TX3, 4, "CodeVerifier$Frame", tyX3, rfl, by decide, ig_X3, gw (i := 320) (by decide +kernel) (by decide +kernel), Or.inl rfl, rfl, by decide +kernel, tyX3_ok, nmX3, fun h => by cases h⟩
theorem v_X11_244 : VL RX11 244 mX4_put 2 := ⟨cl_X4_put, gw (i := 872) (by decide +kernel) (by decide +kernel), gw (i := 873) (by decide +kernel) (by decide +kernel), gw (i := 874) (by decide +kernel) (by decide +kernel)⟩
theorem f_X11_248_3 : FL RX11 248 3 2 := ⟨RX4, TX4, 3, "CodeVerifier$FrameTable", rfl, by decide, ig_X4, gw (i := 349) (by decide +kernel) (by decide +kernel), Or.inl rfl⟩
theorem v_X11_37 : VL RX11 37 mX3_clear 0 := ⟨cl_X3_clear, gw (i := 330) (by decide +kernel) (by decide +kernel), gw (i := 331) (by decide +kernel) (by decide +kernel), gw (i := 332) (by decide +kernel) (by decide +kernel)⟩
theorem v_X11_251 : VL RX11 251 mX11_adoptAtJumps 0 := ⟨cl_X11_adoptAtJumps, gw (i := 889) (by decide +kernel) (by decide +kernel), gw (i := 891) (by decide +kernel) (by decide +kernel), gw (i := 11) (by decide +kernel) (by decide +kernel)⟩
theorem v_X11_254 : VL RX11 254 mX11_adoptAtHandlers 0 := ⟨cl_X11_adoptAtHandlers, gw (i := 900) (by decide +kernel) (by decide +kernel), gw (i := 902) (by decide +kernel) (by decide +kernel), gw (i := 13) (by decide +kernel) (by decide +kernel)⟩
theorem v_X11_257 : VL RX11 257 mX11_adoptBehindEnds 0 := ⟨cl_X11_adoptBehindEnds, gw (i := 908) (by decide +kernel) (by decide +kernel), gw (i := 910) (by decide +kernel) (by decide +kernel), gw (i := 14) (by decide +kernel) (by decide +kernel)⟩
theorem v_X11_276 : VL RX11 276 mX1_protects 2 := ⟨cl_X1_protects, gw (i := 904) (by decide +kernel) (by decide +kernel), gw (i := 905) (by decide +kernel) (by decide +kernel), gw (i := 906) (by decide +kernel) (by decide +kernel)⟩
theorem v_X11_260 : VL RX11 260 mX4_contains 1 := ⟨cl_X4_contains, gw (i := 538) (by decide +kernel) (by decide +kernel), gw (i := 539) (by decide +kernel) (by decide +kernel), gw (i := 540) (by decide +kernel) (by decide +kernel)⟩
theorem f_X11_279_0 : FL RX11 279 0 9 := ⟨RX1, TX1, 12, "CodeVerifier$Code", rfl, by decide, ig_X1, gw (i := 261) (by decide +kernel) (by decide +kernel), Or.inl rfl⟩
theorem v_X11_272 : VL RX11 272 mX11_adoptAt 1 := ⟨cl_X11_adoptAt, gw (i := 896) (by decide +kernel) (by decide +kernel), gw (i := 898) (by decide +kernel) (by decide +kernel), gw (i := 12) (by decide +kernel) (by decide +kernel)⟩
theorem f_X11_285_3 : FL RX11 285 3 0 := ⟨RX4, TX4, 3, "CodeVerifier$FrameTable", rfl, by decide, ig_X4, gw (i := 346) (by decide +kernel) (by decide +kernel), Or.inl rfl⟩
theorem f_X11_263_0 : FL RX11 263 0 4 := ⟨RX1, TX1, 12, "CodeVerifier$Code", rfl, by decide, ig_X1, gw (i := 243) (by decide +kernel) (by decide +kernel), Or.inl rfl⟩
theorem s_X11_266 : SL RX11 266 mX9_jumps 1 := ⟨cl_X9_jumps, Or.inl (gw (i := 893) (by decide +kernel) (by decide +kernel)), gw (i := 894) (by decide +kernel) (by decide +kernel)⟩
theorem f_X11_269_0 : FL RX11 269 0 5 := ⟨RX1, TX1, 12, "CodeVerifier$Code", rfl, by decide, ig_X1, gw (i := 248) (by decide +kernel) (by decide +kernel), Or.inl rfl⟩
theorem s_X11_282 : SL RX11 282 mX9_fallsThrough 1 := ⟨cl_X9_fallsThrough, Or.inl (gw (i := 912) (by decide +kernel) (by decide +kernel)), gw (i := 913) (by decide +kernel) (by decide +kernel)⟩
theorem v_X11_289 : VL RX11 289 mX11_requireCode 0 := ⟨cl_X11_requireCode, gw (i := 922) (by decide +kernel) (by decide +kernel), gw (i := 924) (by decide +kernel) (by decide +kernel), gw (i := 15) (by decide +kernel) (by decide +kernel)⟩
theorem f_X11_59_9 : FL RX11 59 9 7 := ⟨RX11, TX11, 11, "CodeVerifier", rfl, by decide, ig_X11, gw (i := 493) (by decide +kernel) (by decide +kernel), Or.inl rfl⟩
theorem v_X11_292 : VL RX11 292 mX5_run 0 := ⟨cl_X5_run, gw (i := 927) (by decide +kernel) (by decide +kernel), gw (i := 928) (by decide +kernel) (by decide +kernel), gw (i := 929) (by decide +kernel) (by decide +kernel)⟩
theorem f_X11_296_4 : FL RX11 296 4 3 := ⟨RX5, TX5, 11, "CodeVerifier$Inference", rfl, by decide, ig_X5, gw (i := 432) (by decide +kernel) (by decide +kernel), Or.inr (gw (i := 433) (by decide +kernel) (by decide +kernel))⟩
theorem p_X11_70_9 : PL false RX11 70 9 9 (.int) := ⟨RX11, TX11, 11, "CodeVerifier", tyX11, rfl, by decide, ig_X11, gw (i := 495) (by decide +kernel) (by decide +kernel), Or.inl rfl, rfl, by decide +kernel, tyX11_ok, nmX11, fun h => by cases h⟩
theorem f_X11_299_4 : FL RX11 299 4 4 := ⟨RX5, TX5, 11, "CodeVerifier$Inference", rfl, by decide, ig_X5, gw (i := 436) (by decide +kernel) (by decide +kernel), Or.inr (gw (i := 437) (by decide +kernel) (by decide +kernel))⟩
theorem p_X11_73_9 : PL false RX11 73 9 10 (.int) := ⟨RX11, TX11, 11, "CodeVerifier", tyX11, rfl, by decide, ig_X11, gw (i := 496) (by decide +kernel) (by decide +kernel), Or.inl rfl, rfl, by decide +kernel, tyX11_ok, nmX11, fun h => by cases h⟩
theorem f_X11_66_9 : FL RX11 66 9 8 := ⟨RX11, TX11, 11, "CodeVerifier", rfl, by decide, ig_X11, gw (i := 494) (by decide +kernel) (by decide +kernel), Or.inl rfl⟩
theorem v_X11_302 : VL RX11 302 mX6_run 0 := ⟨cl_X6_run, gw (i := 1156) (by decide +kernel) (by decide +kernel), gw (i := 1157) (by decide +kernel) (by decide +kernel), gw (i := 1158) (by decide +kernel) (by decide +kernel)⟩
theorem f_X11_303_5 : FL RX11 303 5 3 := ⟨RX6, TX6, 10, "CodeVerifier$LinearCheck", rfl, by decide, ig_X6, gw (i := 434) (by decide +kernel) (by decide +kernel), Or.inr (gw (i := 431) (by decide +kernel) (by decide +kernel))⟩
theorem f_X11_304_5 : FL RX11 304 5 4 := ⟨RX6, TX6, 10, "CodeVerifier$LinearCheck", rfl, by decide, ig_X6, gw (i := 438) (by decide +kernel) (by decide +kernel), Or.inr (gw (i := 439) (by decide +kernel) (by decide +kernel))⟩
theorem f_X11_70_9 : FL RX11 70 9 9 := ⟨RX11, TX11, 11, "CodeVerifier", rfl, by decide, ig_X11, gw (i := 495) (by decide +kernel) (by decide +kernel), Or.inl rfl⟩
theorem f_X11_73_9 : FL RX11 73 9 10 := ⟨RX11, TX11, 11, "CodeVerifier", rfl, by decide, ig_X11, gw (i := 496) (by decide +kernel) (by decide +kernel), Or.inl rfl⟩
theorem v_X11_307 : VL RX11 307 mX11_requireIndex 1 := ⟨cl_X11_requireIndex, gw (i := 1182) (by decide +kernel) (by decide +kernel), gw (i := 1184) (by decide +kernel) (by decide +kernel), gw (i := 43) (by decide +kernel) (by decide +kernel)⟩
theorem v_X11_310 : VL RX11 310 mX11_requireFrame 1 := ⟨cl_X11_requireFrame, gw (i := 1193) (by decide +kernel) (by decide +kernel), gw (i := 1195) (by decide +kernel) (by decide +kernel), gw (i := 44) (by decide +kernel) (by decide +kernel)⟩
theorem f_X11_241_2 : FL RX11 241 2 3 := ⟨RX3, TX3, 4, "CodeVerifier$Frame", rfl, by decide, ig_X3, gw (i := 320) (by decide +kernel) (by decide +kernel), Or.inl rfl⟩
theorem c2_X11_322 : Cond.constantLong RX11 322 37 ∈ GW := gw (i := 536) (by decide +kernel) (by decide +kernel)
theorem c2_X11_324 : Cond.constantLong RX11 324 31 ∈ GW := gw (i := 537) (by decide +kernel) (by decide +kernel)
theorem v_X11_326 : VL RX11 326 mX11_addFrame 2 := ⟨cl_X11_addFrame, gw (i := 542) (by decide +kernel) (by decide +kernel), gw (i := 544) (by decide +kernel) (by decide +kernel), gw (i := 4) (by decide +kernel) (by decide +kernel)⟩
theorem f_X12_90_10 : FL RX12 90 10 0 := ⟨RX12, TX12, 44, "CodeVerifierModel", rfl, by decide, ig_X12, gw (i := 1243) (by decide +kernel) (by decide +kernel), Or.inl rfl⟩
theorem p_X12_90_10 : PL false RX12 90 10 0 (.int) := ⟨RX12, TX12, 44, "CodeVerifierModel", tyX12, rfl, by decide, ig_X12, gw (i := 1243) (by decide +kernel) (by decide +kernel), Or.inl rfl, rfl, by decide +kernel, tyX12_ok, nmX12, fun h => by cases h⟩
theorem f_X12_9_10 : FL RX12 9 10 1 := ⟨RX12, TX12, 44, "CodeVerifierModel", rfl, by decide, ig_X12, gw (i := 1244) (by decide +kernel) (by decide +kernel), Or.inl rfl⟩
theorem f_X12_17_10 : FL RX12 17 10 3 := ⟨RX12, TX12, 44, "CodeVerifierModel", rfl, by decide, ig_X12, gw (i := 1246) (by decide +kernel) (by decide +kernel), Or.inl rfl⟩
theorem v_X12_93 : VL RX12 93 mX12_isType 1 := ⟨cl_X12_isType, gw (i := 1388) (by decide +kernel) (by decide +kernel), gw (i := 1390) (by decide +kernel) (by decide +kernel), gw (i := 46) (by decide +kernel) (by decide +kernel)⟩
theorem v_X12_97 : VL RX12 97 mX12_isArray 1 := ⟨cl_X12_isArray, gw (i := 1416) (by decide +kernel) (by decide +kernel), gw (i := 1418) (by decide +kernel) (by decide +kernel), gw (i := 53) (by decide +kernel) (by decide +kernel)⟩
theorem v_X12_100 : VL RX12 100 mX12_isReferenceType 1 := ⟨cl_X12_isReferenceType, gw (i := 1404) (by decide +kernel) (by decide +kernel), gw (i := 1406) (by decide +kernel) (by decide +kernel), gw (i := 50) (by decide +kernel) (by decide +kernel)⟩
theorem v_X12_103 : VL RX12 103 mX12_isReference 1 := ⟨cl_X12_isReference, gw (i := 1400) (by decide +kernel) (by decide +kernel), gw (i := 1402) (by decide +kernel) (by decide +kernel), gw (i := 49) (by decide +kernel) (by decide +kernel)⟩
theorem f_X12_13_10 : FL RX12 13 10 2 := ⟨RX12, TX12, 44, "CodeVerifierModel", rfl, by decide, ig_X12, gw (i := 1245) (by decide +kernel) (by decide +kernel), Or.inl rfl⟩
theorem v_X12_109 : VL RX12 109 mX12_isClass 1 := ⟨cl_X12_isClass, gw (i := 1420) (by decide +kernel) (by decide +kernel), gw (i := 1422) (by decide +kernel) (by decide +kernel), gw (i := 54) (by decide +kernel) (by decide +kernel)⟩
theorem v_X12_112 : VL RX12 112 mX12_isAbove 2 := ⟨cl_X12_isAbove, gw (i := 1424) (by decide +kernel) (by decide +kernel), gw (i := 1426) (by decide +kernel) (by decide +kernel), gw (i := 55) (by decide +kernel) (by decide +kernel)⟩
theorem v_X12_106 : VL RX12 106 mX12_isRow 1 := ⟨cl_X12_isRow, gw (i := 1412) (by decide +kernel) (by decide +kernel), gw (i := 1414) (by decide +kernel) (by decide +kernel), gw (i := 52) (by decide +kernel) (by decide +kernel)⟩
theorem v_X12_116 : VL RX12 116 mX12_areAssignable 2 := ⟨cl_X12_areAssignable, gw (i := 1408) (by decide +kernel) (by decide +kernel), gw (i := 1410) (by decide +kernel) (by decide +kernel), gw (i := 51) (by decide +kernel) (by decide +kernel)⟩
theorem v_X12_119 : VL RX12 119 mX12_joined 2 := ⟨cl_X12_joined, gw (i := 1436) (by decide +kernel) (by decide +kernel), gw (i := 1438) (by decide +kernel) (by decide +kernel), gw (i := 57) (by decide +kernel) (by decide +kernel)⟩
theorem v_X12_123 : VL RX12 123 mX12_isSlotValue 1 := ⟨cl_X12_isSlotValue, gw (i := 1384) (by decide +kernel) (by decide +kernel), gw (i := 1386) (by decide +kernel) (by decide +kernel), gw (i := 45) (by decide +kernel) (by decide +kernel)⟩
theorem v_X12_126 : VL RX12 126 mX12_no 1 := ⟨cl_X12_no, gw (i := 1392) (by decide +kernel) (by decide +kernel), gw (i := 1394) (by decide +kernel) (by decide +kernel), gw (i := 47) (by decide +kernel) (by decide +kernel)⟩
theorem v_X12_130 : VL RX12 130 mX12_fits 2 := ⟨cl_X12_fits, gw (i := 1396) (by decide +kernel) (by decide +kernel), gw (i := 1398) (by decide +kernel) (by decide +kernel), gw (i := 48) (by decide +kernel) (by decide +kernel)⟩
theorem v_X12_133 : VL RX12 133 mX12_meet 2 := ⟨cl_X12_meet, gw (i := 1432) (by decide +kernel) (by decide +kernel), gw (i := 1434) (by decide +kernel) (by decide +kernel), gw (i := 56) (by decide +kernel) (by decide +kernel)⟩
theorem p_X12_9_10 : PL false RX12 9 10 1 (.int) := ⟨RX12, TX12, 44, "CodeVerifierModel", tyX12, rfl, by decide, ig_X12, gw (i := 1244) (by decide +kernel) (by decide +kernel), Or.inl rfl, rfl, by decide +kernel, tyX12_ok, nmX12, fun h => by cases h⟩
theorem f_X12_136_10 : FL RX12 136 10 4 := ⟨RX12, TX12, 44, "CodeVerifierModel", rfl, by decide, ig_X12, gw (i := 1247) (by decide +kernel) (by decide +kernel), Or.inl rfl⟩
theorem f_X12_21_10 : FL RX12 21 10 5 := ⟨RX12, TX12, 44, "CodeVerifierModel", rfl, by decide, ig_X12, gw (i := 1248) (by decide +kernel) (by decide +kernel), Or.inl rfl⟩
theorem f_X12_24_10 : FL RX12 24 10 6 := ⟨RX12, TX12, 44, "CodeVerifierModel", rfl, by decide, ig_X12, gw (i := 1249) (by decide +kernel) (by decide +kernel), Or.inl rfl⟩
theorem p_X12_136_10 : PL false RX12 136 10 4 (.int) := ⟨RX12, TX12, 44, "CodeVerifierModel", tyX12, rfl, by decide, ig_X12, gw (i := 1247) (by decide +kernel) (by decide +kernel), Or.inl rfl, rfl, by decide +kernel, tyX12_ok, nmX12, fun h => by cases h⟩
theorem f_X12_139_10 : FL RX12 139 10 13 := ⟨RX12, TX12, 44, "CodeVerifierModel", rfl, by decide, ig_X12, gw (i := 1256) (by decide +kernel) (by decide +kernel), Or.inl rfl⟩
theorem f_X12_42_10 : FL RX12 42 10 14 := ⟨RX12, TX12, 44, "CodeVerifierModel", rfl, by decide, ig_X12, gw (i := 1257) (by decide +kernel) (by decide +kernel), Or.inl rfl⟩
theorem s_X12_142 : SL RX12 142 mX12_wide 1 := ⟨cl_X12_wide, Or.inl (gw (i := 1456) (by decide +kernel) (by decide +kernel)), gw (i := 1457) (by decide +kernel) (by decide +kernel)⟩
theorem v_X12_145 : VL RX12 145 mX12_pendingSlots 0 := ⟨cl_X12_pendingSlots, gw (i := 1452) (by decide +kernel) (by decide +kernel), gw (i := 1454) (by decide +kernel) (by decide +kernel), gw (i := 58) (by decide +kernel) (by decide +kernel)⟩
theorem p_X12_139_10 : PL false RX12 139 10 13 (.int) := ⟨RX12, TX12, 44, "CodeVerifierModel", tyX12, rfl, by decide, ig_X12, gw (i := 1256) (by decide +kernel) (by decide +kernel), Or.inl rfl, rfl, by decide +kernel, tyX12_ok, nmX12, fun h => by cases h⟩
theorem f_X12_149_10 : FL RX12 149 10 7 := ⟨RX12, TX12, 44, "CodeVerifierModel", rfl, by decide, ig_X12, gw (i := 1250) (by decide +kernel) (by decide +kernel), Or.inl rfl⟩
theorem f_X12_27_10 : FL RX12 27 10 8 := ⟨RX12, TX12, 44, "CodeVerifierModel", rfl, by decide, ig_X12, gw (i := 1251) (by decide +kernel) (by decide +kernel), Or.inl rfl⟩
theorem f_X12_30_10 : FL RX12 30 10 9 := ⟨RX12, TX12, 44, "CodeVerifierModel", rfl, by decide, ig_X12, gw (i := 1252) (by decide +kernel) (by decide +kernel), Or.inl rfl⟩
theorem f_X12_33_10 : FL RX12 33 10 10 := ⟨RX12, TX12, 44, "CodeVerifierModel", rfl, by decide, ig_X12, gw (i := 1253) (by decide +kernel) (by decide +kernel), Or.inl rfl⟩
theorem f_X12_36_10 : FL RX12 36 10 11 := ⟨RX12, TX12, 44, "CodeVerifierModel", rfl, by decide, ig_X12, gw (i := 1254) (by decide +kernel) (by decide +kernel), Or.inl rfl⟩
theorem p_X12_149_10 : PL false RX12 149 10 7 (.int) := ⟨RX12, TX12, 44, "CodeVerifierModel", tyX12, rfl, by decide, ig_X12, gw (i := 1250) (by decide +kernel) (by decide +kernel), Or.inl rfl, rfl, by decide +kernel, tyX12_ok, nmX12, fun h => by cases h⟩
theorem f_X12_39_10 : FL RX12 39 10 12 := ⟨RX12, TX12, 44, "CodeVerifierModel", rfl, by decide, ig_X12, gw (i := 1255) (by decide +kernel) (by decide +kernel), Or.inl rfl⟩
theorem p_X12_152_10 : PL false RX12 152 10 15 (.boolean) := ⟨RX12, TX12, 44, "CodeVerifierModel", tyX12, rfl, by decide, ig_X12, gw (i := 1258) (by decide +kernel) (by decide +kernel), Or.inl rfl, rfl, by decide +kernel, tyX12_ok, nmX12, fun h => by cases h⟩
theorem p_X12_156_10 : PL false RX12 156 10 16 (.int) := ⟨RX12, TX12, 44, "CodeVerifierModel", tyX12, rfl, by decide, ig_X12, gw (i := 1259) (by decide +kernel) (by decide +kernel), Or.inl rfl, rfl, by decide +kernel, tyX12_ok, nmX12, fun h => by cases h⟩
theorem p_X12_159_10 : PL false RX12 159 10 17 (.int) := ⟨RX12, TX12, 44, "CodeVerifierModel", tyX12, rfl, by decide, ig_X12, gw (i := 1260) (by decide +kernel) (by decide +kernel), Or.inl rfl, rfl, by decide +kernel, tyX12_ok, nmX12, fun h => by cases h⟩
theorem p_X12_162_10 : PL false RX12 162 10 18 (.int) := ⟨RX12, TX12, 44, "CodeVerifierModel", tyX12, rfl, by decide, ig_X12, gw (i := 1261) (by decide +kernel) (by decide +kernel), Or.inl rfl, rfl, by decide +kernel, tyX12_ok, nmX12, fun h => by cases h⟩
theorem p_X12_165_10 : PL false RX12 165 10 19 (.int) := ⟨RX12, TX12, 44, "CodeVerifierModel", tyX12, rfl, by decide, ig_X12, gw (i := 1262) (by decide +kernel) (by decide +kernel), Or.inl rfl, rfl, by decide +kernel, tyX12_ok, nmX12, fun h => by cases h⟩
theorem p_X12_168_10 : PL false RX12 168 10 22 (.int) := ⟨RX12, TX12, 44, "CodeVerifierModel", tyX12, rfl, by decide, ig_X12, gw (i := 1265) (by decide +kernel) (by decide +kernel), Or.inl rfl, rfl, by decide +kernel, tyX12_ok, nmX12, fun h => by cases h⟩
theorem v_X12_171 : VL RX12 171 mX12_discard 0 := ⟨cl_X12_discard, gw (i := 1467) (by decide +kernel) (by decide +kernel), gw (i := 1469) (by decide +kernel) (by decide +kernel), gw (i := 59) (by decide +kernel) (by decide +kernel)⟩
theorem f_X12_156_10 : FL RX12 156 10 16 := ⟨RX12, TX12, 44, "CodeVerifierModel", rfl, by decide, ig_X12, gw (i := 1259) (by decide +kernel) (by decide +kernel), Or.inl rfl⟩
theorem v_X12_174 : VL RX12 174 mX12_needed 1 := ⟨cl_X12_needed, gw (i := 1471) (by decide +kernel) (by decide +kernel), gw (i := 1473) (by decide +kernel) (by decide +kernel), gw (i := 60) (by decide +kernel) (by decide +kernel)⟩
theorem f_X12_69_10 : FL RX12 69 10 30 := ⟨RX12, TX12, 44, "CodeVerifierModel", rfl, by decide, ig_X12, gw (i := 1273) (by decide +kernel) (by decide +kernel), Or.inl rfl⟩
theorem p_X12_177_10 : PL false RX12 177 10 27 (.boolean) := ⟨RX12, TX12, 44, "CodeVerifierModel", tyX12, rfl, by decide, ig_X12, gw (i := 1270) (by decide +kernel) (by decide +kernel), Or.inl rfl, rfl, by decide +kernel, tyX12_ok, nmX12, fun h => by cases h⟩
theorem f_X12_63_10 : FL RX12 63 10 28 := ⟨RX12, TX12, 44, "CodeVerifierModel", rfl, by decide, ig_X12, gw (i := 1271) (by decide +kernel) (by decide +kernel), Or.inl rfl⟩
theorem f_X12_152_10 : FL RX12 152 10 15 := ⟨RX12, TX12, 44, "CodeVerifierModel", rfl, by decide, ig_X12, gw (i := 1258) (by decide +kernel) (by decide +kernel), Or.inl rfl⟩
theorem f_X12_165_10 : FL RX12 165 10 19 := ⟨RX12, TX12, 44, "CodeVerifierModel", rfl, by decide, ig_X12, gw (i := 1262) (by decide +kernel) (by decide +kernel), Or.inl rfl⟩
theorem f_X12_45_10 : FL RX12 45 10 20 := ⟨RX12, TX12, 44, "CodeVerifierModel", rfl, by decide, ig_X12, gw (i := 1263) (by decide +kernel) (by decide +kernel), Or.inl rfl⟩
theorem f_X12_48_10 : FL RX12 48 10 21 := ⟨RX12, TX12, 44, "CodeVerifierModel", rfl, by decide, ig_X12, gw (i := 1264) (by decide +kernel) (by decide +kernel), Or.inl rfl⟩
theorem f_X12_168_10 : FL RX12 168 10 22 := ⟨RX12, TX12, 44, "CodeVerifierModel", rfl, by decide, ig_X12, gw (i := 1265) (by decide +kernel) (by decide +kernel), Or.inl rfl⟩
theorem f_X12_51_10 : FL RX12 51 10 23 := ⟨RX12, TX12, 44, "CodeVerifierModel", rfl, by decide, ig_X12, gw (i := 1266) (by decide +kernel) (by decide +kernel), Or.inl rfl⟩
theorem f_X12_54_10 : FL RX12 54 10 24 := ⟨RX12, TX12, 44, "CodeVerifierModel", rfl, by decide, ig_X12, gw (i := 1267) (by decide +kernel) (by decide +kernel), Or.inl rfl⟩
theorem f_X12_57_10 : FL RX12 57 10 25 := ⟨RX12, TX12, 44, "CodeVerifierModel", rfl, by decide, ig_X12, gw (i := 1268) (by decide +kernel) (by decide +kernel), Or.inl rfl⟩
theorem f_X12_60_10 : FL RX12 60 10 26 := ⟨RX12, TX12, 44, "CodeVerifierModel", rfl, by decide, ig_X12, gw (i := 1269) (by decide +kernel) (by decide +kernel), Or.inl rfl⟩
theorem f_X12_180_10 : FL RX12 180 10 32 := ⟨RX12, TX12, 44, "CodeVerifierModel", rfl, by decide, ig_X12, gw (i := 1275) (by decide +kernel) (by decide +kernel), Or.inl rfl⟩
theorem f_X12_75_10 : FL RX12 75 10 34 := ⟨RX12, TX12, 44, "CodeVerifierModel", rfl, by decide, ig_X12, gw (i := 1277) (by decide +kernel) (by decide +kernel), Or.inl rfl⟩
theorem p_X12_180_10 : PL false RX12 180 10 32 (.int) := ⟨RX12, TX12, 44, "CodeVerifierModel", tyX12, rfl, by decide, ig_X12, gw (i := 1275) (by decide +kernel) (by decide +kernel), Or.inl rfl, rfl, by decide +kernel, tyX12_ok, nmX12, fun h => by cases h⟩
theorem f_X12_183_10 : FL RX12 183 10 33 := ⟨RX12, TX12, 44, "CodeVerifierModel", rfl, by decide, ig_X12, gw (i := 1276) (by decide +kernel) (by decide +kernel), Or.inl rfl⟩
theorem p_X12_183_10 : PL false RX12 183 10 33 (.int) := ⟨RX12, TX12, 44, "CodeVerifierModel", tyX12, rfl, by decide, ig_X12, gw (i := 1276) (by decide +kernel) (by decide +kernel), Or.inl rfl, rfl, by decide +kernel, tyX12_ok, nmX12, fun h => by cases h⟩
theorem f_X12_162_10 : FL RX12 162 10 18 := ⟨RX12, TX12, 44, "CodeVerifierModel", rfl, by decide, ig_X12, gw (i := 1261) (by decide +kernel) (by decide +kernel), Or.inl rfl⟩
theorem f_X12_159_10 : FL RX12 159 10 17 := ⟨RX12, TX12, 44, "CodeVerifierModel", rfl, by decide, ig_X12, gw (i := 1260) (by decide +kernel) (by decide +kernel), Or.inl rfl⟩
theorem v_X12_186 : VL RX12 186 mX12_isPaired 2 := ⟨cl_X12_isPaired, gw (i := 1499) (by decide +kernel) (by decide +kernel), gw (i := 1501) (by decide +kernel) (by decide +kernel), gw (i := 61) (by decide +kernel) (by decide +kernel)⟩
theorem f_X12_72_10 : FL RX12 72 10 31 := ⟨RX12, TX12, 44, "CodeVerifierModel", rfl, by decide, ig_X12, gw (i := 1274) (by decide +kernel) (by decide +kernel), Or.inl rfl⟩
theorem v_X12_189 : VL RX12 189 mX12_declaredCount 0 := ⟨cl_X12_declaredCount, gw (i := 1503) (by decide +kernel) (by decide +kernel), gw (i := 1505) (by decide +kernel) (by decide +kernel), gw (i := 62) (by decide +kernel) (by decide +kernel)⟩
theorem f_X12_66_10 : FL RX12 66 10 29 := ⟨RX12, TX12, 44, "CodeVerifierModel", rfl, by decide, ig_X12, gw (i := 1272) (by decide +kernel) (by decide +kernel), Or.inl rfl⟩
theorem f_X12_177_10 : FL RX12 177 10 27 := ⟨RX12, TX12, 44, "CodeVerifierModel", rfl, by decide, ig_X12, gw (i := 1270) (by decide +kernel) (by decide +kernel), Or.inl rfl⟩
theorem v_X12_195 : VL RX12 195 mX12_adopt 1 := ⟨cl_X12_adopt, gw (i := 1514) (by decide +kernel) (by decide +kernel), gw (i := 1516) (by decide +kernel) (by decide +kernel), gw (i := 63) (by decide +kernel) (by decide +kernel)⟩
theorem s_X12_199 : SL RX12 199 mX12_goesOn 1 := ⟨cl_X12_goesOn, Or.inl (gw (i := 1518) (by decide +kernel) (by decide +kernel)), gw (i := 1519) (by decide +kernel) (by decide +kernel)⟩
theorem s_X12_192 : SL RX12 192 mX12_isJump 1 := ⟨cl_X12_isJump, Or.inl (gw (i := 1511) (by decide +kernel) (by decide +kernel)), gw (i := 1512) (by decide +kernel) (by decide +kernel)⟩
theorem f_X12_202_10 : FL RX12 202 10 35 := ⟨RX12, TX12, 44, "CodeVerifierModel", rfl, by decide, ig_X12, gw (i := 1278) (by decide +kernel) (by decide +kernel), Or.inl rfl⟩
theorem p_X12_202_10 : PL false RX12 202 10 35 (.int) := ⟨RX12, TX12, 44, "CodeVerifierModel", tyX12, rfl, by decide, ig_X12, gw (i := 1278) (by decide +kernel) (by decide +kernel), Or.inl rfl, rfl, by decide +kernel, tyX12_ok, nmX12, fun h => by cases h⟩
theorem p_X12_78_10 : PL false RX12 78 10 36 (.int) := ⟨RX12, TX12, 44, "CodeVerifierModel", tyX12, rfl, by decide, ig_X12, gw (i := 1279) (by decide +kernel) (by decide +kernel), Or.inl rfl, rfl, by decide +kernel, tyX12_ok, nmX12, fun h => by cases h⟩
theorem p_X12_205_10 : PL false RX12 205 10 37 (.int) := ⟨RX12, TX12, 44, "CodeVerifierModel", tyX12, rfl, by decide, ig_X12, gw (i := 1280) (by decide +kernel) (by decide +kernel), Or.inl rfl, rfl, by decide +kernel, tyX12_ok, nmX12, fun h => by cases h⟩
theorem v_X12_208 : VL RX12 208 mX12_fail 2 := ⟨cl_X12_fail, gw (i := 1529) (by decide +kernel) (by decide +kernel), gw (i := 1531) (by decide +kernel) (by decide +kernel), gw (i := 65) (by decide +kernel) (by decide +kernel)⟩
theorem v_X12_215 : VL RX12 215 mX12_isHandler 1 := ⟨cl_X12_isHandler, gw (i := 1537) (by decide +kernel) (by decide +kernel), gw (i := 1539) (by decide +kernel) (by decide +kernel), gw (i := 67) (by decide +kernel) (by decide +kernel)⟩
theorem v_X12_212 : VL RX12 212 mX12_isOperand 2 := ⟨cl_X12_isOperand, gw (i := 1533) (by decide +kernel) (by decide +kernel), gw (i := 1535) (by decide +kernel) (by decide +kernel), gw (i := 66) (by decide +kernel) (by decide +kernel)⟩
theorem f_X12_81_10 : FL RX12 81 10 39 := ⟨RX12, TX12, 44, "CodeVerifierModel", rfl, by decide, ig_X12, gw (i := 1282) (by decide +kernel) (by decide +kernel), Or.inl rfl⟩
theorem v_X12_218 : VL RX12 218 mX12_isWell 0 := ⟨cl_X12_isWell, gw (i := 1541) (by decide +kernel) (by decide +kernel), gw (i := 1543) (by decide +kernel) (by decide +kernel), gw (i := 68) (by decide +kernel) (by decide +kernel)⟩
theorem f_X12_222_10 : FL RX12 222 10 43 := ⟨RX12, TX12, 44, "CodeVerifierModel", rfl, by decide, ig_X12, gw (i := 1286) (by decide +kernel) (by decide +kernel), Or.inl rfl⟩
theorem v_X12_225 : VL RX12 225 mX12_has 1 := ⟨cl_X12_has, gw (i := 1604) (by decide +kernel) (by decide +kernel), gw (i := 1606) (by decide +kernel) (by decide +kernel), gw (i := 83) (by decide +kernel) (by decide +kernel)⟩
theorem v_X12_235 : VL RX12 235 mX12_drop 1 := ⟨cl_X12_drop, gw (i := 1616) (by decide +kernel) (by decide +kernel), gw (i := 1618) (by decide +kernel) (by decide +kernel), gw (i := 86) (by decide +kernel) (by decide +kernel)⟩
theorem v_X12_228 : VL RX12 228 mX12_top 1 := ⟨cl_X12_top, gw (i := 1608) (by decide +kernel) (by decide +kernel), gw (i := 1610) (by decide +kernel) (by decide +kernel), gw (i := 84) (by decide +kernel) (by decide +kernel)⟩
theorem v_X12_231 : VL RX12 231 mX12_require 1 := ⟨cl_X12_require, gw (i := 1612) (by decide +kernel) (by decide +kernel), gw (i := 1614) (by decide +kernel) (by decide +kernel), gw (i := 85) (by decide +kernel) (by decide +kernel)⟩
theorem v_X12_238 : VL RX12 238 mX12_isAnyReference 1 := ⟨cl_X12_isAnyReference, gw (i := 1596) (by decide +kernel) (by decide +kernel), gw (i := 1598) (by decide +kernel) (by decide +kernel), gw (i := 81) (by decide +kernel) (by decide +kernel)⟩
theorem v_X12_241 : VL RX12 241 mX12_popLong 0 := ⟨cl_X12_popLong, gw (i := 1624) (by decide +kernel) (by decide +kernel), gw (i := 1626) (by decide +kernel) (by decide +kernel), gw (i := 88) (by decide +kernel) (by decide +kernel)⟩
theorem v_X12_244 : VL RX12 244 mX12_popType 1 := ⟨cl_X12_popType, gw (i := 1664) (by decide +kernel) (by decide +kernel), gw (i := 1666) (by decide +kernel) (by decide +kernel), gw (i := 98) (by decide +kernel) (by decide +kernel)⟩
theorem v_X12_247 : VL RX12 247 mX12_push 1 := ⟨cl_X12_push, gw (i := 1584) (by decide +kernel) (by decide +kernel), gw (i := 1586) (by decide +kernel) (by decide +kernel), gw (i := 78) (by decide +kernel) (by decide +kernel)⟩
theorem v_X12_250 : VL RX12 250 mX12_setLocal 2 := ⟨cl_X12_setLocal, gw (i := 1620) (by decide +kernel) (by decide +kernel), gw (i := 1622) (by decide +kernel) (by decide +kernel), gw (i := 87) (by decide +kernel) (by decide +kernel)⟩
theorem v_X12_268 : VL RX12 268 mX12_useArray 2 := ⟨cl_X12_useArray, gw (i := 1688) (by decide +kernel) (by decide +kernel), gw (i := 1690) (by decide +kernel) (by decide +kernel), gw (i := 104) (by decide +kernel) (by decide +kernel)⟩
theorem v_X12_265 : VL RX12 265 mX12_useObject 2 := ⟨cl_X12_useObject, gw (i := 1656) (by decide +kernel) (by decide +kernel), gw (i := 1658) (by decide +kernel) (by decide +kernel), gw (i := 96) (by decide +kernel) (by decide +kernel)⟩
theorem v_X12_262 : VL RX12 262 mX12_leave 1 := ⟨cl_X12_leave, gw (i := 1648) (by decide +kernel) (by decide +kernel), gw (i := 1650) (by decide +kernel) (by decide +kernel), gw (i := 94) (by decide +kernel) (by decide +kernel)⟩
theorem v_X12_259 : VL RX12 259 mX12_compute 2 := ⟨cl_X12_compute, gw (i := 1644) (by decide +kernel) (by decide +kernel), gw (i := 1646) (by decide +kernel) (by decide +kernel), gw (i := 93) (by decide +kernel) (by decide +kernel)⟩
theorem v_X12_256 : VL RX12 256 mX12_shuffle 1 := ⟨cl_X12_shuffle, gw (i := 1636) (by decide +kernel) (by decide +kernel), gw (i := 1638) (by decide +kernel) (by decide +kernel), gw (i := 91) (by decide +kernel) (by decide +kernel)⟩
theorem v_X12_253 : VL RX12 253 mX12_move 2 := ⟨cl_X12_move, gw (i := 1580) (by decide +kernel) (by decide +kernel), gw (i := 1582) (by decide +kernel) (by decide +kernel), gw (i := 77) (by decide +kernel) (by decide +kernel)⟩
theorem v_X12_277 : VL RX12 277 mX12_popInt 0 := ⟨cl_X12_popInt, gw (i := 1600) (by decide +kernel) (by decide +kernel), gw (i := 1602) (by decide +kernel) (by decide +kernel), gw (i := 82) (by decide +kernel) (by decide +kernel)⟩
theorem v_X12_271 : VL RX12 271 mX12_pushType 1 := ⟨cl_X12_pushType, gw (i := 1588) (by decide +kernel) (by decide +kernel), gw (i := 1590) (by decide +kernel) (by decide +kernel), gw (i := 79) (by decide +kernel) (by decide +kernel)⟩
theorem v_X12_274 : VL RX12 274 mX12_look 1 := ⟨cl_X12_look, gw (i := 1592) (by decide +kernel) (by decide +kernel), gw (i := 1594) (by decide +kernel) (by decide +kernel), gw (i := 80) (by decide +kernel) (by decide +kernel)⟩
theorem v_X12_283 : VL RX12 283 mX12_popAnyReference 0 := ⟨cl_X12_popAnyReference, gw (i := 1632) (by decide +kernel) (by decide +kernel), gw (i := 1634) (by decide +kernel) (by decide +kernel), gw (i := 90) (by decide +kernel) (by decide +kernel)⟩
theorem v_X12_289 : VL RX12 289 mX12_popReference 0 := ⟨cl_X12_popReference, gw (i := 1652) (by decide +kernel) (by decide +kernel), gw (i := 1654) (by decide +kernel) (by decide +kernel), gw (i := 95) (by decide +kernel) (by decide +kernel)⟩
theorem v_X12_280 : VL RX12 280 mX12_storeLong 1 := ⟨cl_X12_storeLong, gw (i := 1628) (by decide +kernel) (by decide +kernel), gw (i := 1630) (by decide +kernel) (by decide +kernel), gw (i := 89) (by decide +kernel) (by decide +kernel)⟩
theorem v_X12_286 : VL RX12 286 mX12_popSlot 0 := ⟨cl_X12_popSlot, gw (i := 1640) (by decide +kernel) (by decide +kernel), gw (i := 1642) (by decide +kernel) (by decide +kernel), gw (i := 92) (by decide +kernel) (by decide +kernel)⟩
theorem v_X12_310 : VL RX12 310 mX12_popInts 0 := ⟨cl_X12_popInts, gw (i := 1692) (by decide +kernel) (by decide +kernel), gw (i := 1694) (by decide +kernel) (by decide +kernel), gw (i := 105) (by decide +kernel) (by decide +kernel)⟩
theorem v_X12_313 : VL RX12 313 mX12_popRow 0 := ⟨cl_X12_popRow, gw (i := 1696) (by decide +kernel) (by decide +kernel), gw (i := 1698) (by decide +kernel) (by decide +kernel), gw (i := 106) (by decide +kernel) (by decide +kernel)⟩
theorem v_X12_292 : VL RX12 292 mX12_popObject 1 := ⟨cl_X12_popObject, gw (i := 1660) (by decide +kernel) (by decide +kernel), gw (i := 1662) (by decide +kernel) (by decide +kernel), gw (i := 97) (by decide +kernel) (by decide +kernel)⟩
theorem v_X12_295 : VL RX12 295 mX12_create 1 := ⟨cl_X12_create, gw (i := 1668) (by decide +kernel) (by decide +kernel), gw (i := 1670) (by decide +kernel) (by decide +kernel), gw (i := 99) (by decide +kernel) (by decide +kernel)⟩
theorem v_X12_298 : VL RX12 298 mX12_construct 1 := ⟨cl_X12_construct, gw (i := 1672) (by decide +kernel) (by decide +kernel), gw (i := 1674) (by decide +kernel) (by decide +kernel), gw (i := 100) (by decide +kernel) (by decide +kernel)⟩
theorem v_X12_301 : VL RX12 301 mX12_popArguments 1 := ⟨cl_X12_popArguments, gw (i := 1676) (by decide +kernel) (by decide +kernel), gw (i := 1678) (by decide +kernel) (by decide +kernel), gw (i := 101) (by decide +kernel) (by decide +kernel)⟩
theorem v_X12_307 : VL RX12 307 mX12_replace 2 := ⟨cl_X12_replace, gw (i := 1684) (by decide +kernel) (by decide +kernel), gw (i := 1686) (by decide +kernel) (by decide +kernel), gw (i := 103) (by decide +kernel) (by decide +kernel)⟩
theorem v_X12_304 : VL RX12 304 mX12_isToConstruct 2 := ⟨cl_X12_isToConstruct, gw (i := 1680) (by decide +kernel) (by decide +kernel), gw (i := 1682) (by decide +kernel) (by decide +kernel), gw (i := 102) (by decide +kernel) (by decide +kernel)⟩
theorem f_X12_316_10 : FL RX12 316 10 38 := ⟨RX12, TX12, 44, "CodeVerifierModel", rfl, by decide, ig_X12, gw (i := 1281) (by decide +kernel) (by decide +kernel), Or.inl rfl⟩
theorem v_X12_323 : VL RX12 323 mX12_fitsFrame 3 := ⟨cl_X12_fitsFrame, gw (i := 1572) (by decide +kernel) (by decide +kernel), gw (i := 1574) (by decide +kernel) (by decide +kernel), gw (i := 75) (by decide +kernel) (by decide +kernel)⟩
theorem v_X12_319 : VL RX12 319 mX12_merge 2 := ⟨cl_X12_merge, gw (i := 1553) (by decide +kernel) (by decide +kernel), gw (i := 1555) (by decide +kernel) (by decide +kernel), gw (i := 71) (by decide +kernel) (by decide +kernel)⟩
theorem f_X12_87_10 : FL RX12 87 10 42 := ⟨RX12, TX12, 44, "CodeVerifierModel", rfl, by decide, ig_X12, gw (i := 1285) (by decide +kernel) (by decide +kernel), Or.inl rfl⟩
theorem h_X12_327 : MLk RX12 327 Lib.Math.max.name Lib.Math.max.code := ⟨gw (i := 1557) (by decide +kernel) (by decide +kernel), gw (i := 1558) (by decide +kernel) (by decide +kernel), gw (i := 129) (by decide +kernel) (by decide +kernel), gw (i := 1559) (by decide +kernel) (by decide +kernel)⟩
theorem p_X12_222_10 : PL false RX12 222 10 43 (.int) := ⟨RX12, TX12, 44, "CodeVerifierModel", tyX12, rfl, by decide, ig_X12, gw (i := 1286) (by decide +kernel) (by decide +kernel), Or.inl rfl, rfl, by decide +kernel, tyX12_ok, nmX12, fun h => by cases h⟩
theorem f_X12_205_10 : FL RX12 205 10 37 := ⟨RX12, TX12, 44, "CodeVerifierModel", rfl, by decide, ig_X12, gw (i := 1280) (by decide +kernel) (by decide +kernel), Or.inl rfl⟩
theorem v_X12_332 : VL RX12 332 mX12_flow 2 := ⟨cl_X12_flow, gw (i := 1568) (by decide +kernel) (by decide +kernel), gw (i := 1570) (by decide +kernel) (by decide +kernel), gw (i := 74) (by decide +kernel) (by decide +kernel)⟩
theorem p_X12_338_10 : PL false RX12 338 10 41 (.boolean) := ⟨RX12, TX12, 44, "CodeVerifierModel", tyX12, rfl, by decide, ig_X12, gw (i := 1284) (by decide +kernel) (by decide +kernel), Or.inl rfl, rfl, by decide +kernel, tyX12_ok, nmX12, fun h => by cases h⟩
theorem v_X12_335 : VL RX12 335 mX12_execute 0 := ⟨cl_X12_execute, gw (i := 1576) (by decide +kernel) (by decide +kernel), gw (i := 1578) (by decide +kernel) (by decide +kernel), gw (i := 76) (by decide +kernel) (by decide +kernel)⟩
theorem f_X12_84_10 : FL RX12 84 10 40 := ⟨RX12, TX12, 44, "CodeVerifierModel", rfl, by decide, ig_X12, gw (i := 1283) (by decide +kernel) (by decide +kernel), Or.inl rfl⟩
theorem p_X12_316_10 : PL false RX12 316 10 38 (.boolean) := ⟨RX12, TX12, 44, "CodeVerifierModel", tyX12, rfl, by decide, ig_X12, gw (i := 1281) (by decide +kernel) (by decide +kernel), Or.inl rfl, rfl, by decide +kernel, tyX12_ok, nmX12, fun h => by cases h⟩
theorem v_X12_341 : VL RX12 341 mX12_examine 0 := ⟨cl_X12_examine, gw (i := 1525) (by decide +kernel) (by decide +kernel), gw (i := 1527) (by decide +kernel) (by decide +kernel), gw (i := 64) (by decide +kernel) (by decide +kernel)⟩
theorem v_X12_344 : VL RX12 344 mX12_run 0 := ⟨cl_X12_run, gw (i := 1545) (by decide +kernel) (by decide +kernel), gw (i := 1547) (by decide +kernel) (by decide +kernel), gw (i := 69) (by decide +kernel) (by decide +kernel)⟩
theorem v_X12_347 : VL RX12 347 mX12_setFirst 0 := ⟨cl_X12_setFirst, gw (i := 1549) (by decide +kernel) (by decide +kernel), gw (i := 1551) (by decide +kernel) (by decide +kernel), gw (i := 70) (by decide +kernel) (by decide +kernel)⟩
theorem v_X12_350 : VL RX12 350 mX12_nextPending 0 := ⟨cl_X12_nextPending, gw (i := 1560) (by decide +kernel) (by decide +kernel), gw (i := 1562) (by decide +kernel) (by decide +kernel), gw (i := 72) (by decide +kernel) (by decide +kernel)⟩
theorem v_X12_353 : VL RX12 353 mX12_process 1 := ⟨cl_X12_process, gw (i := 1564) (by decide +kernel) (by decide +kernel), gw (i := 1566) (by decide +kernel) (by decide +kernel), gw (i := 73) (by decide +kernel) (by decide +kernel)⟩
theorem v_X12_356 : VL RX12 356 mX12_enter 1 := ⟨cl_X12_enter, gw (i := 1704) (by decide +kernel) (by decide +kernel), gw (i := 1706) (by decide +kernel) (by decide +kernel), gw (i := 107) (by decide +kernel) (by decide +kernel)⟩
theorem f_X12_338_10 : FL RX12 338 10 41 := ⟨RX12, TX12, 44, "CodeVerifierModel", rfl, by decide, ig_X12, gw (i := 1284) (by decide +kernel) (by decide +kernel), Or.inl rfl⟩
theorem f_X12_78_10 : FL RX12 78 10 36 := ⟨RX12, TX12, 44, "CodeVerifierModel", rfl, by decide, ig_X12, gw (i := 1279) (by decide +kernel) (by decide +kernel), Or.inl rfl⟩
theorem v_X12_359 : VL RX12 359 mX12_isIndex 1 := ⟨cl_X12_isIndex, gw (i := 1720) (by decide +kernel) (by decide +kernel), gw (i := 1722) (by decide +kernel) (by decide +kernel), gw (i := 108) (by decide +kernel) (by decide +kernel)⟩
theorem v_X12_362 : VL RX12 362 mX12_isLooked 1 := ⟨cl_X12_isLooked, gw (i := 1728) (by decide +kernel) (by decide +kernel), gw (i := 1730) (by decide +kernel) (by decide +kernel), gw (i := 109) (by decide +kernel) (by decide +kernel)⟩
theorem c2_X12_365 : Cond.constantLong RX12 365 1147 ∈ GW := gw (i := 1748) (by decide +kernel) (by decide +kernel)
theorem c2_X12_367 : Cond.constantLong RX12 367 31 ∈ GW := gw (i := 1749) (by decide +kernel) (by decide +kernel)
theorem j_ls3 {a1 a2 a3 b1 b2 b3 d x : Int} (h1 : ¬ x = a1) (h2 : ¬ x = a2) (h3 : ¬ x = a3) : Op.lookupswitch.offset [(a1, b1), (a2, b2), (a3, b3)] d x = d := by
  simp [Op.lookupswitch.offset, List.find?, Ne.symm h1, Ne.symm h2, Ne.symm h3, h1, h2, h3]
