/-! the law's helpers -/
abbrev mL_below : Mt := (yL_below, cL_below, 2, some .int, [], { frames := 0, cells := 0, slots := 0, locals := 0 })
abbrev mL_cell : Mt := (yL_cell, cL_cell, 2, some .int, [], { frames := 0, cells := 0, slots := 0, locals := 0 })
abbrev mL_emit : Mt := (yL_emit, cL_emit, 5, some .int, [], { frames := 7, cells := 1, slots := 6, locals := 106 })
abbrev mL_isWhole : Mt := (yL_isWhole, cL_isWhole, 4, some .boolean, [], { frames := 9, cells := 400, slots := 2400, locals := 148 })
theorem c1_L_7 : Cond.constant RL 7 2147483647 ∈ GW := gw (i := 1009) (by decide +kernel) (by decide +kernel)
theorem c1_L_8 : Cond.constant RL 8 790386105 ∈ GW := gw (i := 1013) (by decide +kernel) (by decide +kernel)
theorem cl_L_below : CL mL_below 2 := ⟨rfl, gw (i := 1008) (by decide +kernel) (by decide +kernel), gw (i := 43) (by decide +kernel) (by decide +kernel), by decide +kernel, by decide +kernel⟩
theorem s_L_9 : SL RL 9 mL_below 2 := ⟨cl_L_below, Or.inl (gw (i := 1006) (by decide +kernel) (by decide +kernel)), gw (i := 1007) (by decide +kernel) (by decide +kernel)⟩
theorem cl_X11_emit : CL mX11_emit 2 := ⟨rfl, gw (i := 632) (by decide +kernel) (by decide +kernel), gw (i := 44) (by decide +kernel) (by decide +kernel), by decide +kernel, by decide +kernel⟩
theorem v_L_15 : VL RL 15 mX11_emit 2 := ⟨cl_X11_emit, gw (i := 629) (by decide +kernel) (by decide +kernel), gw (i := 630) (by decide +kernel) (by decide +kernel), gw (i := 631) (by decide +kernel) (by decide +kernel)⟩
theorem cl_X11_stackHeight : CL mX11_stackHeight 1 := ⟨rfl, gw (i := 1048) (by decide +kernel) (by decide +kernel), gw (i := 44) (by decide +kernel) (by decide +kernel), by decide +kernel, by decide +kernel⟩
theorem v_L_23 : VL RL 23 mX11_stackHeight 1 := ⟨cl_X11_stackHeight, gw (i := 1045) (by decide +kernel) (by decide +kernel), gw (i := 1046) (by decide +kernel) (by decide +kernel), gw (i := 1047) (by decide +kernel) (by decide +kernel)⟩
theorem cl_X11_stackSlot : CL mX11_stackSlot 2 := ⟨rfl, gw (i := 1052) (by decide +kernel) (by decide +kernel), gw (i := 44) (by decide +kernel) (by decide +kernel), by decide +kernel, by decide +kernel⟩
theorem v_L_27 : VL RL 27 mX11_stackSlot 2 := ⟨cl_X11_stackSlot, gw (i := 1049) (by decide +kernel) (by decide +kernel), gw (i := 1050) (by decide +kernel) (by decide +kernel), gw (i := 1051) (by decide +kernel) (by decide +kernel)⟩
theorem cl_X11_localSlot : CL mX11_localSlot 2 := ⟨rfl, gw (i := 1023) (by decide +kernel) (by decide +kernel), gw (i := 44) (by decide +kernel) (by decide +kernel), by decide +kernel, by decide +kernel⟩
theorem v_L_20 : VL RL 20 mX11_localSlot 2 := ⟨cl_X11_localSlot, gw (i := 1020) (by decide +kernel) (by decide +kernel), gw (i := 1021) (by decide +kernel) (by decide +kernel), gw (i := 1022) (by decide +kernel) (by decide +kernel)⟩
def sp_L_below (fu : Nat) (E : Ev) (S : St) (x0 : Int32) (x1 : Int32) : Option (Int32 × St) :=
  if x1 = 0 then none else (
    some ((x0 &&& 2147483647) - (x0 &&& 2147483647) / x1 * x1, S)
    )
set_option maxRecDepth 100000 in
theorem k_L_below {l : Launch} (fu : Nat) {E : Ev} (hE : WE E) {x0 : Int32} {x1 : Int32} {S : St} {t : (Int32 × St)} (h : sp_L_below fu E S x0 x1 = some t) : Cn l mL_below [.int x0, .int x1] (hp E S) (PoI E t) := by
  refine Cn.of (by decide) rfl (Nat.le_of_ble_eq_true rfl) (fun X _ _ hQ => ?_)
  refine (?_ : K mL_below X E 0 [(0, .int x0), (1, .int x1)] [] S 0 0 (sp_L_below fu E S x0 x1) t) h
  unfold sp_L_below
  refine K_iload_n dL_below_0 rfl rfl ?_
  refine K_ldc (v := 2147483647) dL_below_1 c1_L_7 ?_
  refine K_iand dL_below_3 ?_
  refine K_iload_n dL_below_4 rfl rfl ?_
  refine K_ite (fun _ => K_none) (fun h1 => ?_)
  refine K_irem dL_below_5 h1 ?_
  exact K_iret dL_below_6 hQ rfl (Nat.le_of_ble_eq_true rfl) (Nat.le_of_ble_eq_true rfl)
/-- the script's cell k, or what stands in for it -/
def sp_L_cell (xs : Nat → Int32) (L : Nat) (k : Int32) : Option Int32 := if Int32.ofNat L ≤ k then some (790386105 * (k + 3)) else if inb k L = true then some (xs k.toNatClampNeg) else none
set_option maxRecDepth 100000 in
theorem k_L_cell {l : Launch} {E : Ev} {S : St} {b L : Nat} {xs : Nat → Int32} {k r : Int32} (h : sp_L_cell xs L k = some r) : CnS l mL_cell [.ref b, .int k] (hp E S) b L xs (fun v w' => v = some (.int r) ∧ w' = hp E S) := by
  refine CnS.of (by decide) rfl (Nat.le_of_ble_eq_true rfl) (fun X _ _ hQ hs => ?_)
  have hQ : EndR mL_cell X (PoI E (r, S)) := hQ
  have h2 : (sp_L_cell xs L k).bind (fun v => some (v, S)) = some (r, S) := by rw [h]; rfl
  refine (?_ : K mL_cell X E 0 [(0, .ref b), (1, .int k)] [] S 0 0 ((sp_L_cell xs L k).bind (fun v => some (v, S))) (r, S)) h2
  unfold sp_L_cell
  rw [show (if Int32.ofNat L ≤ k then some (790386105 * (k + 3)) else if inb k L = true then some (xs k.toNatClampNeg) else none).bind (fun v => some (v, S)) = if Int32.ofNat L ≤ k then some (790386105 * (k + 3), S) else if inb k L = true then some (xs k.toNatClampNeg, S) else none by split <;> first | rfl | (split <;> rfl)]
  refine K_iload_n dL_cell_0 rfl rfl ?_
  refine K_aload_n dL_cell_1 rfl rfl ?_
  refine K_slen hs dL_cell_2 ?_
  refine K_icmp_ge (tgt := 12) dL_cell_3 (by decide) (fun c1 => ?_) (fun c1 => ?_)
  · refine K_ldc (v := 790386105) dL_cell_12 c1_L_8 ?_
    refine K_iload_n dL_cell_14 rfl rfl ?_
    refine K_iconst (v := 3) dL_cell_15 (by decide) ?_
    refine K_iadd dL_cell_16 ?_
    refine K_imul dL_cell_17 ?_
    exact K_iret dL_cell_18 hQ rfl (Nat.le_of_ble_eq_true rfl) (Nat.le_of_ble_eq_true rfl)
  · refine K_aload_n dL_cell_6 rfl rfl ?_
    refine K_iload_n dL_cell_7 rfl rfl ?_
    refine K_chk (fun h1 => ?_)
    refine K_sld hs dL_cell_8 h1 ?_
    refine K_goto (tgt := 18) dL_cell_9 (by decide) ?_
    exact K_iret dL_cell_18 hQ rfl (Nat.le_of_ble_eq_true rfl) (Nat.le_of_ble_eq_true rfl)
def sp_L_emit (fu : Nat) (E : Ev) (S : St) (a0 : Nat) (x1 : Int32) (x2 : Int32) : Option (Int32 × St) :=
  (sp_L_below fu E S (x1 >>> (8 &&& 31)) 3).bind fun u1 =>
  (sp_L_below fu E u1.2 (x1 >>> (8 &&& 31)) x2).bind fun u2 =>
  (sp_L_below fu E u2.2 x1 16).bind fun u3 =>
  if u3.1 = 0 then (
    (sp_X11_emit fu E u3.2 a0 1 0).bind fun u5 => hcat u5 [] fun r6 S7 =>
    some (r6, S7)
  ) else (
    if u3.1 = 1 then (
      (sp_X11_emit fu E u3.2 a0 3 0).bind fun u9 => hcat u9 [] fun r10 S11 =>
      some (r10, S11)
    ) else (
      if u3.1 = 2 then (
        (sp_X11_emit fu E u3.2 a0 2 0).bind fun u13 => hcat u13 [] fun r14 S15 =>
        some (r14, S15)
      ) else (
        if u3.1 = 3 then (
          (sp_X11_emit fu E u3.2 a0 4 u1.1).bind fun u17 => hcat u17 [] fun r18 S19 =>
          some (r18, S19)
        ) else (
          if u3.1 = 4 then (
            (sp_X11_emit fu E u3.2 a0 7 u1.1).bind fun u21 => hcat u21 [] fun r22 S23 =>
            some (r22, S23)
          ) else (
            if u3.1 = 5 then (
              (sp_X11_emit fu E u3.2 a0 6 u1.1).bind fun u25 => hcat u25 [] fun r26 S27 =>
              some (r26, S27)
            ) else (
              if u3.1 = 6 then (
                (sp_X11_emit fu E u3.2 a0 9 u1.1).bind fun u29 => hcat u29 [] fun r30 S31 =>
                some (r30, S31)
              ) else (
                if u3.1 = 7 then (
                  (sp_X11_emit fu E u3.2 a0 10 0).bind fun u33 => hcat u33 [] fun r34 S35 =>
                  some (r34, S35)
                ) else (
                  if u3.1 = 8 then (
                    (sp_X11_emit fu E u3.2 a0 23 u2.1).bind fun u37 => hcat u37 [] fun r38 S39 =>
                    some (r38, S39)
                  ) else (
                    if u3.1 = 9 then (
                      (sp_X11_emit fu E u3.2 a0 22 u2.1).bind fun u41 => hcat u41 [] fun r42 S43 =>
                      some (r42, S43)
                    ) else (
                      if u3.1 = 10 then (
                        (sp_X11_emit fu E u3.2 a0 34 ((3 : Int32) + ((x1 >>> (8 &&& 31)) &&& 1))).bind fun u45 => hcat u45 [] fun r46 S47 =>
                        some (r46, S47)
                      ) else (
                        if u3.1 = 11 then (
                          (sp_X11_emit fu E u3.2 a0 35 ((1 : Int32) + ((x1 >>> (8 &&& 31)) &&& 1))).bind fun u49 => hcat u49 [] fun r50 S51 =>
                          some (r50, S51)
                        ) else (
                          if u3.1 = 12 then (
                            (sp_X11_emit fu E u3.2 a0 12 0).bind fun u53 => hcat u53 [] fun r54 S55 =>
                            some (r54, S55)
                          ) else (
                            if u3.1 = 13 then (
                              (sp_X11_emit fu E u3.2 a0 25 u2.1).bind fun u57 => hcat u57 [] fun r58 S59 =>
                              some (r58, S59)
                            ) else (
                              if u3.1 = 14 then (
                                (sp_L_below fu E u3.2 (x1 >>> (8 &&& 31)) 3).bind fun u61 =>
                                (sp_X11_emit fu E u61.2 a0 44 (16 + (8 * u61.1))).bind fun u62 => hcat u62 [] fun r63 S64 =>
                                some (r63, S64)
                              ) else (
                                (sp_X11_emit fu E u3.2 a0 30 0).bind fun u65 => hcat u65 [] fun r66 S67 =>
                                some (r66, S67)
                              )
                            )
                          )
                        )
                      )
                    )
                  )
                )
              )
            )
          )
        )
      )
    )
  )
set_option maxRecDepth 100000 in
theorem k_L_emit {l : Launch} (fu : Nat) {E : Ev} (hE : WE E) {a0 : Nat} (ha0 : E.1 a0 = some (0, 9, 0)) {x1 : Int32} {x2 : Int32} {S : St} {t : (Int32 × St)} (h : sp_L_emit fu E S a0 x1 x2 = some t) : Cn l mL_emit [.ref a0, .int x1, .int x2] (hp E S) (PoI E t) := by
  refine Cn.of (by decide) rfl (Nat.le_of_ble_eq_true rfl) (fun X _ _ hQ => ?_)
  refine (?_ : K mL_emit X E 0 [(0, .ref a0), (1, .int x1), (2, .int x2)] [] S 0 0 (sp_L_emit fu E S a0 x1 x2) t) h
  unfold sp_L_emit
  refine K_iload_n dL_emit_0 rfl rfl ?_
  refine K_bipush (v := 8) dL_emit_1 (by decide) ?_
  refine K_ishr dL_emit_3 ?_
  refine K_iconst (v := 3) dL_emit_4 (by decide) ?_
  refine K_bind (fun u1 hu1 => ?_)
  refine K_callSI (As := [.int (x1 >>> (8 &&& 31)), .int 3]) (k_L_below fu hE hu1) dL_emit_5 s_L_9 rfl rfl (Nat.le_of_ble_eq_true rfl) ⟨Nat.le_of_ble_eq_true rfl, Nat.le_of_ble_eq_true rfl, Nat.le_of_ble_eq_true rfl, Nat.le_of_ble_eq_true rfl⟩ ?_
  refine K_istore_n (ls' := [(0, _), (1, _), (2, _), (3, _)]) dL_emit_8 rfl (by decide) rfl ?_
  refine K_iload_n dL_emit_9 rfl rfl ?_
  refine K_bipush (v := 8) dL_emit_10 (by decide) ?_
  refine K_ishr dL_emit_12 ?_
  refine K_iload_n dL_emit_13 rfl rfl ?_
  refine K_bind (fun u2 hu2 => ?_)
  refine K_callSI (As := [.int (x1 >>> (8 &&& 31)), .int x2]) (k_L_below fu hE hu2) dL_emit_14 s_L_9 rfl rfl (Nat.le_of_ble_eq_true rfl) ⟨Nat.le_of_ble_eq_true rfl, Nat.le_of_ble_eq_true rfl, Nat.le_of_ble_eq_true rfl, Nat.le_of_ble_eq_true rfl⟩ ?_
  refine K_istore (ls' := [(0, _), (1, _), (2, _), (3, _), (4, _)]) dL_emit_17 (by decide) rfl ?_
  refine K_iload_n dL_emit_19 rfl rfl ?_
  refine K_bipush (v := 16) dL_emit_20 (by decide) ?_
  refine K_bind (fun u3 hu3 => ?_)
  refine K_callSI (As := [.int x1, .int 16]) (k_L_below fu hE hu3) dL_emit_22 s_L_9 rfl rfl (Nat.le_of_ble_eq_true rfl) ⟨Nat.le_of_ble_eq_true rfl, Nat.le_of_ble_eq_true rfl, Nat.le_of_ble_eq_true rfl, Nat.le_of_ble_eq_true rfl⟩ ?_
  refine K_ite (fun c4 => ?_) (fun c4 => ?_)
  · refine K_tswIn (tgt := 100) 0 dL_emit_25 c4 (by decide) (by decide) rfl (by decide) ?_
    refine K_aload_n dL_emit_100 rfl rfl ?_
    refine K_iconst (v := 1) dL_emit_101 (by decide) ?_
    refine K_iconst (v := 0) dL_emit_102 (by decide) ?_
    refine K_bind (fun u5 hu5 => ?_)
    refine K_callH (As := [.int 1, .int 0]) (k_X11_emit fu hE ha0 hu5) dL_emit_103 v_L_15 ha0 rfl rfl rfl rfl (Nat.le_of_ble_eq_true rfl) ⟨Nat.le_of_ble_eq_true rfl, Nat.le_of_ble_eq_true rfl, Nat.le_of_ble_eq_true rfl, Nat.le_of_ble_eq_true rfl⟩ (fun _ h => absurd h List.not_mem_nil) (fun r6 S7 => ?_)
    exact K_iret dL_emit_106 hQ rfl (Nat.le_of_ble_eq_true rfl) (Nat.le_of_ble_eq_true rfl)
  · refine K_ite (fun c8 => ?_) (fun c8 => ?_)
    · refine K_tswIn (tgt := 107) 1 dL_emit_25 c8 (by decide) (by decide) rfl (by decide) ?_
      refine K_aload_n dL_emit_107 rfl rfl ?_
      refine K_iconst (v := 3) dL_emit_108 (by decide) ?_
      refine K_iconst (v := 0) dL_emit_109 (by decide) ?_
      refine K_bind (fun u9 hu9 => ?_)
      refine K_callH (As := [.int 3, .int 0]) (k_X11_emit fu hE ha0 hu9) dL_emit_110 v_L_15 ha0 rfl rfl rfl rfl (Nat.le_of_ble_eq_true rfl) ⟨Nat.le_of_ble_eq_true rfl, Nat.le_of_ble_eq_true rfl, Nat.le_of_ble_eq_true rfl, Nat.le_of_ble_eq_true rfl⟩ (fun _ h => absurd h List.not_mem_nil) (fun r10 S11 => ?_)
      exact K_iret dL_emit_113 hQ rfl (Nat.le_of_ble_eq_true rfl) (Nat.le_of_ble_eq_true rfl)
    · refine K_ite (fun c12 => ?_) (fun c12 => ?_)
      · refine K_tswIn (tgt := 114) 2 dL_emit_25 c12 (by decide) (by decide) rfl (by decide) ?_
        refine K_aload_n dL_emit_114 rfl rfl ?_
        refine K_iconst (v := 2) dL_emit_115 (by decide) ?_
        refine K_iconst (v := 0) dL_emit_116 (by decide) ?_
        refine K_bind (fun u13 hu13 => ?_)
        refine K_callH (As := [.int 2, .int 0]) (k_X11_emit fu hE ha0 hu13) dL_emit_117 v_L_15 ha0 rfl rfl rfl rfl (Nat.le_of_ble_eq_true rfl) ⟨Nat.le_of_ble_eq_true rfl, Nat.le_of_ble_eq_true rfl, Nat.le_of_ble_eq_true rfl, Nat.le_of_ble_eq_true rfl⟩ (fun _ h => absurd h List.not_mem_nil) (fun r14 S15 => ?_)
        exact K_iret dL_emit_120 hQ rfl (Nat.le_of_ble_eq_true rfl) (Nat.le_of_ble_eq_true rfl)
      · refine K_ite (fun c16 => ?_) (fun c16 => ?_)
        · refine K_tswIn (tgt := 121) 3 dL_emit_25 c16 (by decide) (by decide) rfl (by decide) ?_
          refine K_aload_n dL_emit_121 rfl rfl ?_
          refine K_iconst (v := 4) dL_emit_122 (by decide) ?_
          refine K_iload_n dL_emit_123 rfl rfl ?_
          refine K_bind (fun u17 hu17 => ?_)
          refine K_callH (As := [.int 4, .int u1.1]) (k_X11_emit fu hE ha0 hu17) dL_emit_124 v_L_15 ha0 rfl rfl rfl rfl (Nat.le_of_ble_eq_true rfl) ⟨Nat.le_of_ble_eq_true rfl, Nat.le_of_ble_eq_true rfl, Nat.le_of_ble_eq_true rfl, Nat.le_of_ble_eq_true rfl⟩ (fun _ h => absurd h List.not_mem_nil) (fun r18 S19 => ?_)
          exact K_iret dL_emit_127 hQ rfl (Nat.le_of_ble_eq_true rfl) (Nat.le_of_ble_eq_true rfl)
        · refine K_ite (fun c20 => ?_) (fun c20 => ?_)
          · refine K_tswIn (tgt := 128) 4 dL_emit_25 c20 (by decide) (by decide) rfl (by decide) ?_
            refine K_aload_n dL_emit_128 rfl rfl ?_
            refine K_bipush (v := 7) dL_emit_129 (by decide) ?_
            refine K_iload_n dL_emit_131 rfl rfl ?_
            refine K_bind (fun u21 hu21 => ?_)
            refine K_callH (As := [.int 7, .int u1.1]) (k_X11_emit fu hE ha0 hu21) dL_emit_132 v_L_15 ha0 rfl rfl rfl rfl (Nat.le_of_ble_eq_true rfl) ⟨Nat.le_of_ble_eq_true rfl, Nat.le_of_ble_eq_true rfl, Nat.le_of_ble_eq_true rfl, Nat.le_of_ble_eq_true rfl⟩ (fun _ h => absurd h List.not_mem_nil) (fun r22 S23 => ?_)
            exact K_iret dL_emit_135 hQ rfl (Nat.le_of_ble_eq_true rfl) (Nat.le_of_ble_eq_true rfl)
          · refine K_ite (fun c24 => ?_) (fun c24 => ?_)
            · refine K_tswIn (tgt := 136) 5 dL_emit_25 c24 (by decide) (by decide) rfl (by decide) ?_
              refine K_aload_n dL_emit_136 rfl rfl ?_
              refine K_bipush (v := 6) dL_emit_137 (by decide) ?_
              refine K_iload_n dL_emit_139 rfl rfl ?_
              refine K_bind (fun u25 hu25 => ?_)
              refine K_callH (As := [.int 6, .int u1.1]) (k_X11_emit fu hE ha0 hu25) dL_emit_140 v_L_15 ha0 rfl rfl rfl rfl (Nat.le_of_ble_eq_true rfl) ⟨Nat.le_of_ble_eq_true rfl, Nat.le_of_ble_eq_true rfl, Nat.le_of_ble_eq_true rfl, Nat.le_of_ble_eq_true rfl⟩ (fun _ h => absurd h List.not_mem_nil) (fun r26 S27 => ?_)
              exact K_iret dL_emit_143 hQ rfl (Nat.le_of_ble_eq_true rfl) (Nat.le_of_ble_eq_true rfl)
            · refine K_ite (fun c28 => ?_) (fun c28 => ?_)
              · refine K_tswIn (tgt := 144) 6 dL_emit_25 c28 (by decide) (by decide) rfl (by decide) ?_
                refine K_aload_n dL_emit_144 rfl rfl ?_
                refine K_bipush (v := 9) dL_emit_145 (by decide) ?_
                refine K_iload_n dL_emit_147 rfl rfl ?_
                refine K_bind (fun u29 hu29 => ?_)
                refine K_callH (As := [.int 9, .int u1.1]) (k_X11_emit fu hE ha0 hu29) dL_emit_148 v_L_15 ha0 rfl rfl rfl rfl (Nat.le_of_ble_eq_true rfl) ⟨Nat.le_of_ble_eq_true rfl, Nat.le_of_ble_eq_true rfl, Nat.le_of_ble_eq_true rfl, Nat.le_of_ble_eq_true rfl⟩ (fun _ h => absurd h List.not_mem_nil) (fun r30 S31 => ?_)
                exact K_iret dL_emit_151 hQ rfl (Nat.le_of_ble_eq_true rfl) (Nat.le_of_ble_eq_true rfl)
              · refine K_ite (fun c32 => ?_) (fun c32 => ?_)
                · refine K_tswIn (tgt := 152) 7 dL_emit_25 c32 (by decide) (by decide) rfl (by decide) ?_
                  refine K_aload_n dL_emit_152 rfl rfl ?_
                  refine K_bipush (v := 10) dL_emit_153 (by decide) ?_
                  refine K_iconst (v := 0) dL_emit_155 (by decide) ?_
                  refine K_bind (fun u33 hu33 => ?_)
                  refine K_callH (As := [.int 10, .int 0]) (k_X11_emit fu hE ha0 hu33) dL_emit_156 v_L_15 ha0 rfl rfl rfl rfl (Nat.le_of_ble_eq_true rfl) ⟨Nat.le_of_ble_eq_true rfl, Nat.le_of_ble_eq_true rfl, Nat.le_of_ble_eq_true rfl, Nat.le_of_ble_eq_true rfl⟩ (fun _ h => absurd h List.not_mem_nil) (fun r34 S35 => ?_)
                  exact K_iret dL_emit_159 hQ rfl (Nat.le_of_ble_eq_true rfl) (Nat.le_of_ble_eq_true rfl)
                · refine K_ite (fun c36 => ?_) (fun c36 => ?_)
                  · refine K_tswIn (tgt := 160) 8 dL_emit_25 c36 (by decide) (by decide) rfl (by decide) ?_
                    refine K_aload_n dL_emit_160 rfl rfl ?_
                    refine K_bipush (v := 23) dL_emit_161 (by decide) ?_
                    refine K_iload dL_emit_163 rfl ?_
                    refine K_bind (fun u37 hu37 => ?_)
                    refine K_callH (As := [.int 23, .int u2.1]) (k_X11_emit fu hE ha0 hu37) dL_emit_165 v_L_15 ha0 rfl rfl rfl rfl (Nat.le_of_ble_eq_true rfl) ⟨Nat.le_of_ble_eq_true rfl, Nat.le_of_ble_eq_true rfl, Nat.le_of_ble_eq_true rfl, Nat.le_of_ble_eq_true rfl⟩ (fun _ h => absurd h List.not_mem_nil) (fun r38 S39 => ?_)
                    exact K_iret dL_emit_168 hQ rfl (Nat.le_of_ble_eq_true rfl) (Nat.le_of_ble_eq_true rfl)
                  · refine K_ite (fun c40 => ?_) (fun c40 => ?_)
                    · refine K_tswIn (tgt := 169) 9 dL_emit_25 c40 (by decide) (by decide) rfl (by decide) ?_
                      refine K_aload_n dL_emit_169 rfl rfl ?_
                      refine K_bipush (v := 22) dL_emit_170 (by decide) ?_
                      refine K_iload dL_emit_172 rfl ?_
                      refine K_bind (fun u41 hu41 => ?_)
                      refine K_callH (As := [.int 22, .int u2.1]) (k_X11_emit fu hE ha0 hu41) dL_emit_174 v_L_15 ha0 rfl rfl rfl rfl (Nat.le_of_ble_eq_true rfl) ⟨Nat.le_of_ble_eq_true rfl, Nat.le_of_ble_eq_true rfl, Nat.le_of_ble_eq_true rfl, Nat.le_of_ble_eq_true rfl⟩ (fun _ h => absurd h List.not_mem_nil) (fun r42 S43 => ?_)
                      exact K_iret dL_emit_177 hQ rfl (Nat.le_of_ble_eq_true rfl) (Nat.le_of_ble_eq_true rfl)
                    · refine K_ite (fun c44 => ?_) (fun c44 => ?_)
                      · refine K_tswIn (tgt := 178) 10 dL_emit_25 c44 (by decide) (by decide) rfl (by decide) ?_
                        refine K_aload_n dL_emit_178 rfl rfl ?_
                        refine K_bipush (v := 34) dL_emit_179 (by decide) ?_
                        refine K_iconst (v := 3) dL_emit_181 (by decide) ?_
                        refine K_iload_n dL_emit_182 rfl rfl ?_
                        refine K_bipush (v := 8) dL_emit_183 (by decide) ?_
                        refine K_ishr dL_emit_185 ?_
                        refine K_iconst (v := 1) dL_emit_186 (by decide) ?_
                        refine K_iand dL_emit_187 ?_
                        refine K_iadd dL_emit_188 ?_
                        refine K_bind (fun u45 hu45 => ?_)
                        refine K_callH (As := [.int 34, .int ((3 : Int32) + ((x1 >>> (8 &&& 31)) &&& 1))]) (k_X11_emit fu hE ha0 hu45) dL_emit_189 v_L_15 ha0 rfl rfl rfl rfl (Nat.le_of_ble_eq_true rfl) ⟨Nat.le_of_ble_eq_true rfl, Nat.le_of_ble_eq_true rfl, Nat.le_of_ble_eq_true rfl, Nat.le_of_ble_eq_true rfl⟩ (fun _ h => absurd h List.not_mem_nil) (fun r46 S47 => ?_)
                        exact K_iret dL_emit_192 hQ rfl (Nat.le_of_ble_eq_true rfl) (Nat.le_of_ble_eq_true rfl)
                      · refine K_ite (fun c48 => ?_) (fun c48 => ?_)
                        · refine K_tswIn (tgt := 193) 11 dL_emit_25 c48 (by decide) (by decide) rfl (by decide) ?_
                          refine K_aload_n dL_emit_193 rfl rfl ?_
                          refine K_bipush (v := 35) dL_emit_194 (by decide) ?_
                          refine K_iconst (v := 1) dL_emit_196 (by decide) ?_
                          refine K_iload_n dL_emit_197 rfl rfl ?_
                          refine K_bipush (v := 8) dL_emit_198 (by decide) ?_
                          refine K_ishr dL_emit_200 ?_
                          refine K_iconst (v := 1) dL_emit_201 (by decide) ?_
                          refine K_iand dL_emit_202 ?_
                          refine K_iadd dL_emit_203 ?_
                          refine K_bind (fun u49 hu49 => ?_)
                          refine K_callH (As := [.int 35, .int ((1 : Int32) + ((x1 >>> (8 &&& 31)) &&& 1))]) (k_X11_emit fu hE ha0 hu49) dL_emit_204 v_L_15 ha0 rfl rfl rfl rfl (Nat.le_of_ble_eq_true rfl) ⟨Nat.le_of_ble_eq_true rfl, Nat.le_of_ble_eq_true rfl, Nat.le_of_ble_eq_true rfl, Nat.le_of_ble_eq_true rfl⟩ (fun _ h => absurd h List.not_mem_nil) (fun r50 S51 => ?_)
                          exact K_iret dL_emit_207 hQ rfl (Nat.le_of_ble_eq_true rfl) (Nat.le_of_ble_eq_true rfl)
                        · refine K_ite (fun c52 => ?_) (fun c52 => ?_)
                          · refine K_tswIn (tgt := 208) 12 dL_emit_25 c52 (by decide) (by decide) rfl (by decide) ?_
                            refine K_aload_n dL_emit_208 rfl rfl ?_
                            refine K_bipush (v := 12) dL_emit_209 (by decide) ?_
                            refine K_iconst (v := 0) dL_emit_211 (by decide) ?_
                            refine K_bind (fun u53 hu53 => ?_)
                            refine K_callH (As := [.int 12, .int 0]) (k_X11_emit fu hE ha0 hu53) dL_emit_212 v_L_15 ha0 rfl rfl rfl rfl (Nat.le_of_ble_eq_true rfl) ⟨Nat.le_of_ble_eq_true rfl, Nat.le_of_ble_eq_true rfl, Nat.le_of_ble_eq_true rfl, Nat.le_of_ble_eq_true rfl⟩ (fun _ h => absurd h List.not_mem_nil) (fun r54 S55 => ?_)
                            exact K_iret dL_emit_215 hQ rfl (Nat.le_of_ble_eq_true rfl) (Nat.le_of_ble_eq_true rfl)
                          · refine K_ite (fun c56 => ?_) (fun c56 => ?_)
                            · refine K_tswIn (tgt := 216) 13 dL_emit_25 c56 (by decide) (by decide) rfl (by decide) ?_
                              refine K_aload_n dL_emit_216 rfl rfl ?_
                              refine K_bipush (v := 25) dL_emit_217 (by decide) ?_
                              refine K_iload dL_emit_219 rfl ?_
                              refine K_bind (fun u57 hu57 => ?_)
                              refine K_callH (As := [.int 25, .int u2.1]) (k_X11_emit fu hE ha0 hu57) dL_emit_221 v_L_15 ha0 rfl rfl rfl rfl (Nat.le_of_ble_eq_true rfl) ⟨Nat.le_of_ble_eq_true rfl, Nat.le_of_ble_eq_true rfl, Nat.le_of_ble_eq_true rfl, Nat.le_of_ble_eq_true rfl⟩ (fun _ h => absurd h List.not_mem_nil) (fun r58 S59 => ?_)
                              exact K_iret dL_emit_224 hQ rfl (Nat.le_of_ble_eq_true rfl) (Nat.le_of_ble_eq_true rfl)
                            · refine K_ite (fun c60 => ?_) (fun c60 => ?_)
                              · refine K_tswIn (tgt := 225) 14 dL_emit_25 c60 (by decide) (by decide) rfl (by decide) ?_
                                refine K_aload_n dL_emit_225 rfl rfl ?_
                                refine K_bipush (v := 44) dL_emit_226 (by decide) ?_
                                refine K_bipush (v := 16) dL_emit_228 (by decide) ?_
                                refine K_bipush (v := 8) dL_emit_230 (by decide) ?_
                                refine K_iload_n dL_emit_232 rfl rfl ?_
                                refine K_bipush (v := 8) dL_emit_233 (by decide) ?_
                                refine K_ishr dL_emit_235 ?_
                                refine K_iconst (v := 3) dL_emit_236 (by decide) ?_
                                refine K_bind (fun u61 hu61 => ?_)
                                refine K_callSI (As := [.int (x1 >>> (8 &&& 31)), .int 3]) (k_L_below fu hE hu61) dL_emit_237 s_L_9 rfl rfl (Nat.le_of_ble_eq_true rfl) ⟨Nat.le_of_ble_eq_true rfl, Nat.le_of_ble_eq_true rfl, Nat.le_of_ble_eq_true rfl, Nat.le_of_ble_eq_true rfl⟩ ?_
                                refine K_imul dL_emit_240 ?_
                                refine K_iadd dL_emit_241 ?_
                                refine K_bind (fun u62 hu62 => ?_)
                                refine K_callH (As := [.int 44, .int (16 + (8 * u61.1))]) (k_X11_emit fu hE ha0 hu62) dL_emit_242 v_L_15 ha0 rfl rfl rfl rfl (Nat.le_of_ble_eq_true rfl) ⟨Nat.le_of_ble_eq_true rfl, Nat.le_of_ble_eq_true rfl, Nat.le_of_ble_eq_true rfl, Nat.le_of_ble_eq_true rfl⟩ (fun _ h => absurd h List.not_mem_nil) (fun r63 S64 => ?_)
                                exact K_iret dL_emit_245 hQ rfl (Nat.le_of_ble_eq_true rfl) (Nat.le_of_ble_eq_true rfl)
                              · refine K_tswD (tgt := 246) [0, 1, 2, 3, 4, 5, 6, 7, 8, 9, 10, 11, 12, 13, 14] dL_emit_25 (List.forall_mem_cons.mpr ⟨c4, List.forall_mem_cons.mpr ⟨c8, List.forall_mem_cons.mpr ⟨c12, List.forall_mem_cons.mpr ⟨c16, List.forall_mem_cons.mpr ⟨c20, List.forall_mem_cons.mpr ⟨c24, List.forall_mem_cons.mpr ⟨c28, List.forall_mem_cons.mpr ⟨c32, List.forall_mem_cons.mpr ⟨c36, List.forall_mem_cons.mpr ⟨c40, List.forall_mem_cons.mpr ⟨c44, List.forall_mem_cons.mpr ⟨c48, List.forall_mem_cons.mpr ⟨c52, List.forall_mem_cons.mpr ⟨c56, List.forall_mem_cons.mpr ⟨c60, fun _ h => absurd h List.not_mem_nil⟩⟩⟩⟩⟩⟩⟩⟩⟩⟩⟩⟩⟩⟩⟩) (by decide) (by decide) ?_
                                refine K_aload_n dL_emit_246 rfl rfl ?_
                                refine K_bipush (v := 30) dL_emit_247 (by decide) ?_
                                refine K_iconst (v := 0) dL_emit_249 (by decide) ?_
                                refine K_bind (fun u65 hu65 => ?_)
                                refine K_callH (As := [.int 30, .int 0]) (k_X11_emit fu hE ha0 hu65) dL_emit_250 v_L_15 ha0 rfl rfl rfl rfl (Nat.le_of_ble_eq_true rfl) ⟨Nat.le_of_ble_eq_true rfl, Nat.le_of_ble_eq_true rfl, Nat.le_of_ble_eq_true rfl, Nat.le_of_ble_eq_true rfl⟩ (fun _ h => absurd h List.not_mem_nil) (fun r66 S67 => ?_)
                                exact K_iret dL_emit_253 hQ rfl (Nat.le_of_ble_eq_true rfl) (Nat.le_of_ble_eq_true rfl)
def bd_L_isWhole_61 (fu : Nat) (E : Ev) (a0 : Nat) (rc : Int32 → Int32 → St → Option (Int32 × St)) (x1 : Int32) (x2 : Int32) (S : St) : Option (Int32 × St) :=
  (sp_X11_stackHeight fu E S a0 x1).bind fun u1 => hcat u1 [] fun r2 S3 =>
  if r2 ≤ x2 then (
    (sp_X11_stackHeight fu E S3 a0 x1).bind fun u4 => hcat u4 [] fun r5 S6 =>
    if 4 < r5 then (
      some (0, S6)
    ) else (
      some (1, S6)
    )
  ) else (
    (sp_X11_stackSlot fu E S3 a0 x1 x2).bind fun u8 => hcat u8 [] fun r9 S10 =>
    if r9 = 8 then (
      (sp_X11_stackHeight fu E S10 a0 x1).bind fun u22 => hcat u22 [] fun r23 S24 =>
      if r23 ≤ (x2 + 1) then (
        if (1 : Int32) = 0 then (
          rc x1 (x2 + 1) S24
        ) else (
          some (0, S24)
        )
      ) else (
        (sp_X11_stackSlot fu E S24 a0 x1 (x2 + 1)).bind fun u26 => hcat u26 [] fun r27 S28 =>
        if r27 = (-3) then (
          if (1 : Int32) = 1 then (
            rc x1 (x2 + 1) S28
          ) else (
            some (0, S28)
          )
        ) else (
          if (1 : Int32) = 0 then (
            rc x1 (x2 + 1) S28
          ) else (
            some (0, S28)
          )
        )
      )
    ) else (
      (sp_X11_stackHeight fu E S10 a0 x1).bind fun u11 => hcat u11 [] fun r12 S13 =>
      if r12 ≤ (x2 + 1) then (
        if (0 : Int32) = 0 then (
          rc x1 (x2 + 1) S13
        ) else (
          some (0, S13)
        )
      ) else (
        (sp_X11_stackSlot fu E S13 a0 x1 (x2 + 1)).bind fun u15 => hcat u15 [] fun r16 S17 =>
        if r16 = (-3) then (
          if (0 : Int32) = 1 then (
            rc x1 (x2 + 1) S17
          ) else (
            some (0, S17)
          )
        ) else (
          if (0 : Int32) = 0 then (
            rc x1 (x2 + 1) S17
          ) else (
            some (0, S17)
          )
        )
      )
    )
  )
def lp_L_isWhole_61 (fu : Nat) (E : Ev) (a0 : Nat) : Nat → Int32 → Int32 → St → Option (Int32 × St)
  | 0, _, _, _ => none
  | f + 1, x1, x2, S => bd_L_isWhole_61 fu E a0 (lp_L_isWhole_61 fu E a0 f) x1 x2 S
set_option maxRecDepth 100000 in
theorem kb_L_isWhole_61 {X : Cx} {E : Ev} {t : Int32 × St} {a0 : Nat} (hQ : EndR mL_isWhole X (PoI E t)) (hE : WE E) (ha0 : E.1 a0 = some (0, 9, 0)) (fu : Nat) {rc : Int32 → Int32 → St → Option (Int32 × St)} (F k n : Nat) (hF : 8 ≤ F) (hk : k + (16 + F) ≤ 400) (hn : n + 6 * (16 + F) ≤ 2400) (hrc : ∀ (k n : Nat) (x1 : Int32) (x2 : Int32) (S : St), k + F ≤ 400 → n + 6 * F ≤ 2400 → K mL_isWhole X E 61 [(0, .ref a0), (1, .int x1), (2, .int x2)] [] S k n (rc x1 x2 S) t) (x1 : Int32) (x2 : Int32) (S : St) : K mL_isWhole X E 61 [(0, .ref a0), (1, .int x1), (2, .int x2)] [] S k n (bd_L_isWhole_61 fu E a0 rc x1 x2 S) t := by
  unfold bd_L_isWhole_61
  refine K_iload_n dL_isWhole_61 rfl rfl ?_
  refine K_aload_n dL_isWhole_62 rfl rfl ?_
  refine K_iload_n dL_isWhole_63 rfl rfl ?_
  refine K_bind (fun u1 hu1 => ?_)
  refine K_callH (As := [.int x1]) (k_X11_stackHeight fu hE ha0 hu1) dL_isWhole_64 v_L_23 ha0 rfl rfl rfl rfl (Nat.le_of_ble_eq_true rfl) ⟨Nat.le_of_ble_eq_true rfl, Nat.le_of_ble_eq_true rfl, by show k + 0 + 2 ≤ 400; omega, by show n + 0 + 12 ≤ 2400; omega⟩ (fun _ h => absurd h List.not_mem_nil) (fun r2 S3 => ?_)
  refine K_icmp_ge (tgt := 128) dL_isWhole_67 (by decide) (fun c34 => ?_) (fun c34 => ?_)
  · refine K_aload_n dL_isWhole_128 rfl rfl ?_
    refine K_iload_n dL_isWhole_129 rfl rfl ?_
    refine K_bind (fun u4 hu4 => ?_)
    refine K_callH (As := [.int x1]) (k_X11_stackHeight fu hE ha0 hu4) dL_isWhole_130 v_L_23 ha0 rfl rfl rfl rfl (Nat.le_of_ble_eq_true rfl) ⟨Nat.le_of_ble_eq_true rfl, Nat.le_of_ble_eq_true rfl, by show k + 2 + 2 ≤ 400; omega, by show n + 12 + 12 ≤ 2400; omega⟩ (fun _ h => absurd h List.not_mem_nil) (fun r5 S6 => ?_)
    refine K_iconst (v := 4) dL_isWhole_133 (by decide) ?_
    refine K_icmp_gt (tgt := 141) dL_isWhole_134 (by decide) (fun c7 => ?_) (fun c7 => ?_)
    · refine K_iconst (v := 0) dL_isWhole_141 (by decide) ?_
      exact K_zret dL_isWhole_142 hQ rfl rfl (by show k + 4 ≤ 400; omega) (by show n + 24 ≤ 2400; omega)
    · refine K_iconst (v := 1) dL_isWhole_137 (by decide) ?_
      refine K_goto (tgt := 142) dL_isWhole_138 (by decide) ?_
      exact K_zret dL_isWhole_142 hQ rfl rfl (by show k + 4 ≤ 400; omega) (by show n + 24 ≤ 2400; omega)
  · refine K_aload_n dL_isWhole_70 rfl rfl ?_
    refine K_iload_n dL_isWhole_71 rfl rfl ?_
    refine K_iload_n dL_isWhole_72 rfl rfl ?_
    refine K_bind (fun u8 hu8 => ?_)
    refine K_callH (As := [.int x1, .int x2]) (k_X11_stackSlot fu hE ha0 hu8) dL_isWhole_73 v_L_27 ha0 rfl rfl rfl rfl (Nat.le_of_ble_eq_true rfl) ⟨Nat.le_of_ble_eq_true rfl, Nat.le_of_ble_eq_true rfl, by show k + 2 + 3 ≤ 400; omega, by show n + 12 + 18 ≤ 2400; omega⟩ (fun _ h => absurd h List.not_mem_nil) (fun r9 S10 => ?_)
    refine K_bipush (v := 8) dL_isWhole_76 (by decide) ?_
    refine K_icmp_ne (tgt := 85) dL_isWhole_78 (by decide) (fun c33 => ?_) (fun c33 => ?_)
    · refine K_iconst (v := 0) dL_isWhole_85 (by decide) ?_
      refine K_istore_n (ls' := [(0, _), (1, _), (2, _), (3, _)]) dL_isWhole_86 rfl (by decide) rfl ?_
      refine K_iload_n dL_isWhole_87 rfl rfl ?_
      refine K_iload_n dL_isWhole_88 rfl rfl ?_
      refine K_iconst (v := 1) dL_isWhole_89 (by decide) ?_
      refine K_iadd dL_isWhole_90 ?_
      refine K_aload_n dL_isWhole_91 rfl rfl ?_
      refine K_iload_n dL_isWhole_92 rfl rfl ?_
      refine K_bind (fun u11 hu11 => ?_)
      refine K_callH (As := [.int x1]) (k_X11_stackHeight fu hE ha0 hu11) dL_isWhole_93 v_L_23 ha0 rfl rfl rfl rfl (Nat.le_of_ble_eq_true rfl) ⟨Nat.le_of_ble_eq_true rfl, Nat.le_of_ble_eq_true rfl, by show k + 5 + 2 ≤ 400; omega, by show n + 30 + 12 ≤ 2400; omega⟩ (fun _ h => absurd h List.not_mem_nil) (fun r12 S13 => ?_)
      refine K_icmp_ge (tgt := 116) dL_isWhole_96 (by decide) (fun c21 => ?_) (fun c21 => ?_)
      · refine K_iconst (v := 0) dL_isWhole_116 (by decide) ?_
        refine K_icmp_eq (tgt := 122) dL_isWhole_117 (by decide) (fun c14 => ?_) (fun c14 => ?_)
        · refine K_iinc (v := (x2 + 1)) (ls' := [(0, _), (1, _), (2, _), (3, _)]) dL_isWhole_122 rfl rfl (by decide) rfl ?_
          refine K_goto (tgt := 61) dL_isWhole_125 (by decide) ?_
          refine K.keep [0, 1, 2] ?_
          exact hrc _ _ x1 (x2 + 1) S13 (by show k + 7 + F ≤ 400; omega) (by show n + 42 + 6 * F ≤ 2400; omega)
        · refine K_iconst (v := 0) dL_isWhole_120 (by decide) ?_
          exact K_zret dL_isWhole_121 hQ rfl rfl (by show k + 7 ≤ 400; omega) (by show n + 42 ≤ 2400; omega)
      · refine K_aload_n dL_isWhole_99 rfl rfl ?_
        refine K_iload_n dL_isWhole_100 rfl rfl ?_
        refine K_iload_n dL_isWhole_101 rfl rfl ?_
        refine K_iconst (v := 1) dL_isWhole_102 (by decide) ?_
        refine K_iadd dL_isWhole_103 ?_
        refine K_bind (fun u15 hu15 => ?_)
        refine K_callH (As := [.int x1, .int (x2 + 1)]) (k_X11_stackSlot fu hE ha0 hu15) dL_isWhole_104 v_L_27 ha0 rfl rfl rfl rfl (Nat.le_of_ble_eq_true rfl) ⟨Nat.le_of_ble_eq_true rfl, Nat.le_of_ble_eq_true rfl, by show k + 7 + 3 ≤ 400; omega, by show n + 42 + 18 ≤ 2400; omega⟩ (fun _ h => absurd h List.not_mem_nil) (fun r16 S17 => ?_)
        refine K_bipush (v := (-3)) dL_isWhole_107 (by decide) ?_
        refine K_icmp_ne (tgt := 116) dL_isWhole_109 (by decide) (fun c20 => ?_) (fun c20 => ?_)
        · refine K_iconst (v := 0) dL_isWhole_116 (by decide) ?_
          refine K_icmp_eq (tgt := 122) dL_isWhole_117 (by decide) (fun c18 => ?_) (fun c18 => ?_)
          · refine K_iinc (v := (x2 + 1)) (ls' := [(0, _), (1, _), (2, _), (3, _)]) dL_isWhole_122 rfl rfl (by decide) rfl ?_
            refine K_goto (tgt := 61) dL_isWhole_125 (by decide) ?_
            refine K.keep [0, 1, 2] ?_
            exact hrc _ _ x1 (x2 + 1) S17 (by show k + 10 + F ≤ 400; omega) (by show n + 60 + 6 * F ≤ 2400; omega)
          · refine K_iconst (v := 0) dL_isWhole_120 (by decide) ?_
            exact K_zret dL_isWhole_121 hQ rfl rfl (by show k + 10 ≤ 400; omega) (by show n + 60 ≤ 2400; omega)
        · refine K_iconst (v := 1) dL_isWhole_112 (by decide) ?_
          refine K_goto (tgt := 117) dL_isWhole_113 (by decide) ?_
          refine K_icmp_eq (tgt := 122) dL_isWhole_117 (by decide) (fun c19 => ?_) (fun c19 => ?_)
          · refine K_iinc (v := (x2 + 1)) (ls' := [(0, _), (1, _), (2, _), (3, _)]) dL_isWhole_122 rfl rfl (by decide) rfl ?_
            refine K_goto (tgt := 61) dL_isWhole_125 (by decide) ?_
            refine K.keep [0, 1, 2] ?_
            exact hrc _ _ x1 (x2 + 1) S17 (by show k + 10 + F ≤ 400; omega) (by show n + 60 + 6 * F ≤ 2400; omega)
          · refine K_iconst (v := 0) dL_isWhole_120 (by decide) ?_
            exact K_zret dL_isWhole_121 hQ rfl rfl (by show k + 10 ≤ 400; omega) (by show n + 60 ≤ 2400; omega)
    · refine K_iconst (v := 1) dL_isWhole_81 (by decide) ?_
      refine K_goto (tgt := 86) dL_isWhole_82 (by decide) ?_
      refine K_istore_n (ls' := [(0, _), (1, _), (2, _), (3, _)]) dL_isWhole_86 rfl (by decide) rfl ?_
      refine K_iload_n dL_isWhole_87 rfl rfl ?_
      refine K_iload_n dL_isWhole_88 rfl rfl ?_
      refine K_iconst (v := 1) dL_isWhole_89 (by decide) ?_
      refine K_iadd dL_isWhole_90 ?_
      refine K_aload_n dL_isWhole_91 rfl rfl ?_
      refine K_iload_n dL_isWhole_92 rfl rfl ?_
      refine K_bind (fun u22 hu22 => ?_)
      refine K_callH (As := [.int x1]) (k_X11_stackHeight fu hE ha0 hu22) dL_isWhole_93 v_L_23 ha0 rfl rfl rfl rfl (Nat.le_of_ble_eq_true rfl) ⟨Nat.le_of_ble_eq_true rfl, Nat.le_of_ble_eq_true rfl, by show k + 5 + 2 ≤ 400; omega, by show n + 30 + 12 ≤ 2400; omega⟩ (fun _ h => absurd h List.not_mem_nil) (fun r23 S24 => ?_)
      refine K_icmp_ge (tgt := 116) dL_isWhole_96 (by decide) (fun c32 => ?_) (fun c32 => ?_)
      · refine K_iconst (v := 0) dL_isWhole_116 (by decide) ?_
        refine K_icmp_eq (tgt := 122) dL_isWhole_117 (by decide) (fun c25 => ?_) (fun c25 => ?_)
        · refine K_iinc (v := (x2 + 1)) (ls' := [(0, _), (1, _), (2, _), (3, _)]) dL_isWhole_122 rfl rfl (by decide) rfl ?_
          refine K_goto (tgt := 61) dL_isWhole_125 (by decide) ?_
          refine K.keep [0, 1, 2] ?_
          exact hrc _ _ x1 (x2 + 1) S24 (by show k + 7 + F ≤ 400; omega) (by show n + 42 + 6 * F ≤ 2400; omega)
        · refine K_iconst (v := 0) dL_isWhole_120 (by decide) ?_
          exact K_zret dL_isWhole_121 hQ rfl rfl (by show k + 7 ≤ 400; omega) (by show n + 42 ≤ 2400; omega)
      · refine K_aload_n dL_isWhole_99 rfl rfl ?_
        refine K_iload_n dL_isWhole_100 rfl rfl ?_
        refine K_iload_n dL_isWhole_101 rfl rfl ?_
        refine K_iconst (v := 1) dL_isWhole_102 (by decide) ?_
        refine K_iadd dL_isWhole_103 ?_
        refine K_bind (fun u26 hu26 => ?_)
        refine K_callH (As := [.int x1, .int (x2 + 1)]) (k_X11_stackSlot fu hE ha0 hu26) dL_isWhole_104 v_L_27 ha0 rfl rfl rfl rfl (Nat.le_of_ble_eq_true rfl) ⟨Nat.le_of_ble_eq_true rfl, Nat.le_of_ble_eq_true rfl, by show k + 7 + 3 ≤ 400; omega, by show n + 42 + 18 ≤ 2400; omega⟩ (fun _ h => absurd h List.not_mem_nil) (fun r27 S28 => ?_)
        refine K_bipush (v := (-3)) dL_isWhole_107 (by decide) ?_
        refine K_icmp_ne (tgt := 116) dL_isWhole_109 (by decide) (fun c31 => ?_) (fun c31 => ?_)
        · refine K_iconst (v := 0) dL_isWhole_116 (by decide) ?_
          refine K_icmp_eq (tgt := 122) dL_isWhole_117 (by decide) (fun c29 => ?_) (fun c29 => ?_)
          · refine K_iinc (v := (x2 + 1)) (ls' := [(0, _), (1, _), (2, _), (3, _)]) dL_isWhole_122 rfl rfl (by decide) rfl ?_
            refine K_goto (tgt := 61) dL_isWhole_125 (by decide) ?_
            refine K.keep [0, 1, 2] ?_
            exact hrc _ _ x1 (x2 + 1) S28 (by show k + 10 + F ≤ 400; omega) (by show n + 60 + 6 * F ≤ 2400; omega)
          · refine K_iconst (v := 0) dL_isWhole_120 (by decide) ?_
            exact K_zret dL_isWhole_121 hQ rfl rfl (by show k + 10 ≤ 400; omega) (by show n + 60 ≤ 2400; omega)
        · refine K_iconst (v := 1) dL_isWhole_112 (by decide) ?_
          refine K_goto (tgt := 117) dL_isWhole_113 (by decide) ?_
          refine K_icmp_eq (tgt := 122) dL_isWhole_117 (by decide) (fun c30 => ?_) (fun c30 => ?_)
          · refine K_iinc (v := (x2 + 1)) (ls' := [(0, _), (1, _), (2, _), (3, _)]) dL_isWhole_122 rfl rfl (by decide) rfl ?_
            refine K_goto (tgt := 61) dL_isWhole_125 (by decide) ?_
            refine K.keep [0, 1, 2] ?_
            exact hrc _ _ x1 (x2 + 1) S28 (by show k + 10 + F ≤ 400; omega) (by show n + 60 + 6 * F ≤ 2400; omega)
          · refine K_iconst (v := 0) dL_isWhole_120 (by decide) ?_
            exact K_zret dL_isWhole_121 hQ rfl rfl (by show k + 10 ≤ 400; omega) (by show n + 60 ≤ 2400; omega)
theorem kl_L_isWhole_61 {X : Cx} {E : Ev} {t : Int32 × St} {a0 : Nat} (hQ : EndR mL_isWhole X (PoI E t)) (hE : WE E) (ha0 : E.1 a0 = some (0, 9, 0)) (fu : Nat) : ∀ (f F k n : Nat) (_ : 16 * f + 8 ≤ F) (x1 : Int32) (x2 : Int32) (S : St), k + F ≤ 400 → n + 6 * F ≤ 2400 → K mL_isWhole X E 61 [(0, .ref a0), (1, .int x1), (2, .int x2)] [] S k n (lp_L_isWhole_61 fu E a0 f x1 x2 S) t := by
  intro f
  induction f with
  | zero => intro F k n _ x1 x2 S _ _; exact K_none
  | succ f ih =>
    intro F k n h0 x1 x2 S h1 h2
    have g0 : 16 * f + 8 ≤ F - 16 := by omega
    have g1 : 8 ≤ F - 16 := by omega
    have g2 : k + (16 + (F - 16)) ≤ 400 := by omega
    have g3 : n + 6 * (16 + (F - 16)) ≤ 2400 := by omega
    show K _ _ _ _ _ _ _ _ _ (bd_L_isWhole_61 fu E a0 (lp_L_isWhole_61 fu E a0 f) x1 x2 S) t
    exact kb_L_isWhole_61 hQ hE ha0 fu (rc := lp_L_isWhole_61 fu E a0 f) (F - 16) k n g1 g2 g3 (fun k n x1 x2 S h1 h2 => ih (F - 16) k n g0 x1 x2 S h1 h2) x1 x2 S
def bd_L_isWhole_2 (fu : Nat) (E : Ev) (a0 : Nat) (rc : Int32 → Int32 → St → Option (Int32 × St)) (x1 : Int32) (x2 : Int32) (S : St) : Option (Int32 × St) :=
  if 3 ≤ x2 then (
    lp_L_isWhole_61 fu E a0 14 x1 0 S
  ) else (
    (sp_X11_localSlot fu E S a0 x1 x2).bind fun u35 => hcat u35 [] fun r36 S37 =>
    if r36 = 8 then (
      if 2 ≤ x2 then (
        if (1 : Int32) = 0 then (
          rc x1 (x2 + 1) S37
        ) else (
          some (0, S37)
        )
      ) else (
        (sp_X11_localSlot fu E S37 a0 x1 (x2 + 1)).bind fun u47 => hcat u47 [] fun r48 S49 =>
        if r48 = (-3) then (
          if (1 : Int32) = 1 then (
            rc x1 (x2 + 1) S49
          ) else (
            some (0, S49)
          )
        ) else (
          if (1 : Int32) = 0 then (
            rc x1 (x2 + 1) S49
          ) else (
            some (0, S49)
          )
        )
      )
    ) else (
      if 2 ≤ x2 then (
        if (0 : Int32) = 0 then (
          rc x1 (x2 + 1) S37
        ) else (
          some (0, S37)
        )
      ) else (
        (sp_X11_localSlot fu E S37 a0 x1 (x2 + 1)).bind fun u39 => hcat u39 [] fun r40 S41 =>
        if r40 = (-3) then (
          if (0 : Int32) = 1 then (
            rc x1 (x2 + 1) S41
          ) else (
            some (0, S41)
          )
        ) else (
          if (0 : Int32) = 0 then (
            rc x1 (x2 + 1) S41
          ) else (
            some (0, S41)
          )
        )
      )
    )
  )
def lp_L_isWhole_2 (fu : Nat) (E : Ev) (a0 : Nat) : Nat → Int32 → Int32 → St → Option (Int32 × St)
  | 0, _, _, _ => none
  | f + 1, x1, x2, S => bd_L_isWhole_2 fu E a0 (lp_L_isWhole_2 fu E a0 f) x1 x2 S
set_option maxRecDepth 100000 in
theorem kb_L_isWhole_2 {X : Cx} {E : Ev} {t : Int32 × St} {a0 : Nat} (hQ : EndR mL_isWhole X (PoI E t)) (hE : WE E) (ha0 : E.1 a0 = some (0, 9, 0)) (fu : Nat) {rc : Int32 → Int32 → St → Option (Int32 × St)} (F k n : Nat) (hF : 240 ≤ F) (hk : k + (16 + F) ≤ 400) (hn : n + 6 * (16 + F) ≤ 2400) (hrc : ∀ (k n : Nat) (x1 : Int32) (x2 : Int32) (S : St), k + F ≤ 400 → n + 6 * F ≤ 2400 → K mL_isWhole X E 2 [(0, .ref a0), (1, .int x1), (2, .int x2)] [] S k n (rc x1 x2 S) t) (x1 : Int32) (x2 : Int32) (S : St) : K mL_isWhole X E 2 [(0, .ref a0), (1, .int x1), (2, .int x2)] [] S k n (bd_L_isWhole_2 fu E a0 rc x1 x2 S) t := by
  unfold bd_L_isWhole_2
  refine K_iload_n dL_isWhole_2 rfl rfl ?_
  refine K_iconst (v := 3) dL_isWhole_3 (by decide) ?_
  refine K_icmp_ge (tgt := 59) dL_isWhole_4 (by decide) (fun c55 => ?_) (fun c55 => ?_)
  · refine K_iconst (v := 0) dL_isWhole_59 (by decide) ?_
    refine K_istore_n (ls' := [(0, _), (1, _), (2, _)]) dL_isWhole_60 rfl (by decide) rfl ?_
    refine K.keep [0, 1, 2] ?_
    exact kl_L_isWhole_61 hQ hE ha0 fu 14 232 _ _ (by decide) x1 0 S (by show k + 0 + (232) ≤ 400; omega) (by show n + 0 + 6 * (232) ≤ 2400; omega)
  · refine K_aload_n dL_isWhole_7 rfl rfl ?_
    refine K_iload_n dL_isWhole_8 rfl rfl ?_
    refine K_iload_n dL_isWhole_9 rfl rfl ?_
    refine K_bind (fun u35 hu35 => ?_)
    refine K_callH (As := [.int x1, .int x2]) (k_X11_localSlot fu hE ha0 hu35) dL_isWhole_10 v_L_20 ha0 rfl rfl rfl rfl (Nat.le_of_ble_eq_true rfl) ⟨Nat.le_of_ble_eq_true rfl, Nat.le_of_ble_eq_true rfl, by show k + 0 + 3 ≤ 400; omega, by show n + 0 + 18 ≤ 2400; omega⟩ (fun _ h => absurd h List.not_mem_nil) (fun r36 S37 => ?_)
    refine K_bipush (v := 8) dL_isWhole_13 (by decide) ?_
    refine K_icmp_ne (tgt := 22) dL_isWhole_15 (by decide) (fun c54 => ?_) (fun c54 => ?_)
    · refine K_iconst (v := 0) dL_isWhole_22 (by decide) ?_
      refine K_istore_n (ls' := [(0, _), (1, _), (2, _), (3, _)]) dL_isWhole_23 rfl (by decide) rfl ?_
      refine K_iload_n dL_isWhole_24 rfl rfl ?_
      refine K_iload_n dL_isWhole_25 rfl rfl ?_
      refine K_iconst (v := 2) dL_isWhole_26 (by decide) ?_
      refine K_icmp_ge (tgt := 47) dL_isWhole_27 (by decide) (fun c45 => ?_) (fun c45 => ?_)
      · refine K_iconst (v := 0) dL_isWhole_47 (by decide) ?_
        refine K_icmp_eq (tgt := 53) dL_isWhole_48 (by decide) (fun c38 => ?_) (fun c38 => ?_)
        · refine K_iinc (v := (x2 + 1)) (ls' := [(0, _), (1, _), (2, _), (3, _)]) dL_isWhole_53 rfl rfl (by decide) rfl ?_
          refine K_goto (tgt := 2) dL_isWhole_56 (by decide) ?_
          refine K.keep [0, 1, 2] ?_
          exact hrc _ _ x1 (x2 + 1) S37 (by show k + 3 + F ≤ 400; omega) (by show n + 18 + 6 * F ≤ 2400; omega)
        · refine K_iconst (v := 0) dL_isWhole_51 (by decide) ?_
          exact K_zret dL_isWhole_52 hQ rfl rfl (by show k + 3 ≤ 400; omega) (by show n + 18 ≤ 2400; omega)
      · refine K_aload_n dL_isWhole_30 rfl rfl ?_
        refine K_iload_n dL_isWhole_31 rfl rfl ?_
        refine K_iload_n dL_isWhole_32 rfl rfl ?_
        refine K_iconst (v := 1) dL_isWhole_33 (by decide) ?_
        refine K_iadd dL_isWhole_34 ?_
        refine K_bind (fun u39 hu39 => ?_)
        refine K_callH (As := [.int x1, .int (x2 + 1)]) (k_X11_localSlot fu hE ha0 hu39) dL_isWhole_35 v_L_20 ha0 rfl rfl rfl rfl (Nat.le_of_ble_eq_true rfl) ⟨Nat.le_of_ble_eq_true rfl, Nat.le_of_ble_eq_true rfl, by show k + 3 + 3 ≤ 400; omega, by show n + 18 + 18 ≤ 2400; omega⟩ (fun _ h => absurd h List.not_mem_nil) (fun r40 S41 => ?_)
        refine K_bipush (v := (-3)) dL_isWhole_38 (by decide) ?_
        refine K_icmp_ne (tgt := 47) dL_isWhole_40 (by decide) (fun c44 => ?_) (fun c44 => ?_)
        · refine K_iconst (v := 0) dL_isWhole_47 (by decide) ?_
          refine K_icmp_eq (tgt := 53) dL_isWhole_48 (by decide) (fun c42 => ?_) (fun c42 => ?_)
          · refine K_iinc (v := (x2 + 1)) (ls' := [(0, _), (1, _), (2, _), (3, _)]) dL_isWhole_53 rfl rfl (by decide) rfl ?_
            refine K_goto (tgt := 2) dL_isWhole_56 (by decide) ?_
            refine K.keep [0, 1, 2] ?_
            exact hrc _ _ x1 (x2 + 1) S41 (by show k + 6 + F ≤ 400; omega) (by show n + 36 + 6 * F ≤ 2400; omega)
          · refine K_iconst (v := 0) dL_isWhole_51 (by decide) ?_
            exact K_zret dL_isWhole_52 hQ rfl rfl (by show k + 6 ≤ 400; omega) (by show n + 36 ≤ 2400; omega)
        · refine K_iconst (v := 1) dL_isWhole_43 (by decide) ?_
          refine K_goto (tgt := 48) dL_isWhole_44 (by decide) ?_
          refine K_icmp_eq (tgt := 53) dL_isWhole_48 (by decide) (fun c43 => ?_) (fun c43 => ?_)
          · refine K_iinc (v := (x2 + 1)) (ls' := [(0, _), (1, _), (2, _), (3, _)]) dL_isWhole_53 rfl rfl (by decide) rfl ?_
            refine K_goto (tgt := 2) dL_isWhole_56 (by decide) ?_
            refine K.keep [0, 1, 2] ?_
            exact hrc _ _ x1 (x2 + 1) S41 (by show k + 6 + F ≤ 400; omega) (by show n + 36 + 6 * F ≤ 2400; omega)
          · refine K_iconst (v := 0) dL_isWhole_51 (by decide) ?_
            exact K_zret dL_isWhole_52 hQ rfl rfl (by show k + 6 ≤ 400; omega) (by show n + 36 ≤ 2400; omega)
    · refine K_iconst (v := 1) dL_isWhole_18 (by decide) ?_
      refine K_goto (tgt := 23) dL_isWhole_19 (by decide) ?_
      refine K_istore_n (ls' := [(0, _), (1, _), (2, _), (3, _)]) dL_isWhole_23 rfl (by decide) rfl ?_
      refine K_iload_n dL_isWhole_24 rfl rfl ?_
      refine K_iload_n dL_isWhole_25 rfl rfl ?_
      refine K_iconst (v := 2) dL_isWhole_26 (by decide) ?_
      refine K_icmp_ge (tgt := 47) dL_isWhole_27 (by decide) (fun c53 => ?_) (fun c53 => ?_)
      · refine K_iconst (v := 0) dL_isWhole_47 (by decide) ?_
        refine K_icmp_eq (tgt := 53) dL_isWhole_48 (by decide) (fun c46 => ?_) (fun c46 => ?_)
        · refine K_iinc (v := (x2 + 1)) (ls' := [(0, _), (1, _), (2, _), (3, _)]) dL_isWhole_53 rfl rfl (by decide) rfl ?_
          refine K_goto (tgt := 2) dL_isWhole_56 (by decide) ?_
          refine K.keep [0, 1, 2] ?_
          exact hrc _ _ x1 (x2 + 1) S37 (by show k + 3 + F ≤ 400; omega) (by show n + 18 + 6 * F ≤ 2400; omega)
        · refine K_iconst (v := 0) dL_isWhole_51 (by decide) ?_
          exact K_zret dL_isWhole_52 hQ rfl rfl (by show k + 3 ≤ 400; omega) (by show n + 18 ≤ 2400; omega)
      · refine K_aload_n dL_isWhole_30 rfl rfl ?_
        refine K_iload_n dL_isWhole_31 rfl rfl ?_
        refine K_iload_n dL_isWhole_32 rfl rfl ?_
        refine K_iconst (v := 1) dL_isWhole_33 (by decide) ?_
        refine K_iadd dL_isWhole_34 ?_
        refine K_bind (fun u47 hu47 => ?_)
        refine K_callH (As := [.int x1, .int (x2 + 1)]) (k_X11_localSlot fu hE ha0 hu47) dL_isWhole_35 v_L_20 ha0 rfl rfl rfl rfl (Nat.le_of_ble_eq_true rfl) ⟨Nat.le_of_ble_eq_true rfl, Nat.le_of_ble_eq_true rfl, by show k + 3 + 3 ≤ 400; omega, by show n + 18 + 18 ≤ 2400; omega⟩ (fun _ h => absurd h List.not_mem_nil) (fun r48 S49 => ?_)
        refine K_bipush (v := (-3)) dL_isWhole_38 (by decide) ?_
        refine K_icmp_ne (tgt := 47) dL_isWhole_40 (by decide) (fun c52 => ?_) (fun c52 => ?_)
        · refine K_iconst (v := 0) dL_isWhole_47 (by decide) ?_
          refine K_icmp_eq (tgt := 53) dL_isWhole_48 (by decide) (fun c50 => ?_) (fun c50 => ?_)
          · refine K_iinc (v := (x2 + 1)) (ls' := [(0, _), (1, _), (2, _), (3, _)]) dL_isWhole_53 rfl rfl (by decide) rfl ?_
            refine K_goto (tgt := 2) dL_isWhole_56 (by decide) ?_
            refine K.keep [0, 1, 2] ?_
            exact hrc _ _ x1 (x2 + 1) S49 (by show k + 6 + F ≤ 400; omega) (by show n + 36 + 6 * F ≤ 2400; omega)
          · refine K_iconst (v := 0) dL_isWhole_51 (by decide) ?_
            exact K_zret dL_isWhole_52 hQ rfl rfl (by show k + 6 ≤ 400; omega) (by show n + 36 ≤ 2400; omega)
        · refine K_iconst (v := 1) dL_isWhole_43 (by decide) ?_
          refine K_goto (tgt := 48) dL_isWhole_44 (by decide) ?_
          refine K_icmp_eq (tgt := 53) dL_isWhole_48 (by decide) (fun c51 => ?_) (fun c51 => ?_)
          · refine K_iinc (v := (x2 + 1)) (ls' := [(0, _), (1, _), (2, _), (3, _)]) dL_isWhole_53 rfl rfl (by decide) rfl ?_
            refine K_goto (tgt := 2) dL_isWhole_56 (by decide) ?_
            refine K.keep [0, 1, 2] ?_
            exact hrc _ _ x1 (x2 + 1) S49 (by show k + 6 + F ≤ 400; omega) (by show n + 36 + 6 * F ≤ 2400; omega)
          · refine K_iconst (v := 0) dL_isWhole_51 (by decide) ?_
            exact K_zret dL_isWhole_52 hQ rfl rfl (by show k + 6 ≤ 400; omega) (by show n + 36 ≤ 2400; omega)
theorem kl_L_isWhole_2 {X : Cx} {E : Ev} {t : Int32 × St} {a0 : Nat} (hQ : EndR mL_isWhole X (PoI E t)) (hE : WE E) (ha0 : E.1 a0 = some (0, 9, 0)) (fu : Nat) : ∀ (f F k n : Nat) (_ : 16 * f + 240 ≤ F) (x1 : Int32) (x2 : Int32) (S : St), k + F ≤ 400 → n + 6 * F ≤ 2400 → K mL_isWhole X E 2 [(0, .ref a0), (1, .int x1), (2, .int x2)] [] S k n (lp_L_isWhole_2 fu E a0 f x1 x2 S) t := by
  intro f
  induction f with
  | zero => intro F k n _ x1 x2 S _ _; exact K_none
  | succ f ih =>
    intro F k n h0 x1 x2 S h1 h2
    have g0 : 16 * f + 240 ≤ F - 16 := by omega
    have g1 : 240 ≤ F - 16 := by omega
    have g2 : k + (16 + (F - 16)) ≤ 400 := by omega
    have g3 : n + 6 * (16 + (F - 16)) ≤ 2400 := by omega
    show K _ _ _ _ _ _ _ _ _ (bd_L_isWhole_2 fu E a0 (lp_L_isWhole_2 fu E a0 f) x1 x2 S) t
    exact kb_L_isWhole_2 hQ hE ha0 fu (rc := lp_L_isWhole_2 fu E a0 f) (F - 16) k n g1 g2 g3 (fun k n x1 x2 S h1 h2 => ih (F - 16) k n g0 x1 x2 S h1 h2) x1 x2 S
def sp_L_isWhole (fu : Nat) (E : Ev) (S : St) (a0 : Nat) (x1 : Int32) : Option (Int32 × St) :=
  lp_L_isWhole_2 fu E a0 5 x1 0 S
set_option maxRecDepth 100000 in
theorem k_L_isWhole {l : Launch} (fu : Nat) {E : Ev} (hE : WE E) {a0 : Nat} (ha0 : E.1 a0 = some (0, 9, 0)) {x1 : Int32} {S : St} {t : Int32 × St} (h : sp_L_isWhole fu E S a0 x1 = some t) : Cn l mL_isWhole [.ref a0, .int x1] (hp E S) (PoI E t) := by
  refine Cn.of (by decide) rfl (Nat.le_of_ble_eq_true rfl) (fun X _ _ hQ => ?_)
  refine (?_ : K mL_isWhole X E 0 [(0, .ref a0), (1, .int x1)] [] S 0 0 (sp_L_isWhole fu E S a0 x1) t) h
  unfold sp_L_isWhole
  refine K_iconst (v := 0) dL_isWhole_0 (by decide) ?_
  refine K_istore_n (ls' := [(0, _), (1, _), (2, _)]) dL_isWhole_1 rfl (by decide) rfl ?_
  refine K.keep [0, 1, 2] ?_
  exact kl_L_isWhole_2 hQ hE ha0 fu 5 320 _ _ (by decide) x1 0 S (by show 0 + 0 + (320) ≤ 400; omega) (by show 0 + 0 + 6 * (320) ≤ 2400; omega)
