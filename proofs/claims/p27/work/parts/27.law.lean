/-! the law, from pc 8 on -/
abbrev mL_law : Mt := (yL_law, cL_law, 12, some .boolean, [], room_1)
theorem cl_X11_declareClass : CL mX11_declareClass 2 := ⟨rfl, gw (i := 454) (by decide +kernel) (by decide +kernel), gw (i := 44) (by decide +kernel) (by decide +kernel), by decide +kernel, by decide +kernel⟩
theorem v_L_31 : VL RL 31 mX11_declareClass 2 := ⟨cl_X11_declareClass, gw (i := 451) (by decide +kernel) (by decide +kernel), gw (i := 452) (by decide +kernel) (by decide +kernel), gw (i := 453) (by decide +kernel) (by decide +kernel)⟩
theorem cl_X11_parameter : CL mX11_parameter 1 := ⟨rfl, gw (i := 551) (by decide +kernel) (by decide +kernel), gw (i := 44) (by decide +kernel) (by decide +kernel), by decide +kernel, by decide +kernel⟩
theorem v_L_35 : VL RL 35 mX11_parameter 1 := ⟨cl_X11_parameter, gw (i := 548) (by decide +kernel) (by decide +kernel), gw (i := 549) (by decide +kernel) (by decide +kernel), gw (i := 550) (by decide +kernel) (by decide +kernel)⟩
theorem cl_X11_declareMethod : CL mX11_declareMethod 3 := ⟨rfl, gw (i := 569) (by decide +kernel) (by decide +kernel), gw (i := 44) (by decide +kernel) (by decide +kernel), by decide +kernel, by decide +kernel⟩
theorem v_L_38 : VL RL 38 mX11_declareMethod 3 := ⟨cl_X11_declareMethod, gw (i := 566) (by decide +kernel) (by decide +kernel), gw (i := 567) (by decide +kernel) (by decide +kernel), gw (i := 568) (by decide +kernel) (by decide +kernel)⟩
theorem cl_X11_begin : CL mX11_begin 3 := ⟨rfl, gw (i := 595) (by decide +kernel) (by decide +kernel), gw (i := 44) (by decide +kernel) (by decide +kernel), by decide +kernel, by decide +kernel⟩
theorem v_L_42 : VL RL 42 mX11_begin 3 := ⟨cl_X11_begin, gw (i := 592) (by decide +kernel) (by decide +kernel), gw (i := 593) (by decide +kernel) (by decide +kernel), gw (i := 594) (by decide +kernel) (by decide +kernel)⟩
theorem cl_L_cell : CL mL_cell 2 := ⟨rfl, gw (i := 1012) (by decide +kernel) (by decide +kernel), gw (i := 43) (by decide +kernel) (by decide +kernel), by decide +kernel, by decide +kernel⟩
theorem s_L_45 : SL RL 45 mL_cell 2 := ⟨cl_L_cell, Or.inl (gw (i := 1010) (by decide +kernel) (by decide +kernel)), gw (i := 1011) (by decide +kernel) (by decide +kernel)⟩
theorem cl_X11_infer : CL mX11_infer 0 := ⟨rfl, gw (i := 696) (by decide +kernel) (by decide +kernel), gw (i := 44) (by decide +kernel) (by decide +kernel), by decide +kernel, by decide +kernel⟩
theorem v_L_56 : VL RL 56 mX11_infer 0 := ⟨cl_X11_infer, gw (i := 693) (by decide +kernel) (by decide +kernel), gw (i := 694) (by decide +kernel) (by decide +kernel), gw (i := 695) (by decide +kernel) (by decide +kernel)⟩
theorem cl_X11_errorPosition : CL mX11_errorPosition 0 := ⟨rfl, gw (i := 982) (by decide +kernel) (by decide +kernel), gw (i := 44) (by decide +kernel) (by decide +kernel), by decide +kernel, by decide +kernel⟩
theorem v_L_60 : VL RL 60 mX11_errorPosition 0 := ⟨cl_X11_errorPosition, gw (i := 979) (by decide +kernel) (by decide +kernel), gw (i := 980) (by decide +kernel) (by decide +kernel), gw (i := 981) (by decide +kernel) (by decide +kernel)⟩
theorem cl_X11_digest : CL mX11_digest 0 := ⟨rfl, gw (i := 999) (by decide +kernel) (by decide +kernel), gw (i := 44) (by decide +kernel) (by decide +kernel), by decide +kernel, by decide +kernel⟩
theorem v_L_63 : VL RL 63 mX11_digest 0 := ⟨cl_X11_digest, gw (i := 996) (by decide +kernel) (by decide +kernel), gw (i := 997) (by decide +kernel) (by decide +kernel), gw (i := 998) (by decide +kernel) (by decide +kernel)⟩
theorem cl_X11_adoptFrames : CL mX11_adoptFrames 0 := ⟨rfl, gw (i := 652) (by decide +kernel) (by decide +kernel), gw (i := 44) (by decide +kernel) (by decide +kernel), by decide +kernel, by decide +kernel⟩
theorem v_L_75 : VL RL 75 mX11_adoptFrames 0 := ⟨cl_X11_adoptFrames, gw (i := 649) (by decide +kernel) (by decide +kernel), gw (i := 650) (by decide +kernel) (by decide +kernel), gw (i := 651) (by decide +kernel) (by decide +kernel)⟩
theorem cl_X11_check : CL mX11_check 0 := ⟨rfl, gw (i := 959) (by decide +kernel) (by decide +kernel), gw (i := 44) (by decide +kernel) (by decide +kernel), by decide +kernel, by decide +kernel⟩
theorem v_L_78 : VL RL 78 mX11_check 0 := ⟨cl_X11_check, gw (i := 956) (by decide +kernel) (by decide +kernel), gw (i := 957) (by decide +kernel) (by decide +kernel), gw (i := 958) (by decide +kernel) (by decide +kernel)⟩
theorem cl_X11_hasFrame : CL mX11_hasFrame 1 := ⟨rfl, gw (i := 990) (by decide +kernel) (by decide +kernel), gw (i := 44) (by decide +kernel) (by decide +kernel), by decide +kernel, by decide +kernel⟩
theorem v_L_67 : VL RL 67 mX11_hasFrame 1 := ⟨cl_X11_hasFrame, gw (i := 987) (by decide +kernel) (by decide +kernel), gw (i := 988) (by decide +kernel) (by decide +kernel), gw (i := 989) (by decide +kernel) (by decide +kernel)⟩
theorem cl_X11_visits : CL mX11_visits 0 := ⟨rfl, gw (i := 986) (by decide +kernel) (by decide +kernel), gw (i := 44) (by decide +kernel) (by decide +kernel), by decide +kernel, by decide +kernel⟩
theorem v_L_81 : VL RL 81 mX11_visits 0 := ⟨cl_X11_visits, gw (i := 983) (by decide +kernel) (by decide +kernel), gw (i := 984) (by decide +kernel) (by decide +kernel), gw (i := 985) (by decide +kernel) (by decide +kernel)⟩
theorem cl_L_isWhole : CL mL_isWhole 2 := ⟨rfl, gw (i := 1019) (by decide +kernel) (by decide +kernel), gw (i := 43) (by decide +kernel) (by decide +kernel), by decide +kernel, by decide +kernel⟩
theorem s_L_71 : SL RL 71 mL_isWhole 2 := ⟨cl_L_isWhole, Or.inl (gw (i := 1017) (by decide +kernel) (by decide +kernel)), gw (i := 1018) (by decide +kernel) (by decide +kernel)⟩
theorem cl_X11_addHandler : CL mX11_addHandler 4 := ⟨rfl, gw (i := 642) (by decide +kernel) (by decide +kernel), gw (i := 44) (by decide +kernel) (by decide +kernel), by decide +kernel, by decide +kernel⟩
theorem v_L_52 : VL RL 52 mX11_addHandler 4 := ⟨cl_X11_addHandler, gw (i := 639) (by decide +kernel) (by decide +kernel), gw (i := 640) (by decide +kernel) (by decide +kernel), gw (i := 641) (by decide +kernel) (by decide +kernel)⟩
theorem cl_L_emit : CL mL_emit 3 := ⟨rfl, gw (i := 1016) (by decide +kernel) (by decide +kernel), gw (i := 43) (by decide +kernel) (by decide +kernel), by decide +kernel, by decide +kernel⟩
theorem s_L_49 : SL RL 49 mL_emit 3 := ⟨cl_L_emit, Or.inl (gw (i := 1014) (by decide +kernel) (by decide +kernel)), gw (i := 1015) (by decide +kernel) (by decide +kernel)⟩
def jb_L_law_397 (fu : Nat) (E : Ev) (xs : Nat → Int32) (L a1 : Nat) (x2 : Int32) (x5 : Int32) (x9 : Int32) (S : St) : Option (Int32 × St) :=
  if x5 = 0 then (
    (sp_X11_adoptFrames fu E S a1).bind fun u47 => hcat u47 [] fun r48 S49 =>
    if r48 < 0 then (
      some (0, S49)
    ) else (
      if r48 ≤ x2 then (
        (sp_X11_check fu E S49 a1).bind fun u50 => hcat u50 [] fun r51 S52 =>
        if x9 = 0 then (
          if r51 = 10 then (
            (sp_X11_errorPosition fu E S52 a1).bind fun u53 =>
            (sp_X11_hasFrame fu E u53.2 a1 u53.1).bind fun u54 => hcat u54 [] fun r55 S56 =>
            if r55 = 0 then (
              some (1, S56)
            ) else (
              some (0, S56)
            )
          ) else (
            some (0, S52)
          )
        ) else (
          if r51 = 0 then (
            (sp_X11_visits fu E S52 a1).bind fun u59 =>
            if u59.1 = x2 then (
              (sp_X11_errorPosition fu E u59.2 a1).bind fun u60 =>
              if u60.1 = (-1) then (
                some (1, u60.2)
              ) else (
                some (0, u60.2)
              )
            ) else (
              some (0, u59.2)
            )
          ) else (
            some (0, S52)
          )
        )
      ) else (
        some (0, S49)
      )
    )
  ) else (
    some (1, S)
  )
set_option maxRecDepth 100000 in
theorem kj_L_law_397 {X : Cx} {E : Ev} {t : Int32 × St} {b L a1 : Nat} {xs : Nat → Int32} (hQ : EndL mL_law X) (ht : t.1 = 1) (hE : WE E) (hs : Scr X b L xs) (ha1 : E.1 a1 = some (0, 9, 0)) (fu : Nat) (k n : Nat) (x2 : Int32) (x5 : Int32) (x9 : Int32) (S : St) (hk : k + (90) ≤ 600104) (hn : n + 6 * (90) ≤ 7301314) : K mL_law X E 397 [(1, .ref a1), (2, .int x2), (5, .int x5), (9, .int x9)] [] S k n (jb_L_law_397 fu E xs L a1 x2 x5 x9 S) t := by
  unfold jb_L_law_397
  refine K_iload dL_law_397 rfl ?_
  refine K_if_eq (tgt := 404) dL_law_399 (by decide) (fun c67 => ?_) (fun c67 => ?_)
  · refine K_aload_n dL_law_404 rfl rfl ?_
    refine K_bind (fun u47 hu47 => ?_)
    refine K_callH (As := []) (k_X11_adoptFrames fu hE ha1 hu47) dL_law_405 v_L_75 ha1 rfl rfl rfl rfl (Nat.le_of_ble_eq_true rfl) ⟨Nat.le_of_ble_eq_true rfl, Nat.le_of_ble_eq_true rfl, by show k + 0 + 1 ≤ 600104; omega, by show n + 0 + 6 ≤ 7301314; omega⟩ (fun _ h => absurd h List.not_mem_nil) (fun r48 S49 => ?_)
    refine K_istore (ls' := [(1, _), (2, _), (5, _), (9, _), (10, _)]) dL_law_408 (by decide) rfl ?_
    refine K_iload dL_law_410 rfl ?_
    refine K_if_lt (tgt := 421) dL_law_412 (by decide) (fun c66 => ?_) (fun c66 => ?_)
    · refine K_iconst (v := 0) dL_law_421 (by decide) ?_
      exact K_lawret hQ ht dL_law_422 (by show k + 1 ≤ 600104; omega) (by show n + 6 ≤ 7301314; omega)
    · refine K_iload dL_law_415 rfl ?_
      refine K_iload_n dL_law_417 rfl rfl ?_
      refine K_icmp_le (tgt := 423) dL_law_418 (by decide) (fun c65 => ?_) (fun c65 => ?_)
      · refine K_aload_n dL_law_423 rfl rfl ?_
        refine K_bind (fun u50 hu50 => ?_)
        refine K_callH (As := []) (k_X11_check fu hE ha1 hu50) dL_law_424 v_L_78 ha1 rfl rfl rfl rfl (Nat.le_of_ble_eq_true rfl) ⟨Nat.le_of_ble_eq_true rfl, Nat.le_of_ble_eq_true rfl, by show k + 1 + 1 ≤ 600104; omega, by show n + 6 + 6 ≤ 7301314; omega⟩ (fun _ h => absurd h List.not_mem_nil) (fun r51 S52 => ?_)
        refine K_istore (ls' := [(1, _), (2, _), (5, _), (9, _), (10, _), (11, _)]) dL_law_427 (by decide) rfl ?_
        refine K_iload dL_law_429 rfl ?_
        refine K_if_eq (tgt := 463) dL_law_431 (by decide) (fun c64 => ?_) (fun c64 => ?_)
        · refine K_iload dL_law_463 rfl ?_
          refine K_bipush (v := 10) dL_law_465 (by decide) ?_
          refine K_icmp_ne (tgt := 485) dL_law_467 (by decide) (fun c58 => ?_) (fun c58 => ?_)
          · refine K_iconst (v := 0) dL_law_485 (by decide) ?_
            exact K_lawret hQ ht dL_law_486 (by show k + 2 ≤ 600104; omega) (by show n + 12 ≤ 7301314; omega)
          · refine K_aload_n dL_law_470 rfl rfl ?_
            refine K_aload_n dL_law_471 rfl rfl ?_
            refine K_bind (fun u53 hu53 => ?_)
            refine K_callVI (As := []) (k_X11_errorPosition fu hE ha1 hu53) dL_law_472 v_L_60 ha1 rfl rfl rfl rfl (Nat.le_of_ble_eq_true rfl) ⟨Nat.le_of_ble_eq_true rfl, Nat.le_of_ble_eq_true rfl, by show k + 2 + 0 ≤ 600104; omega, by show n + 12 + 0 ≤ 7301314; omega⟩ ?_
            refine K_bind (fun u54 hu54 => ?_)
            refine K_callH (As := [.int u53.1]) (k_X11_hasFrame fu hE ha1 hu54) dL_law_475 v_L_67 ha1 rfl rfl rfl rfl (Nat.le_of_ble_eq_true rfl) ⟨Nat.le_of_ble_eq_true rfl, Nat.le_of_ble_eq_true rfl, by show k + 2 + 1 ≤ 600104; omega, by show n + 12 + 6 ≤ 7301314; omega⟩ (fun _ h => absurd h List.not_mem_nil) (fun r55 S56 => ?_)
            refine K_if_ne (tgt := 485) dL_law_478 (by decide) (fun c57 => ?_) (fun c57 => ?_)
            · refine K_iconst (v := 0) dL_law_485 (by decide) ?_
              exact K_lawret hQ ht dL_law_486 (by show k + 3 ≤ 600104; omega) (by show n + 18 ≤ 7301314; omega)
            · refine K_iconst (v := 1) dL_law_481 (by decide) ?_
              refine K_goto (tgt := 486) dL_law_482 (by decide) ?_
              exact K_lawret hQ ht dL_law_486 (by show k + 3 ≤ 600104; omega) (by show n + 18 ≤ 7301314; omega)
        · refine K_iload dL_law_434 rfl ?_
          refine K_if_ne (tgt := 459) dL_law_436 (by decide) (fun c63 => ?_) (fun c63 => ?_)
          · refine K_iconst (v := 0) dL_law_459 (by decide) ?_
            refine K_goto (tgt := 486) dL_law_460 (by decide) ?_
            exact K_lawret hQ ht dL_law_486 (by show k + 2 ≤ 600104; omega) (by show n + 12 ≤ 7301314; omega)
          · refine K_aload_n dL_law_439 rfl rfl ?_
            refine K_bind (fun u59 hu59 => ?_)
            refine K_callVI (As := []) (k_X11_visits fu hE ha1 hu59) dL_law_440 v_L_81 ha1 rfl rfl rfl rfl (Nat.le_of_ble_eq_true rfl) ⟨Nat.le_of_ble_eq_true rfl, Nat.le_of_ble_eq_true rfl, by show k + 2 + 0 ≤ 600104; omega, by show n + 12 + 0 ≤ 7301314; omega⟩ ?_
            refine K_iload_n dL_law_443 rfl rfl ?_
            refine K_icmp_ne (tgt := 459) dL_law_444 (by decide) (fun c62 => ?_) (fun c62 => ?_)
            · refine K_iconst (v := 0) dL_law_459 (by decide) ?_
              refine K_goto (tgt := 486) dL_law_460 (by decide) ?_
              exact K_lawret hQ ht dL_law_486 (by show k + 2 ≤ 600104; omega) (by show n + 12 ≤ 7301314; omega)
            · refine K_aload_n dL_law_447 rfl rfl ?_
              refine K_bind (fun u60 hu60 => ?_)
              refine K_callVI (As := []) (k_X11_errorPosition fu hE ha1 hu60) dL_law_448 v_L_60 ha1 rfl rfl rfl rfl (Nat.le_of_ble_eq_true rfl) ⟨Nat.le_of_ble_eq_true rfl, Nat.le_of_ble_eq_true rfl, by show k + 2 + 0 ≤ 600104; omega, by show n + 12 + 0 ≤ 7301314; omega⟩ ?_
              refine K_iconst (v := (-1)) dL_law_451 (by decide) ?_
              refine K_icmp_ne (tgt := 459) dL_law_452 (by decide) (fun c61 => ?_) (fun c61 => ?_)
              · refine K_iconst (v := 0) dL_law_459 (by decide) ?_
                refine K_goto (tgt := 486) dL_law_460 (by decide) ?_
                exact K_lawret hQ ht dL_law_486 (by show k + 2 ≤ 600104; omega) (by show n + 12 ≤ 7301314; omega)
              · refine K_iconst (v := 1) dL_law_455 (by decide) ?_
                refine K_goto (tgt := 486) dL_law_456 (by decide) ?_
                exact K_lawret hQ ht dL_law_486 (by show k + 2 ≤ 600104; omega) (by show n + 12 ≤ 7301314; omega)
      · refine K_iconst (v := 0) dL_law_421 (by decide) ?_
        exact K_lawret hQ ht dL_law_422 (by show k + 1 ≤ 600104; omega) (by show n + 6 ≤ 7301314; omega)
  · refine K_iconst (v := 1) dL_law_402 (by decide) ?_
    exact K_lawret hQ ht dL_law_403 (by show k + 0 ≤ 600104; omega) (by show n + 0 ≤ 7301314; omega)
def bd_L_law_325 (fu : Nat) (E : Ev) (xs : Nat → Int32) (L a1 : Nat) (rc : Int32 → Int32 → Int32 → Int32 → St → Option (Int32 × St)) (x2 : Int32) (x5 : Int32) (x9 : Int32) (x10 : Int32) (S : St) : Option (Int32 × St) :=
  if x2 ≤ x10 then (
    jb_L_law_397 fu E xs L a1 x2 x5 x9 S
  ) else (
    if x5 = 0 then (
      if x5 = 0 then (
        (sp_X11_hasFrame fu E S a1 x10).bind fun u73 => hcat u73 [] fun r74 S75 =>
        if r74 = 0 then (
          if x9 = 0 then (
            rc x2 x5 0 (x10 + 1) S75
          ) else (
            (sp_X11_hasFrame fu E S75 a1 x10).bind fun u76 => hcat u76 [] fun r77 S78 =>
            if r77 = 0 then (
              rc x2 x5 0 (x10 + 1) S78
            ) else (
              rc x2 x5 1 (x10 + 1) S78
            )
          )
        ) else (
          (sp_L_isWhole fu E S75 a1 x10).bind fun u81 =>
          if u81.1 = 0 then (
            some (0, u81.2)
          ) else (
            if x9 = 0 then (
              rc x2 x5 0 (x10 + 1) u81.2
            ) else (
              (sp_X11_hasFrame fu E u81.2 a1 x10).bind fun u82 => hcat u82 [] fun r83 S84 =>
              if r83 = 0 then (
                rc x2 x5 0 (x10 + 1) S84
              ) else (
                rc x2 x5 1 (x10 + 1) S84
              )
            )
          )
        )
      ) else (
        if x9 = 0 then (
          rc x2 x5 0 (x10 + 1) S
        ) else (
          (sp_X11_hasFrame fu E S a1 x10).bind fun u68 => hcat u68 [] fun r69 S70 =>
          if r69 = 0 then (
            rc x2 x5 0 (x10 + 1) S70
          ) else (
            rc x2 x5 1 (x10 + 1) S70
          )
        )
      )
    ) else (
      (sp_X11_hasFrame fu E S a1 x10).bind fun u90 => hcat u90 [] fun r91 S92 =>
      if r91 = 0 then (
        if x5 = 0 then (
          (sp_X11_hasFrame fu E S92 a1 x10).bind fun u98 => hcat u98 [] fun r99 S100 =>
          if r99 = 0 then (
            if x9 = 0 then (
              rc x2 x5 0 (x10 + 1) S100
            ) else (
              (sp_X11_hasFrame fu E S100 a1 x10).bind fun u101 => hcat u101 [] fun r102 S103 =>
              if r102 = 0 then (
                rc x2 x5 0 (x10 + 1) S103
              ) else (
                rc x2 x5 1 (x10 + 1) S103
              )
            )
          ) else (
            (sp_L_isWhole fu E S100 a1 x10).bind fun u106 =>
            if u106.1 = 0 then (
              some (0, u106.2)
            ) else (
              if x9 = 0 then (
                rc x2 x5 0 (x10 + 1) u106.2
              ) else (
                (sp_X11_hasFrame fu E u106.2 a1 x10).bind fun u107 => hcat u107 [] fun r108 S109 =>
                if r108 = 0 then (
                  rc x2 x5 0 (x10 + 1) S109
                ) else (
                  rc x2 x5 1 (x10 + 1) S109
                )
              )
            )
          )
        ) else (
          if x9 = 0 then (
            rc x2 x5 0 (x10 + 1) S92
          ) else (
            (sp_X11_hasFrame fu E S92 a1 x10).bind fun u93 => hcat u93 [] fun r94 S95 =>
            if r94 = 0 then (
              rc x2 x5 0 (x10 + 1) S95
            ) else (
              rc x2 x5 1 (x10 + 1) S95
            )
          )
        )
      ) else (
        some (0, S92)
      )
    )
  )
def lp_L_law_325 (fu : Nat) (E : Ev) (xs : Nat → Int32) (L a1 : Nat) : Nat → Int32 → Int32 → Int32 → Int32 → St → Option (Int32 × St)
  | 0, _, _, _, _, _ => none
  | f + 1, x2, x5, x9, x10, S => bd_L_law_325 fu E xs L a1 (lp_L_law_325 fu E xs L a1 f) x2 x5 x9 x10 S
set_option maxRecDepth 100000 in
theorem kb_L_law_325 {X : Cx} {E : Ev} {t : Int32 × St} {b L a1 : Nat} {xs : Nat → Int32} (hQ : EndL mL_law X) (ht : t.1 = 1) (hE : WE E) (hs : Scr X b L xs) (ha1 : E.1 a1 = some (0, 9, 0)) (fu : Nat) {rc : Int32 → Int32 → Int32 → Int32 → St → Option (Int32 × St)} (F k n : Nat) (hF : 100 ≤ F) (hk : k + (410 + F) ≤ 600104) (hn : n + 6 * (410 + F) ≤ 7301314) (hrc : ∀ (k n : Nat) (x2 : Int32) (x5 : Int32) (x9 : Int32) (x10 : Int32) (S : St), k + F ≤ 600104 → n + 6 * F ≤ 7301314 → K mL_law X E 325 [(1, .ref a1), (2, .int x2), (5, .int x5), (9, .int x9), (10, .int x10)] [] S k n (rc x2 x5 x9 x10 S) t) (x2 : Int32) (x5 : Int32) (x9 : Int32) (x10 : Int32) (S : St) : K mL_law X E 325 [(1, .ref a1), (2, .int x2), (5, .int x5), (9, .int x9), (10, .int x10)] [] S k n (bd_L_law_325 fu E xs L a1 rc x2 x5 x9 x10 S) t := by
  unfold bd_L_law_325
  refine K_iload dL_law_325 rfl ?_
  refine K_iload_n dL_law_327 rfl rfl ?_
  refine K_icmp_ge (tgt := 397) dL_law_328 (by decide) (fun c117 => ?_) (fun c117 => ?_)
  · refine K.keep [1, 2, 5, 9] ?_
    exact kj_L_law_397 hQ ht hE hs ha1 fu _ _ x2 x5 x9 S (by show k + 0 + (90) ≤ 600104; omega) (by show n + 0 + 6 * (90) ≤ 7301314; omega)
  · refine K_iload dL_law_331 rfl ?_
    refine K_if_eq (tgt := 345) dL_law_333 (by decide) (fun c116 => ?_) (fun c116 => ?_)
    · refine K_iload dL_law_345 rfl ?_
      refine K_if_ne (tgt := 370) dL_law_347 (by decide) (fun c89 => ?_) (fun c89 => ?_)
      · refine K_iload dL_law_370 rfl ?_
        refine K_if_eq (tgt := 388) dL_law_372 (by decide) (fun c72 => ?_) (fun c72 => ?_)
        · refine K_iconst (v := 0) dL_law_388 (by decide) ?_
          refine K_istore (ls' := [(1, _), (2, _), (5, _), (9, _), (10, _)]) dL_law_389 (by decide) rfl ?_
          refine K_iinc (v := (x10 + 1)) (ls' := [(1, _), (2, _), (5, _), (9, _), (10, _)]) dL_law_391 rfl rfl (by decide) rfl ?_
          refine K_goto (tgt := 325) dL_law_394 (by decide) ?_
          refine K.keep [1, 2, 5, 9, 10] ?_
          exact hrc _ _ x2 x5 0 (x10 + 1) S (by show k + 0 + F ≤ 600104; omega) (by show n + 0 + 6 * F ≤ 7301314; omega)
        · refine K_aload_n dL_law_375 rfl rfl ?_
          refine K_iload dL_law_376 rfl ?_
          refine K_bind (fun u68 hu68 => ?_)
          refine K_callH (As := [.int x10]) (k_X11_hasFrame fu hE ha1 hu68) dL_law_378 v_L_67 ha1 rfl rfl rfl rfl (Nat.le_of_ble_eq_true rfl) ⟨Nat.le_of_ble_eq_true rfl, Nat.le_of_ble_eq_true rfl, by show k + 0 + 1 ≤ 600104; omega, by show n + 0 + 6 ≤ 7301314; omega⟩ (fun _ h => absurd h List.not_mem_nil) (fun r69 S70 => ?_)
          refine K_if_eq (tgt := 388) dL_law_381 (by decide) (fun c71 => ?_) (fun c71 => ?_)
          · refine K_iconst (v := 0) dL_law_388 (by decide) ?_
            refine K_istore (ls' := [(1, _), (2, _), (5, _), (9, _), (10, _)]) dL_law_389 (by decide) rfl ?_
            refine K_iinc (v := (x10 + 1)) (ls' := [(1, _), (2, _), (5, _), (9, _), (10, _)]) dL_law_391 rfl rfl (by decide) rfl ?_
            refine K_goto (tgt := 325) dL_law_394 (by decide) ?_
            refine K.keep [1, 2, 5, 9, 10] ?_
            exact hrc _ _ x2 x5 0 (x10 + 1) S70 (by show k + 1 + F ≤ 600104; omega) (by show n + 6 + 6 * F ≤ 7301314; omega)
          · refine K_iconst (v := 1) dL_law_384 (by decide) ?_
            refine K_goto (tgt := 389) dL_law_385 (by decide) ?_
            refine K_istore (ls' := [(1, _), (2, _), (5, _), (9, _), (10, _)]) dL_law_389 (by decide) rfl ?_
            refine K_iinc (v := (x10 + 1)) (ls' := [(1, _), (2, _), (5, _), (9, _), (10, _)]) dL_law_391 rfl rfl (by decide) rfl ?_
            refine K_goto (tgt := 325) dL_law_394 (by decide) ?_
            refine K.keep [1, 2, 5, 9, 10] ?_
            exact hrc _ _ x2 x5 1 (x10 + 1) S70 (by show k + 1 + F ≤ 600104; omega) (by show n + 6 + 6 * F ≤ 7301314; omega)
      · refine K_aload_n dL_law_350 rfl rfl ?_
        refine K_iload dL_law_351 rfl ?_
        refine K_bind (fun u73 hu73 => ?_)
        refine K_callH (As := [.int x10]) (k_X11_hasFrame fu hE ha1 hu73) dL_law_353 v_L_67 ha1 rfl rfl rfl rfl (Nat.le_of_ble_eq_true rfl) ⟨Nat.le_of_ble_eq_true rfl, Nat.le_of_ble_eq_true rfl, by show k + 0 + 1 ≤ 600104; omega, by show n + 0 + 6 ≤ 7301314; omega⟩ (fun _ h => absurd h List.not_mem_nil) (fun r74 S75 => ?_)
        refine K_if_eq (tgt := 370) dL_law_356 (by decide) (fun c88 => ?_) (fun c88 => ?_)
        · refine K_iload dL_law_370 rfl ?_
          refine K_if_eq (tgt := 388) dL_law_372 (by decide) (fun c80 => ?_) (fun c80 => ?_)
          · refine K_iconst (v := 0) dL_law_388 (by decide) ?_
            refine K_istore (ls' := [(1, _), (2, _), (5, _), (9, _), (10, _)]) dL_law_389 (by decide) rfl ?_
            refine K_iinc (v := (x10 + 1)) (ls' := [(1, _), (2, _), (5, _), (9, _), (10, _)]) dL_law_391 rfl rfl (by decide) rfl ?_
            refine K_goto (tgt := 325) dL_law_394 (by decide) ?_
            refine K.keep [1, 2, 5, 9, 10] ?_
            exact hrc _ _ x2 x5 0 (x10 + 1) S75 (by show k + 1 + F ≤ 600104; omega) (by show n + 6 + 6 * F ≤ 7301314; omega)
          · refine K_aload_n dL_law_375 rfl rfl ?_
            refine K_iload dL_law_376 rfl ?_
            refine K_bind (fun u76 hu76 => ?_)
            refine K_callH (As := [.int x10]) (k_X11_hasFrame fu hE ha1 hu76) dL_law_378 v_L_67 ha1 rfl rfl rfl rfl (Nat.le_of_ble_eq_true rfl) ⟨Nat.le_of_ble_eq_true rfl, Nat.le_of_ble_eq_true rfl, by show k + 1 + 1 ≤ 600104; omega, by show n + 6 + 6 ≤ 7301314; omega⟩ (fun _ h => absurd h List.not_mem_nil) (fun r77 S78 => ?_)
            refine K_if_eq (tgt := 388) dL_law_381 (by decide) (fun c79 => ?_) (fun c79 => ?_)
            · refine K_iconst (v := 0) dL_law_388 (by decide) ?_
              refine K_istore (ls' := [(1, _), (2, _), (5, _), (9, _), (10, _)]) dL_law_389 (by decide) rfl ?_
              refine K_iinc (v := (x10 + 1)) (ls' := [(1, _), (2, _), (5, _), (9, _), (10, _)]) dL_law_391 rfl rfl (by decide) rfl ?_
              refine K_goto (tgt := 325) dL_law_394 (by decide) ?_
              refine K.keep [1, 2, 5, 9, 10] ?_
              exact hrc _ _ x2 x5 0 (x10 + 1) S78 (by show k + 2 + F ≤ 600104; omega) (by show n + 12 + 6 * F ≤ 7301314; omega)
            · refine K_iconst (v := 1) dL_law_384 (by decide) ?_
              refine K_goto (tgt := 389) dL_law_385 (by decide) ?_
              refine K_istore (ls' := [(1, _), (2, _), (5, _), (9, _), (10, _)]) dL_law_389 (by decide) rfl ?_
              refine K_iinc (v := (x10 + 1)) (ls' := [(1, _), (2, _), (5, _), (9, _), (10, _)]) dL_law_391 rfl rfl (by decide) rfl ?_
              refine K_goto (tgt := 325) dL_law_394 (by decide) ?_
              refine K.keep [1, 2, 5, 9, 10] ?_
              exact hrc _ _ x2 x5 1 (x10 + 1) S78 (by show k + 2 + F ≤ 600104; omega) (by show n + 12 + 6 * F ≤ 7301314; omega)
        · refine K_aload_n dL_law_359 rfl rfl ?_
          refine K_iload dL_law_360 rfl ?_
          refine K_bind (fun u81 hu81 => ?_)
          refine K_callSI (As := [.ref a1, .int x10]) (k_L_isWhole fu hE ha1 hu81) dL_law_362 s_L_71 rfl rfl (Nat.le_of_ble_eq_true rfl) ⟨Nat.le_of_ble_eq_true rfl, Nat.le_of_ble_eq_true rfl, by show k + 1 + 400 ≤ 600104; omega, by show n + 6 + 2400 ≤ 7301314; omega⟩ ?_
          refine K_if_ne (tgt := 370) dL_law_365 (by decide) (fun c87 => ?_) (fun c87 => ?_)
          · refine K_iload dL_law_370 rfl ?_
            refine K_if_eq (tgt := 388) dL_law_372 (by decide) (fun c86 => ?_) (fun c86 => ?_)
            · refine K_iconst (v := 0) dL_law_388 (by decide) ?_
              refine K_istore (ls' := [(1, _), (2, _), (5, _), (9, _), (10, _)]) dL_law_389 (by decide) rfl ?_
              refine K_iinc (v := (x10 + 1)) (ls' := [(1, _), (2, _), (5, _), (9, _), (10, _)]) dL_law_391 rfl rfl (by decide) rfl ?_
              refine K_goto (tgt := 325) dL_law_394 (by decide) ?_
              refine K.keep [1, 2, 5, 9, 10] ?_
              exact hrc _ _ x2 x5 0 (x10 + 1) u81.2 (by show k + 401 + F ≤ 600104; omega) (by show n + 2406 + 6 * F ≤ 7301314; omega)
            · refine K_aload_n dL_law_375 rfl rfl ?_
              refine K_iload dL_law_376 rfl ?_
              refine K_bind (fun u82 hu82 => ?_)
              refine K_callH (As := [.int x10]) (k_X11_hasFrame fu hE ha1 hu82) dL_law_378 v_L_67 ha1 rfl rfl rfl rfl (Nat.le_of_ble_eq_true rfl) ⟨Nat.le_of_ble_eq_true rfl, Nat.le_of_ble_eq_true rfl, by show k + 401 + 1 ≤ 600104; omega, by show n + 2406 + 6 ≤ 7301314; omega⟩ (fun _ h => absurd h List.not_mem_nil) (fun r83 S84 => ?_)
              refine K_if_eq (tgt := 388) dL_law_381 (by decide) (fun c85 => ?_) (fun c85 => ?_)
              · refine K_iconst (v := 0) dL_law_388 (by decide) ?_
                refine K_istore (ls' := [(1, _), (2, _), (5, _), (9, _), (10, _)]) dL_law_389 (by decide) rfl ?_
                refine K_iinc (v := (x10 + 1)) (ls' := [(1, _), (2, _), (5, _), (9, _), (10, _)]) dL_law_391 rfl rfl (by decide) rfl ?_
                refine K_goto (tgt := 325) dL_law_394 (by decide) ?_
                refine K.keep [1, 2, 5, 9, 10] ?_
                exact hrc _ _ x2 x5 0 (x10 + 1) S84 (by show k + 402 + F ≤ 600104; omega) (by show n + 2412 + 6 * F ≤ 7301314; omega)
              · refine K_iconst (v := 1) dL_law_384 (by decide) ?_
                refine K_goto (tgt := 389) dL_law_385 (by decide) ?_
                refine K_istore (ls' := [(1, _), (2, _), (5, _), (9, _), (10, _)]) dL_law_389 (by decide) rfl ?_
                refine K_iinc (v := (x10 + 1)) (ls' := [(1, _), (2, _), (5, _), (9, _), (10, _)]) dL_law_391 rfl rfl (by decide) rfl ?_
                refine K_goto (tgt := 325) dL_law_394 (by decide) ?_
                refine K.keep [1, 2, 5, 9, 10] ?_
                exact hrc _ _ x2 x5 1 (x10 + 1) S84 (by show k + 402 + F ≤ 600104; omega) (by show n + 2412 + 6 * F ≤ 7301314; omega)
          · refine K_iconst (v := 0) dL_law_368 (by decide) ?_
            exact K_lawret hQ ht dL_law_369 (by show k + 401 ≤ 600104; omega) (by show n + 2406 ≤ 7301314; omega)
    · refine K_aload_n dL_law_336 rfl rfl ?_
      refine K_iload dL_law_337 rfl ?_
      refine K_bind (fun u90 hu90 => ?_)
      refine K_callH (As := [.int x10]) (k_X11_hasFrame fu hE ha1 hu90) dL_law_339 v_L_67 ha1 rfl rfl rfl rfl (Nat.le_of_ble_eq_true rfl) ⟨Nat.le_of_ble_eq_true rfl, Nat.le_of_ble_eq_true rfl, by show k + 0 + 1 ≤ 600104; omega, by show n + 0 + 6 ≤ 7301314; omega⟩ (fun _ h => absurd h List.not_mem_nil) (fun r91 S92 => ?_)
      refine K_if_ne (tgt := 368) dL_law_342 (by decide) (fun c115 => ?_) (fun c115 => ?_)
      · refine K_iconst (v := 0) dL_law_368 (by decide) ?_
        exact K_lawret hQ ht dL_law_369 (by show k + 1 ≤ 600104; omega) (by show n + 6 ≤ 7301314; omega)
      · refine K_iload dL_law_345 rfl ?_
        refine K_if_ne (tgt := 370) dL_law_347 (by decide) (fun c114 => ?_) (fun c114 => ?_)
        · refine K_iload dL_law_370 rfl ?_
          refine K_if_eq (tgt := 388) dL_law_372 (by decide) (fun c97 => ?_) (fun c97 => ?_)
          · refine K_iconst (v := 0) dL_law_388 (by decide) ?_
            refine K_istore (ls' := [(1, _), (2, _), (5, _), (9, _), (10, _)]) dL_law_389 (by decide) rfl ?_
            refine K_iinc (v := (x10 + 1)) (ls' := [(1, _), (2, _), (5, _), (9, _), (10, _)]) dL_law_391 rfl rfl (by decide) rfl ?_
            refine K_goto (tgt := 325) dL_law_394 (by decide) ?_
            refine K.keep [1, 2, 5, 9, 10] ?_
            exact hrc _ _ x2 x5 0 (x10 + 1) S92 (by show k + 1 + F ≤ 600104; omega) (by show n + 6 + 6 * F ≤ 7301314; omega)
          · refine K_aload_n dL_law_375 rfl rfl ?_
            refine K_iload dL_law_376 rfl ?_
            refine K_bind (fun u93 hu93 => ?_)
            refine K_callH (As := [.int x10]) (k_X11_hasFrame fu hE ha1 hu93) dL_law_378 v_L_67 ha1 rfl rfl rfl rfl (Nat.le_of_ble_eq_true rfl) ⟨Nat.le_of_ble_eq_true rfl, Nat.le_of_ble_eq_true rfl, by show k + 1 + 1 ≤ 600104; omega, by show n + 6 + 6 ≤ 7301314; omega⟩ (fun _ h => absurd h List.not_mem_nil) (fun r94 S95 => ?_)
            refine K_if_eq (tgt := 388) dL_law_381 (by decide) (fun c96 => ?_) (fun c96 => ?_)
            · refine K_iconst (v := 0) dL_law_388 (by decide) ?_
              refine K_istore (ls' := [(1, _), (2, _), (5, _), (9, _), (10, _)]) dL_law_389 (by decide) rfl ?_
              refine K_iinc (v := (x10 + 1)) (ls' := [(1, _), (2, _), (5, _), (9, _), (10, _)]) dL_law_391 rfl rfl (by decide) rfl ?_
              refine K_goto (tgt := 325) dL_law_394 (by decide) ?_
              refine K.keep [1, 2, 5, 9, 10] ?_
              exact hrc _ _ x2 x5 0 (x10 + 1) S95 (by show k + 2 + F ≤ 600104; omega) (by show n + 12 + 6 * F ≤ 7301314; omega)
            · refine K_iconst (v := 1) dL_law_384 (by decide) ?_
              refine K_goto (tgt := 389) dL_law_385 (by decide) ?_
              refine K_istore (ls' := [(1, _), (2, _), (5, _), (9, _), (10, _)]) dL_law_389 (by decide) rfl ?_
              refine K_iinc (v := (x10 + 1)) (ls' := [(1, _), (2, _), (5, _), (9, _), (10, _)]) dL_law_391 rfl rfl (by decide) rfl ?_
              refine K_goto (tgt := 325) dL_law_394 (by decide) ?_
              refine K.keep [1, 2, 5, 9, 10] ?_
              exact hrc _ _ x2 x5 1 (x10 + 1) S95 (by show k + 2 + F ≤ 600104; omega) (by show n + 12 + 6 * F ≤ 7301314; omega)
        · refine K_aload_n dL_law_350 rfl rfl ?_
          refine K_iload dL_law_351 rfl ?_
          refine K_bind (fun u98 hu98 => ?_)
          refine K_callH (As := [.int x10]) (k_X11_hasFrame fu hE ha1 hu98) dL_law_353 v_L_67 ha1 rfl rfl rfl rfl (Nat.le_of_ble_eq_true rfl) ⟨Nat.le_of_ble_eq_true rfl, Nat.le_of_ble_eq_true rfl, by show k + 1 + 1 ≤ 600104; omega, by show n + 6 + 6 ≤ 7301314; omega⟩ (fun _ h => absurd h List.not_mem_nil) (fun r99 S100 => ?_)
          refine K_if_eq (tgt := 370) dL_law_356 (by decide) (fun c113 => ?_) (fun c113 => ?_)
          · refine K_iload dL_law_370 rfl ?_
            refine K_if_eq (tgt := 388) dL_law_372 (by decide) (fun c105 => ?_) (fun c105 => ?_)
            · refine K_iconst (v := 0) dL_law_388 (by decide) ?_
              refine K_istore (ls' := [(1, _), (2, _), (5, _), (9, _), (10, _)]) dL_law_389 (by decide) rfl ?_
              refine K_iinc (v := (x10 + 1)) (ls' := [(1, _), (2, _), (5, _), (9, _), (10, _)]) dL_law_391 rfl rfl (by decide) rfl ?_
              refine K_goto (tgt := 325) dL_law_394 (by decide) ?_
              refine K.keep [1, 2, 5, 9, 10] ?_
              exact hrc _ _ x2 x5 0 (x10 + 1) S100 (by show k + 2 + F ≤ 600104; omega) (by show n + 12 + 6 * F ≤ 7301314; omega)
            · refine K_aload_n dL_law_375 rfl rfl ?_
              refine K_iload dL_law_376 rfl ?_
              refine K_bind (fun u101 hu101 => ?_)
              refine K_callH (As := [.int x10]) (k_X11_hasFrame fu hE ha1 hu101) dL_law_378 v_L_67 ha1 rfl rfl rfl rfl (Nat.le_of_ble_eq_true rfl) ⟨Nat.le_of_ble_eq_true rfl, Nat.le_of_ble_eq_true rfl, by show k + 2 + 1 ≤ 600104; omega, by show n + 12 + 6 ≤ 7301314; omega⟩ (fun _ h => absurd h List.not_mem_nil) (fun r102 S103 => ?_)
              refine K_if_eq (tgt := 388) dL_law_381 (by decide) (fun c104 => ?_) (fun c104 => ?_)
              · refine K_iconst (v := 0) dL_law_388 (by decide) ?_
                refine K_istore (ls' := [(1, _), (2, _), (5, _), (9, _), (10, _)]) dL_law_389 (by decide) rfl ?_
                refine K_iinc (v := (x10 + 1)) (ls' := [(1, _), (2, _), (5, _), (9, _), (10, _)]) dL_law_391 rfl rfl (by decide) rfl ?_
                refine K_goto (tgt := 325) dL_law_394 (by decide) ?_
                refine K.keep [1, 2, 5, 9, 10] ?_
                exact hrc _ _ x2 x5 0 (x10 + 1) S103 (by show k + 3 + F ≤ 600104; omega) (by show n + 18 + 6 * F ≤ 7301314; omega)
              · refine K_iconst (v := 1) dL_law_384 (by decide) ?_
                refine K_goto (tgt := 389) dL_law_385 (by decide) ?_
                refine K_istore (ls' := [(1, _), (2, _), (5, _), (9, _), (10, _)]) dL_law_389 (by decide) rfl ?_
                refine K_iinc (v := (x10 + 1)) (ls' := [(1, _), (2, _), (5, _), (9, _), (10, _)]) dL_law_391 rfl rfl (by decide) rfl ?_
                refine K_goto (tgt := 325) dL_law_394 (by decide) ?_
                refine K.keep [1, 2, 5, 9, 10] ?_
                exact hrc _ _ x2 x5 1 (x10 + 1) S103 (by show k + 3 + F ≤ 600104; omega) (by show n + 18 + 6 * F ≤ 7301314; omega)
          · refine K_aload_n dL_law_359 rfl rfl ?_
            refine K_iload dL_law_360 rfl ?_
            refine K_bind (fun u106 hu106 => ?_)
            refine K_callSI (As := [.ref a1, .int x10]) (k_L_isWhole fu hE ha1 hu106) dL_law_362 s_L_71 rfl rfl (Nat.le_of_ble_eq_true rfl) ⟨Nat.le_of_ble_eq_true rfl, Nat.le_of_ble_eq_true rfl, by show k + 2 + 400 ≤ 600104; omega, by show n + 12 + 2400 ≤ 7301314; omega⟩ ?_
            refine K_if_ne (tgt := 370) dL_law_365 (by decide) (fun c112 => ?_) (fun c112 => ?_)
            · refine K_iload dL_law_370 rfl ?_
              refine K_if_eq (tgt := 388) dL_law_372 (by decide) (fun c111 => ?_) (fun c111 => ?_)
              · refine K_iconst (v := 0) dL_law_388 (by decide) ?_
                refine K_istore (ls' := [(1, _), (2, _), (5, _), (9, _), (10, _)]) dL_law_389 (by decide) rfl ?_
                refine K_iinc (v := (x10 + 1)) (ls' := [(1, _), (2, _), (5, _), (9, _), (10, _)]) dL_law_391 rfl rfl (by decide) rfl ?_
                refine K_goto (tgt := 325) dL_law_394 (by decide) ?_
                refine K.keep [1, 2, 5, 9, 10] ?_
                exact hrc _ _ x2 x5 0 (x10 + 1) u106.2 (by show k + 402 + F ≤ 600104; omega) (by show n + 2412 + 6 * F ≤ 7301314; omega)
              · refine K_aload_n dL_law_375 rfl rfl ?_
                refine K_iload dL_law_376 rfl ?_
                refine K_bind (fun u107 hu107 => ?_)
                refine K_callH (As := [.int x10]) (k_X11_hasFrame fu hE ha1 hu107) dL_law_378 v_L_67 ha1 rfl rfl rfl rfl (Nat.le_of_ble_eq_true rfl) ⟨Nat.le_of_ble_eq_true rfl, Nat.le_of_ble_eq_true rfl, by show k + 402 + 1 ≤ 600104; omega, by show n + 2412 + 6 ≤ 7301314; omega⟩ (fun _ h => absurd h List.not_mem_nil) (fun r108 S109 => ?_)
                refine K_if_eq (tgt := 388) dL_law_381 (by decide) (fun c110 => ?_) (fun c110 => ?_)
                · refine K_iconst (v := 0) dL_law_388 (by decide) ?_
                  refine K_istore (ls' := [(1, _), (2, _), (5, _), (9, _), (10, _)]) dL_law_389 (by decide) rfl ?_
                  refine K_iinc (v := (x10 + 1)) (ls' := [(1, _), (2, _), (5, _), (9, _), (10, _)]) dL_law_391 rfl rfl (by decide) rfl ?_
                  refine K_goto (tgt := 325) dL_law_394 (by decide) ?_
                  refine K.keep [1, 2, 5, 9, 10] ?_
                  exact hrc _ _ x2 x5 0 (x10 + 1) S109 (by show k + 403 + F ≤ 600104; omega) (by show n + 2418 + 6 * F ≤ 7301314; omega)
                · refine K_iconst (v := 1) dL_law_384 (by decide) ?_
                  refine K_goto (tgt := 389) dL_law_385 (by decide) ?_
                  refine K_istore (ls' := [(1, _), (2, _), (5, _), (9, _), (10, _)]) dL_law_389 (by decide) rfl ?_
                  refine K_iinc (v := (x10 + 1)) (ls' := [(1, _), (2, _), (5, _), (9, _), (10, _)]) dL_law_391 rfl rfl (by decide) rfl ?_
                  refine K_goto (tgt := 325) dL_law_394 (by decide) ?_
                  refine K.keep [1, 2, 5, 9, 10] ?_
                  exact hrc _ _ x2 x5 1 (x10 + 1) S109 (by show k + 403 + F ≤ 600104; omega) (by show n + 2418 + 6 * F ≤ 7301314; omega)
            · refine K_iconst (v := 0) dL_law_368 (by decide) ?_
              exact K_lawret hQ ht dL_law_369 (by show k + 402 ≤ 600104; omega) (by show n + 2412 ≤ 7301314; omega)
theorem kl_L_law_325 {X : Cx} {E : Ev} {t : Int32 × St} {b L a1 : Nat} {xs : Nat → Int32} (hQ : EndL mL_law X) (ht : t.1 = 1) (hE : WE E) (hs : Scr X b L xs) (ha1 : E.1 a1 = some (0, 9, 0)) (fu : Nat) : ∀ (f F k n : Nat) (_ : 410 * f + 100 ≤ F) (x2 : Int32) (x5 : Int32) (x9 : Int32) (x10 : Int32) (S : St), k + F ≤ 600104 → n + 6 * F ≤ 7301314 → K mL_law X E 325 [(1, .ref a1), (2, .int x2), (5, .int x5), (9, .int x9), (10, .int x10)] [] S k n (lp_L_law_325 fu E xs L a1 f x2 x5 x9 x10 S) t := by
  intro f
  induction f with
  | zero => intro F k n _ x2 x5 x9 x10 S _ _; exact K_none
  | succ f ih =>
    intro F k n h0 x2 x5 x9 x10 S h1 h2
    have g0 : 410 * f + 100 ≤ F - 410 := by omega
    have g1 : 100 ≤ F - 410 := by omega
    have g2 : k + (410 + (F - 410)) ≤ 600104 := by omega
    have g3 : n + 6 * (410 + (F - 410)) ≤ 7301314 := by omega
    show K _ _ _ _ _ _ _ _ _ (bd_L_law_325 fu E xs L a1 (lp_L_law_325 fu E xs L a1 f) x2 x5 x9 x10 S) t
    exact kb_L_law_325 hQ ht hE hs ha1 fu (rc := lp_L_law_325 fu E xs L a1 f) (F - 410) k n g1 g2 g3 (fun k n x2 x5 x9 x10 S h1 h2 => ih (F - 410) k n g0 x2 x5 x9 x10 S h1 h2) x2 x5 x9 x10 S
def jb_L_law_289 (fu : Nat) (E : Ev) (xs : Nat → Int32) (L a1 : Nat) (x2 : Int32) (x5 : Int32) (x6 : Int32) (x7 : Int64) (S : St) : Option (Int32 × St) :=
  (sp_X11_infer fu E S a1).bind fun u42 => hcat u42 [] fun r43 S44 =>
  if r43 = x5 then (
    (sp_X11_errorPosition fu E S44 a1).bind fun u45 =>
    if u45.1 = x6 then (
      (sp_X11_digest fu E u45.2 a1).bind fun u46 =>
      if (lg_cmp u46.1 x7) = 0 then (
        lp_L_law_325 fu E xs L a1 14 x2 x5 1 0 u46.2
      ) else (
        some (0, u46.2)
      )
    ) else (
      some (0, u45.2)
    )
  ) else (
    some (0, S44)
  )
set_option maxRecDepth 100000 in
theorem kj_L_law_289 {X : Cx} {E : Ev} {t : Int32 × St} {b L a1 : Nat} {xs : Nat → Int32} (hQ : EndL mL_law X) (ht : t.1 = 1) (hE : WE E) (hs : Scr X b L xs) (ha1 : E.1 a1 = some (0, 9, 0)) (fu : Nat) (k n : Nat) (x2 : Int32) (x5 : Int32) (x6 : Int32) (x7 : Int64) (S : St) (hk : k + (5960) ≤ 600104) (hn : n + 6 * (5960) ≤ 7301314) : K mL_law X E 289 [(1, .ref a1), (2, .int x2), (5, .int x5), (6, .int x6), (7, .long x7)] [] S k n (jb_L_law_289 fu E xs L a1 x2 x5 x6 x7 S) t := by
  unfold jb_L_law_289
  refine K_aload_n dL_law_289 rfl rfl ?_
  refine K_bind (fun u42 hu42 => ?_)
  refine K_callH (As := []) (k_X11_infer fu hE ha1 hu42) dL_law_290 v_L_56 ha1 rfl rfl rfl rfl (Nat.le_of_ble_eq_true rfl) ⟨Nat.le_of_ble_eq_true rfl, Nat.le_of_ble_eq_true rfl, by show k + 0 + 1 ≤ 600104; omega, by show n + 0 + 6 ≤ 7301314; omega⟩ (fun _ h => absurd h List.not_mem_nil) (fun r43 S44 => ?_)
  refine K_iload dL_law_293 rfl ?_
  refine K_icmp_ne (tgt := 317) dL_law_295 (by decide) (fun c120 => ?_) (fun c120 => ?_)
  · refine K_iconst (v := 0) dL_law_317 (by decide) ?_
    exact K_lawret hQ ht dL_law_318 (by show k + 1 ≤ 600104; omega) (by show n + 6 ≤ 7301314; omega)
  · refine K_aload_n dL_law_298 rfl rfl ?_
    refine K_bind (fun u45 hu45 => ?_)
    refine K_callVI (As := []) (k_X11_errorPosition fu hE ha1 hu45) dL_law_299 v_L_60 ha1 rfl rfl rfl rfl (Nat.le_of_ble_eq_true rfl) ⟨Nat.le_of_ble_eq_true rfl, Nat.le_of_ble_eq_true rfl, by show k + 1 + 0 ≤ 600104; omega, by show n + 6 + 0 ≤ 7301314; omega⟩ ?_
    refine K_iload dL_law_302 rfl ?_
    refine K_icmp_ne (tgt := 317) dL_law_304 (by decide) (fun c119 => ?_) (fun c119 => ?_)
    · refine K_iconst (v := 0) dL_law_317 (by decide) ?_
      exact K_lawret hQ ht dL_law_318 (by show k + 1 ≤ 600104; omega) (by show n + 6 ≤ 7301314; omega)
    · refine K_aload_n dL_law_307 rfl rfl ?_
      refine K_bind (fun u46 hu46 => ?_)
      refine K_callVL (As := []) (k_X11_digest fu hE ha1 hu46) dL_law_308 v_L_63 ha1 rfl rfl rfl rfl (Nat.le_of_ble_eq_true rfl) ⟨Nat.le_of_ble_eq_true rfl, Nat.le_of_ble_eq_true rfl, by show k + 1 + 0 ≤ 600104; omega, by show n + 6 + 0 ≤ 7301314; omega⟩ ?_
      refine K_lload dL_law_311 rfl ?_
      refine K_lcmp dL_law_313 ?_
      refine K_if_eq (tgt := 319) dL_law_314 (by decide) (fun c118 => ?_) (fun c118 => ?_)
      · refine K_iconst (v := 1) dL_law_319 (by decide) ?_
        refine K_istore (ls' := [(1, _), (2, _), (5, _), (6, _), (7, _), (9, _)]) dL_law_320 (by decide) rfl ?_
        refine K_iconst (v := 0) dL_law_322 (by decide) ?_
        refine K_istore (ls' := [(1, _), (2, _), (5, _), (6, _), (7, _), (9, _), (10, _)]) dL_law_323 (by decide) rfl ?_
        refine K.keep [1, 2, 5, 9, 10] ?_
        exact kl_L_law_325 hQ ht hE hs ha1 fu 14 5840 _ _ (by decide) x2 x5 1 0 u46.2 (by show k + 1 + (5840) ≤ 600104; omega) (by show n + 6 + 6 * (5840) ≤ 7301314; omega)
      · refine K_iconst (v := 0) dL_law_317 (by decide) ?_
        exact K_lawret hQ ht dL_law_318 (by show k + 1 ≤ 600104; omega) (by show n + 6 ≤ 7301314; omega)
def jb_L_law_258 (fu : Nat) (E : Ev) (xs : Nat → Int32) (L a1 : Nat) (x2 : Int32) (x5 : Int32) (x6 : Int32) (x7 : Int64) (y0 : Int32) (y1 : Int32) (S : St) : Option (Int32 × St) :=
  if y0 = y1 then (
    if x5 = 1 then (
      some (0, S)
    ) else (
      if x5 = 2 then (
        some (0, S)
      ) else (
        if x5 = 7 then (
          some (0, S)
        ) else (
          if x5 ≤ 10 then (
            jb_L_law_289 fu E xs L a1 x2 x5 x6 x7 S
          ) else (
            some (0, S)
          )
        )
      )
    )
  ) else (
    some (0, S)
  )
set_option maxRecDepth 100000 in
theorem kj_L_law_258 {X : Cx} {E : Ev} {t : Int32 × St} {b L a1 : Nat} {xs : Nat → Int32} (hQ : EndL mL_law X) (ht : t.1 = 1) (hE : WE E) (hs : Scr X b L xs) (ha1 : E.1 a1 = some (0, 9, 0)) (fu : Nat) (k n : Nat) (x2 : Int32) (x5 : Int32) (x6 : Int32) (x7 : Int64) (y0 : Int32) (y1 : Int32) (S : St) (hk : k + (5970) ≤ 600104) (hn : n + 6 * (5970) ≤ 7301314) : K mL_law X E 258 [(1, .ref a1), (2, .int x2), (5, .int x5), (6, .int x6), (7, .long x7)] [.int y1, .int y0] S k n (jb_L_law_258 fu E xs L a1 x2 x5 x6 x7 y0 y1 S) t := by
  unfold jb_L_law_258
  refine K_icmp_ne (tgt := 287) dL_law_258 (by decide) (fun c125 => ?_) (fun c125 => ?_)
  · refine K_iconst (v := 0) dL_law_287 (by decide) ?_
    exact K_lawret hQ ht dL_law_288 (by show k + 0 ≤ 600104; omega) (by show n + 0 ≤ 7301314; omega)
  · refine K_iload dL_law_261 rfl ?_
    refine K_iconst (v := 1) dL_law_263 (by decide) ?_
    refine K_icmp_eq (tgt := 287) dL_law_264 (by decide) (fun c124 => ?_) (fun c124 => ?_)
    · refine K_iconst (v := 0) dL_law_287 (by decide) ?_
      exact K_lawret hQ ht dL_law_288 (by show k + 0 ≤ 600104; omega) (by show n + 0 ≤ 7301314; omega)
    · refine K_iload dL_law_267 rfl ?_
      refine K_iconst (v := 2) dL_law_269 (by decide) ?_
      refine K_icmp_eq (tgt := 287) dL_law_270 (by decide) (fun c123 => ?_) (fun c123 => ?_)
      · refine K_iconst (v := 0) dL_law_287 (by decide) ?_
        exact K_lawret hQ ht dL_law_288 (by show k + 0 ≤ 600104; omega) (by show n + 0 ≤ 7301314; omega)
      · refine K_iload dL_law_273 rfl ?_
        refine K_bipush (v := 7) dL_law_275 (by decide) ?_
        refine K_icmp_eq (tgt := 287) dL_law_277 (by decide) (fun c122 => ?_) (fun c122 => ?_)
        · refine K_iconst (v := 0) dL_law_287 (by decide) ?_
          exact K_lawret hQ ht dL_law_288 (by show k + 0 ≤ 600104; omega) (by show n + 0 ≤ 7301314; omega)
        · refine K_iload dL_law_280 rfl ?_
          refine K_bipush (v := 10) dL_law_282 (by decide) ?_
          refine K_icmp_le (tgt := 289) dL_law_284 (by decide) (fun c121 => ?_) (fun c121 => ?_)
          · refine K.keep [1, 2, 5, 6, 7] ?_
            exact kj_L_law_289 hQ ht hE hs ha1 fu _ _ x2 x5 x6 x7 S (by show k + 0 + (5960) ≤ 600104; omega) (by show n + 0 + 6 * (5960) ≤ 7301314; omega)
          · refine K_iconst (v := 0) dL_law_287 (by decide) ?_
            exact K_lawret hQ ht dL_law_288 (by show k + 0 ≤ 600104; omega) (by show n + 0 ≤ 7301314; omega)
def jb_L_law_219 (fu : Nat) (E : Ev) (xs : Nat → Int32) (L a1 : Nat) (x2 : Int32) (S : St) : Option (Int32 × St) :=
  (sp_X11_infer fu E S a1).bind fun u37 => hcat u37 [] fun r38 S39 =>
  (sp_X11_errorPosition fu E S39 a1).bind fun u40 =>
  (sp_X11_digest fu E u40.2 a1).bind fun u41 =>
  if r38 = 0 then (
    if u40.1 = (-1) then (
      jb_L_law_258 fu E xs L a1 x2 r38 u40.1 u41.1 1 1 u41.2
    ) else (
      jb_L_law_258 fu E xs L a1 x2 r38 u40.1 u41.1 1 0 u41.2
    )
  ) else (
    if u40.1 = (-1) then (
      jb_L_law_258 fu E xs L a1 x2 r38 u40.1 u41.1 0 1 u41.2
    ) else (
      jb_L_law_258 fu E xs L a1 x2 r38 u40.1 u41.1 0 0 u41.2
    )
  )
set_option maxRecDepth 100000 in
theorem kj_L_law_219 {X : Cx} {E : Ev} {t : Int32 × St} {b L a1 : Nat} {xs : Nat → Int32} (hQ : EndL mL_law X) (ht : t.1 = 1) (hE : WE E) (hs : Scr X b L xs) (ha1 : E.1 a1 = some (0, 9, 0)) (fu : Nat) (k n : Nat) (x2 : Int32) (S : St) (hk : k + (5980) ≤ 600104) (hn : n + 6 * (5980) ≤ 7301314) : K mL_law X E 219 [(1, .ref a1), (2, .int x2)] [] S k n (jb_L_law_219 fu E xs L a1 x2 S) t := by
  unfold jb_L_law_219
  refine K_aload_n dL_law_219 rfl rfl ?_
  refine K_bind (fun u37 hu37 => ?_)
  refine K_callH (As := []) (k_X11_infer fu hE ha1 hu37) dL_law_220 v_L_56 ha1 rfl rfl rfl rfl (Nat.le_of_ble_eq_true rfl) ⟨Nat.le_of_ble_eq_true rfl, Nat.le_of_ble_eq_true rfl, by show k + 0 + 1 ≤ 600104; omega, by show n + 0 + 6 ≤ 7301314; omega⟩ (fun _ h => absurd h List.not_mem_nil) (fun r38 S39 => ?_)
  refine K_istore (ls' := [(1, _), (2, _), (5, _)]) dL_law_223 (by decide) rfl ?_
  refine K_aload_n dL_law_225 rfl rfl ?_
  refine K_bind (fun u40 hu40 => ?_)
  refine K_callVI (As := []) (k_X11_errorPosition fu hE ha1 hu40) dL_law_226 v_L_60 ha1 rfl rfl rfl rfl (Nat.le_of_ble_eq_true rfl) ⟨Nat.le_of_ble_eq_true rfl, Nat.le_of_ble_eq_true rfl, by show k + 1 + 0 ≤ 600104; omega, by show n + 6 + 0 ≤ 7301314; omega⟩ ?_
  refine K_istore (ls' := [(1, _), (2, _), (5, _), (6, _)]) dL_law_229 (by decide) rfl ?_
  refine K_aload_n dL_law_231 rfl rfl ?_
  refine K_bind (fun u41 hu41 => ?_)
  refine K_callVL (As := []) (k_X11_digest fu hE ha1 hu41) dL_law_232 v_L_63 ha1 rfl rfl rfl rfl (Nat.le_of_ble_eq_true rfl) ⟨Nat.le_of_ble_eq_true rfl, Nat.le_of_ble_eq_true rfl, by show k + 1 + 0 ≤ 600104; omega, by show n + 6 + 0 ≤ 7301314; omega⟩ ?_
  refine K_lstore (ls' := [(7, _), (1, _), (2, _), (5, _), (6, _)]) dL_law_235 (by decide) rfl ?_
  refine K_iload dL_law_237 rfl ?_
  refine K_if_ne (tgt := 246) dL_law_239 (by decide) (fun c128 => ?_) (fun c128 => ?_)
  · refine K_iconst (v := 0) dL_law_246 (by decide) ?_
    refine K_iload dL_law_247 rfl ?_
    refine K_iconst (v := (-1)) dL_law_249 (by decide) ?_
    refine K_icmp_ne (tgt := 257) dL_law_250 (by decide) (fun c126 => ?_) (fun c126 => ?_)
    · refine K_iconst (v := 0) dL_law_257 (by decide) ?_
      refine K.keep [1, 2, 5, 6, 7] ?_
      exact kj_L_law_258 hQ ht hE hs ha1 fu _ _ x2 r38 u40.1 u41.1 0 0 u41.2 (by show k + 1 + (5970) ≤ 600104; omega) (by show n + 6 + 6 * (5970) ≤ 7301314; omega)
    · refine K_iconst (v := 1) dL_law_253 (by decide) ?_
      refine K_goto (tgt := 258) dL_law_254 (by decide) ?_
      refine K.keep [1, 2, 5, 6, 7] ?_
      exact kj_L_law_258 hQ ht hE hs ha1 fu _ _ x2 r38 u40.1 u41.1 0 1 u41.2 (by show k + 1 + (5970) ≤ 600104; omega) (by show n + 6 + 6 * (5970) ≤ 7301314; omega)
  · refine K_iconst (v := 1) dL_law_242 (by decide) ?_
    refine K_goto (tgt := 247) dL_law_243 (by decide) ?_
    refine K_iload dL_law_247 rfl ?_
    refine K_iconst (v := (-1)) dL_law_249 (by decide) ?_
    refine K_icmp_ne (tgt := 257) dL_law_250 (by decide) (fun c127 => ?_) (fun c127 => ?_)
    · refine K_iconst (v := 0) dL_law_257 (by decide) ?_
      refine K.keep [1, 2, 5, 6, 7] ?_
      exact kj_L_law_258 hQ ht hE hs ha1 fu _ _ x2 r38 u40.1 u41.1 1 0 u41.2 (by show k + 1 + (5970) ≤ 600104; omega) (by show n + 6 + 6 * (5970) ≤ 7301314; omega)
    · refine K_iconst (v := 1) dL_law_253 (by decide) ?_
      refine K_goto (tgt := 258) dL_law_254 (by decide) ?_
      refine K.keep [1, 2, 5, 6, 7] ?_
      exact kj_L_law_258 hQ ht hE hs ha1 fu _ _ x2 r38 u40.1 u41.1 1 1 u41.2 (by show k + 1 + (5970) ≤ 600104; omega) (by show n + 6 + 6 * (5970) ≤ 7301314; omega)
def jb_L_law_140 (fu : Nat) (E : Ev) (xs : Nat → Int32) (L a1 : Nat) (x2 : Int32) (S : St) : Option (Int32 × St) :=
  (sp_X11_emit fu E S a1 30 0).bind fun u28 => hcat u28 [] fun r29 S30 =>
  if r29 = (x2 - 1) then (
    (sp_L_cell xs L 20).bind fun v31 =>
    (sp_L_below fu E S30 v31 x2).bind fun u32 =>
    (sp_L_cell xs L 21).bind fun v33 =>
    (sp_L_below fu E u32.2 v33 (x2 - u32.1)).bind fun u34 =>
    bnd ((u32.1 + 1) + u34.1) fun v35 =>
    (sp_L_cell xs L 22).bind fun v36 =>
    if (v36 &&& 1) = 1 then (
      (sp_L_cell xs L 23).bind fun v129 =>
      (sp_L_below fu E u34.2 v129 x2).bind fun u130 =>
      (sp_X11_addHandler fu E u130.2 a1 u32.1 v35 u130.1 3).bind fun u131 => hcat u131 [] fun r132 S133 =>
      if r132 = 0 then (
        jb_L_law_219 fu E xs L a1 x2 S133
      ) else (
        some (0, S133)
      )
    ) else (
      jb_L_law_219 fu E xs L a1 x2 u34.2
    )
  ) else (
    some (0, S30)
  )
set_option maxRecDepth 100000 in
theorem kj_L_law_140 {X : Cx} {E : Ev} {t : Int32 × St} {b L a1 : Nat} {xs : Nat → Int32} (hQ : EndL mL_law X) (ht : t.1 = 1) (hE : WE E) (hs : Scr X b L xs) (ha1 : E.1 a1 = some (0, 9, 0)) (fu : Nat) (k n : Nat) (x2 : Int32) (S : St) (hk : k + (5990) ≤ 600104) (hn : n + 6 * (5990) ≤ 7301314) : K mL_law X E 140 [(0, .ref b), (1, .ref a1), (2, .int x2)] [] S k n (jb_L_law_140 fu E xs L a1 x2 S) t := by
  unfold jb_L_law_140
  refine K_aload_n dL_law_140 rfl rfl ?_
  refine K_bipush (v := 30) dL_law_141 (by decide) ?_
  refine K_iconst (v := 0) dL_law_143 (by decide) ?_
  refine K_bind (fun u28 hu28 => ?_)
  refine K_callH (As := [.int 30, .int 0]) (k_X11_emit fu hE ha1 hu28) dL_law_144 v_L_15 ha1 rfl rfl rfl rfl (Nat.le_of_ble_eq_true rfl) ⟨Nat.le_of_ble_eq_true rfl, Nat.le_of_ble_eq_true rfl, by show k + 0 + 1 ≤ 600104; omega, by show n + 0 + 6 ≤ 7301314; omega⟩ (fun _ h => absurd h List.not_mem_nil) (fun r29 S30 => ?_)
  refine K_iload_n dL_law_147 rfl rfl ?_
  refine K_iconst (v := 1) dL_law_148 (by decide) ?_
  refine K_isub dL_law_149 ?_
  refine K_icmp_eq (tgt := 155) dL_law_150 (by decide) (fun c136 => ?_) (fun c136 => ?_)
  · refine K_aload_n dL_law_155 rfl rfl ?_
    refine K_bipush (v := 20) dL_law_156 (by decide) ?_
    refine K_bind (fun v31 hv31 => ?_)
    refine K_callSS (As := [.ref b, .int 20]) hs (k_L_cell hv31) dL_law_158 s_L_45 rfl rfl (Nat.le_of_ble_eq_true rfl) ⟨Nat.le_of_ble_eq_true rfl, Nat.le_of_ble_eq_true rfl, by show k + 1 + 0 ≤ 600104; omega, by show n + 6 + 0 ≤ 7301314; omega⟩ ?_
    refine K_iload_n dL_law_161 rfl rfl ?_
    refine K_bind (fun u32 hu32 => ?_)
    refine K_callSI (As := [.int v31, .int x2]) (k_L_below fu hE hu32) dL_law_162 s_L_9 rfl rfl (Nat.le_of_ble_eq_true rfl) ⟨Nat.le_of_ble_eq_true rfl, Nat.le_of_ble_eq_true rfl, by show k + 1 + 0 ≤ 600104; omega, by show n + 6 + 0 ≤ 7301314; omega⟩ ?_
    refine K_istore_n (ls' := [(0, _), (1, _), (2, _), (3, _)]) dL_law_165 rfl (by decide) rfl ?_
    refine K_iload_n dL_law_166 rfl rfl ?_
    refine K_iconst (v := 1) dL_law_167 (by decide) ?_
    refine K_iadd dL_law_168 ?_
    refine K_aload_n dL_law_169 rfl rfl ?_
    refine K_bipush (v := 21) dL_law_170 (by decide) ?_
    refine K_bind (fun v33 hv33 => ?_)
    refine K_callSS (As := [.ref b, .int 21]) hs (k_L_cell hv33) dL_law_172 s_L_45 rfl rfl (Nat.le_of_ble_eq_true rfl) ⟨Nat.le_of_ble_eq_true rfl, Nat.le_of_ble_eq_true rfl, by show k + 1 + 0 ≤ 600104; omega, by show n + 6 + 0 ≤ 7301314; omega⟩ ?_
    refine K_iload_n dL_law_175 rfl rfl ?_
    refine K_iload_n dL_law_176 rfl rfl ?_
    refine K_isub dL_law_177 ?_
    refine K_bind (fun u34 hu34 => ?_)
    refine K_callSI (As := [.int v33, .int (x2 - u32.1)]) (k_L_below fu hE hu34) dL_law_178 s_L_9 rfl rfl (Nat.le_of_ble_eq_true rfl) ⟨Nat.le_of_ble_eq_true rfl, Nat.le_of_ble_eq_true rfl, by show k + 1 + 0 ≤ 600104; omega, by show n + 6 + 0 ≤ 7301314; omega⟩ ?_
    refine K_iadd dL_law_181 ?_
    refine K_nmI (fun v35 => ?_)
    refine K_istore (ls' := [(0, _), (1, _), (2, _), (3, _), (4, _)]) dL_law_182 (by decide) rfl ?_
    refine K_aload_n dL_law_184 rfl rfl ?_
    refine K_bipush (v := 22) dL_law_185 (by decide) ?_
    refine K_bind (fun v36 hv36 => ?_)
    refine K_callSS (As := [.ref b, .int 22]) hs (k_L_cell hv36) dL_law_187 s_L_45 rfl rfl (Nat.le_of_ble_eq_true rfl) ⟨Nat.le_of_ble_eq_true rfl, Nat.le_of_ble_eq_true rfl, by show k + 1 + 0 ≤ 600104; omega, by show n + 6 + 0 ≤ 7301314; omega⟩ ?_
    refine K_iconst (v := 1) dL_law_190 (by decide) ?_
    refine K_iand dL_law_191 ?_
    refine K_iconst (v := 1) dL_law_192 (by decide) ?_
    refine K_icmp_ne (tgt := 219) dL_law_193 (by decide) (fun c135 => ?_) (fun c135 => ?_)
    · refine K.keep [1, 2] ?_
      exact kj_L_law_219 hQ ht hE hs ha1 fu _ _ x2 u34.2 (by show k + 1 + (5980) ≤ 600104; omega) (by show n + 6 + 6 * (5980) ≤ 7301314; omega)
    · refine K_aload_n dL_law_196 rfl rfl ?_
      refine K_iload_n dL_law_197 rfl rfl ?_
      refine K_iload dL_law_198 rfl ?_
      refine K_aload_n dL_law_200 rfl rfl ?_
      refine K_bipush (v := 23) dL_law_201 (by decide) ?_
      refine K_bind (fun v129 hv129 => ?_)
      refine K_callSS (As := [.ref b, .int 23]) hs (k_L_cell hv129) dL_law_203 s_L_45 rfl rfl (Nat.le_of_ble_eq_true rfl) ⟨Nat.le_of_ble_eq_true rfl, Nat.le_of_ble_eq_true rfl, by show k + 1 + 0 ≤ 600104; omega, by show n + 6 + 0 ≤ 7301314; omega⟩ ?_
      refine K_iload_n dL_law_206 rfl rfl ?_
      refine K_bind (fun u130 hu130 => ?_)
      refine K_callSI (As := [.int v129, .int x2]) (k_L_below fu hE hu130) dL_law_207 s_L_9 rfl rfl (Nat.le_of_ble_eq_true rfl) ⟨Nat.le_of_ble_eq_true rfl, Nat.le_of_ble_eq_true rfl, by show k + 1 + 0 ≤ 600104; omega, by show n + 6 + 0 ≤ 7301314; omega⟩ ?_
      refine K_iconst (v := 3) dL_law_210 (by decide) ?_
      refine K_bind (fun u131 hu131 => ?_)
      refine K_callH (As := [.int u32.1, .int v35, .int u130.1, .int 3]) (k_X11_addHandler fu hE ha1 hu131) dL_law_211 v_L_52 ha1 rfl rfl rfl rfl (Nat.le_of_ble_eq_true rfl) ⟨Nat.le_of_ble_eq_true rfl, Nat.le_of_ble_eq_true rfl, by show k + 1 + 1 ≤ 600104; omega, by show n + 6 + 6 ≤ 7301314; omega⟩ (fun _ h => absurd h List.not_mem_nil) (fun r132 S133 => ?_)
      refine K_if_eq (tgt := 219) dL_law_214 (by decide) (fun c134 => ?_) (fun c134 => ?_)
      · refine K.keep [1, 2] ?_
        exact kj_L_law_219 hQ ht hE hs ha1 fu _ _ x2 S133 (by show k + 2 + (5980) ≤ 600104; omega) (by show n + 12 + 6 * (5980) ≤ 7301314; omega)
      · refine K_iconst (v := 0) dL_law_217 (by decide) ?_
        exact K_lawret hQ ht dL_law_218 (by show k + 2 ≤ 600104; omega) (by show n + 12 ≤ 7301314; omega)
  · refine K_iconst (v := 0) dL_law_153 (by decide) ?_
    exact K_lawret hQ ht dL_law_154 (by show k + 1 ≤ 600104; omega) (by show n + 6 ≤ 7301314; omega)
def bd_L_law_109 (fu : Nat) (E : Ev) (xs : Nat → Int32) (L a1 : Nat) (rc : Int32 → Int32 → St → Option (Int32 × St)) (x2 : Int32) (x3 : Int32) (S : St) : Option (Int32 × St) :=
  if (x2 - 1) ≤ x3 then (
    jb_L_law_140 fu E xs L a1 x2 S
  ) else (
    (sp_L_cell xs L (x3 + 1)).bind fun v137 =>
    (sp_L_emit fu E S a1 v137 x2).bind fun u138 =>
    if u138.1 = x3 then (
      rc x2 (x3 + 1) u138.2
    ) else (
      some (0, u138.2)
    )
  )
def lp_L_law_109 (fu : Nat) (E : Ev) (xs : Nat → Int32) (L a1 : Nat) : Nat → Int32 → Int32 → St → Option (Int32 × St)
  | 0, _, _, _ => none
  | f + 1, x2, x3, S => bd_L_law_109 fu E xs L a1 (lp_L_law_109 fu E xs L a1 f) x2 x3 S
set_option maxRecDepth 100000 in
theorem kb_L_law_109 {X : Cx} {E : Ev} {t : Int32 × St} {b L a1 : Nat} {xs : Nat → Int32} (hQ : EndL mL_law X) (ht : t.1 = 1) (hE : WE E) (hs : Scr X b L xs) (ha1 : E.1 a1 = some (0, 9, 0)) (fu : Nat) {rc : Int32 → Int32 → St → Option (Int32 × St)} (F k n : Nat) (hF : 6000 ≤ F) (hk : k + (8 + F) ≤ 600104) (hn : n + 6 * (8 + F) ≤ 7301314) (hrc : ∀ (k n : Nat) (x2 : Int32) (x3 : Int32) (S : St), k + F ≤ 600104 → n + 6 * F ≤ 7301314 → K mL_law X E 109 [(0, .ref b), (1, .ref a1), (2, .int x2), (3, .int x3)] [] S k n (rc x2 x3 S) t) (x2 : Int32) (x3 : Int32) (S : St) : K mL_law X E 109 [(0, .ref b), (1, .ref a1), (2, .int x2), (3, .int x3)] [] S k n (bd_L_law_109 fu E xs L a1 rc x2 x3 S) t := by
  unfold bd_L_law_109
  refine K_iload_n dL_law_109 rfl rfl ?_
  refine K_iload_n dL_law_110 rfl rfl ?_
  refine K_iconst (v := 1) dL_law_111 (by decide) ?_
  refine K_isub dL_law_112 ?_
  refine K_icmp_ge (tgt := 140) dL_law_113 (by decide) (fun c140 => ?_) (fun c140 => ?_)
  · refine K.keep [0, 1, 2] ?_
    exact kj_L_law_140 hQ ht hE hs ha1 fu _ _ x2 S (by show k + 0 + (5990) ≤ 600104; omega) (by show n + 0 + 6 * (5990) ≤ 7301314; omega)
  · refine K_aload_n dL_law_116 rfl rfl ?_
    refine K_aload_n dL_law_117 rfl rfl ?_
    refine K_iload_n dL_law_118 rfl rfl ?_
    refine K_iconst (v := 1) dL_law_119 (by decide) ?_
    refine K_iadd dL_law_120 ?_
    refine K_bind (fun v137 hv137 => ?_)
    refine K_callSS (As := [.ref b, .int (x3 + 1)]) hs (k_L_cell hv137) dL_law_121 s_L_45 rfl rfl (Nat.le_of_ble_eq_true rfl) ⟨Nat.le_of_ble_eq_true rfl, Nat.le_of_ble_eq_true rfl, by show k + 0 + 0 ≤ 600104; omega, by show n + 0 + 0 ≤ 7301314; omega⟩ ?_
    refine K_iload_n dL_law_124 rfl rfl ?_
    refine K_bind (fun u138 hu138 => ?_)
    refine K_callSI (As := [.ref a1, .int v137, .int x2]) (k_L_emit fu hE ha1 hu138) dL_law_125 s_L_49 rfl rfl (Nat.le_of_ble_eq_true rfl) ⟨Nat.le_of_ble_eq_true rfl, Nat.le_of_ble_eq_true rfl, by show k + 0 + 1 ≤ 600104; omega, by show n + 0 + 6 ≤ 7301314; omega⟩ ?_
    refine K_iload_n dL_law_128 rfl rfl ?_
    refine K_icmp_eq (tgt := 134) dL_law_129 (by decide) (fun c139 => ?_) (fun c139 => ?_)
    · refine K_iinc (v := (x3 + 1)) (ls' := [(0, _), (1, _), (2, _), (3, _)]) dL_law_134 rfl rfl (by decide) rfl ?_
      refine K_goto (tgt := 109) dL_law_137 (by decide) ?_
      refine K.keep [0, 1, 2, 3] ?_
      exact hrc _ _ x2 (x3 + 1) u138.2 (by show k + 1 + F ≤ 600104; omega) (by show n + 6 + 6 * F ≤ 7301314; omega)
    · refine K_iconst (v := 0) dL_law_132 (by decide) ?_
      exact K_lawret hQ ht dL_law_133 (by show k + 1 ≤ 600104; omega) (by show n + 6 ≤ 7301314; omega)
theorem kl_L_law_109 {X : Cx} {E : Ev} {t : Int32 × St} {b L a1 : Nat} {xs : Nat → Int32} (hQ : EndL mL_law X) (ht : t.1 = 1) (hE : WE E) (hs : Scr X b L xs) (ha1 : E.1 a1 = some (0, 9, 0)) (fu : Nat) : ∀ (f F k n : Nat) (_ : 8 * f + 6000 ≤ F) (x2 : Int32) (x3 : Int32) (S : St), k + F ≤ 600104 → n + 6 * F ≤ 7301314 → K mL_law X E 109 [(0, .ref b), (1, .ref a1), (2, .int x2), (3, .int x3)] [] S k n (lp_L_law_109 fu E xs L a1 f x2 x3 S) t := by
  intro f
  induction f with
  | zero => intro F k n _ x2 x3 S _ _; exact K_none
  | succ f ih =>
    intro F k n h0 x2 x3 S h1 h2
    have g0 : 8 * f + 6000 ≤ F - 8 := by omega
    have g1 : 6000 ≤ F - 8 := by omega
    have g2 : k + (8 + (F - 8)) ≤ 600104 := by omega
    have g3 : n + 6 * (8 + (F - 8)) ≤ 7301314 := by omega
    show K _ _ _ _ _ _ _ _ _ (bd_L_law_109 fu E xs L a1 (lp_L_law_109 fu E xs L a1 f) x2 x3 S) t
    exact kb_L_law_109 hQ ht hE hs ha1 fu (rc := lp_L_law_109 fu E xs L a1 f) (F - 8) k n g1 g2 g3 (fun k n x2 x3 S h1 h2 => ih (F - 8) k n g0 x2 x3 S h1 h2) x2 x3 S
def jb_L_law_8 (fu : Nat) (E : Ev) (xs : Nat → Int32) (L a1 : Nat) (S : St) : Option (Int32 × St) :=
  (sp_X11_declareClass fu E S a1 2 0).bind fun u1 => hcat u1 [] fun r2 S3 =>
  if r2 = 3 then (
    (sp_X11_declareClass fu E S3 a1 3 0).bind fun u4 => hcat u4 [] fun r5 S6 =>
    if r5 = 4 then (
      (sp_X11_parameter fu E S6 a1 0).bind fun u7 => hcat u7 [] fun r8 S9 =>
      if r8 = 1 then (
        (sp_X11_parameter fu E S9 a1 24).bind fun u10 => hcat u10 [] fun r11 S12 =>
        if r11 = 2 then (
          (sp_X11_declareMethod fu E S12 a1 2 1 (-1)).bind fun u13 => hcat u13 [] fun r14 S15 =>
          if r14 = 0 then (
            (sp_X11_declareMethod fu E S15 a1 3 2 (-1)).bind fun u16 => hcat u16 [] fun r17 S18 =>
            if r17 = 1 then (
              (sp_X11_declareMethod fu E S18 a1 4 2 (-1)).bind fun u19 => hcat u19 [] fun r20 S21 =>
              if r20 = 2 then (
                (sp_X11_begin fu E S21 a1 0 4 3).bind fun u22 => hcat u22 [] fun r23 S24 =>
                if r23 = 2 then (
                  (sp_L_cell xs L 0).bind fun v25 =>
                  (sp_L_below fu E S24 v25 10).bind fun u26 =>
                  bnd (3 + u26.1) fun v27 =>
                  lp_L_law_109 fu E xs L a1 14 v27 0 u26.2
                ) else (
                  some (0, S24)
                )
              ) else (
                some (0, S21)
              )
            ) else (
              some (0, S18)
            )
          ) else (
            some (0, S15)
          )
        ) else (
          some (0, S12)
        )
      ) else (
        some (0, S9)
      )
    ) else (
      some (0, S6)
    )
  ) else (
    some (0, S3)
  )
set_option maxRecDepth 100000 in
theorem kj_L_law_8 {X : Cx} {E : Ev} {t : Int32 × St} {b L a1 : Nat} {xs : Nat → Int32} (hQ : EndL mL_law X) (ht : t.1 = 1) (hE : WE E) (hs : Scr X b L xs) (ha1 : E.1 a1 = some (0, 9, 0)) (fu : Nat) (k n : Nat) (S : St) (hk : k + (7000) ≤ 600104) (hn : n + 6 * (7000) ≤ 7301314) : K mL_law X E 8 [(0, .ref b), (1, .ref a1)] [] S k n (jb_L_law_8 fu E xs L a1 S) t := by
  unfold jb_L_law_8
  refine K_aload_n dL_law_8 rfl rfl ?_
  refine K_iconst (v := 2) dL_law_9 (by decide) ?_
  refine K_iconst (v := 0) dL_law_10 (by decide) ?_
  refine K_bind (fun u1 hu1 => ?_)
  refine K_callH (As := [.int 2, .int 0]) (k_X11_declareClass fu hE ha1 hu1) dL_law_11 v_L_31 ha1 rfl rfl rfl rfl (Nat.le_of_ble_eq_true rfl) ⟨Nat.le_of_ble_eq_true rfl, Nat.le_of_ble_eq_true rfl, by show k + 0 + 1 ≤ 600104; omega, by show n + 0 + 6 ≤ 7301314; omega⟩ (fun _ h => absurd h List.not_mem_nil) (fun r2 S3 => ?_)
  refine K_iconst (v := 3) dL_law_14 (by decide) ?_
  refine K_icmp_ne (tgt := 57) dL_law_15 (by decide) (fun c148 => ?_) (fun c148 => ?_)
  · refine K_iconst (v := 0) dL_law_57 (by decide) ?_
    exact K_lawret hQ ht dL_law_58 (by show k + 1 ≤ 600104; omega) (by show n + 6 ≤ 7301314; omega)
  · refine K_aload_n dL_law_18 rfl rfl ?_
    refine K_iconst (v := 3) dL_law_19 (by decide) ?_
    refine K_iconst (v := 0) dL_law_20 (by decide) ?_
    refine K_bind (fun u4 hu4 => ?_)
    refine K_callH (As := [.int 3, .int 0]) (k_X11_declareClass fu hE ha1 hu4) dL_law_21 v_L_31 ha1 rfl rfl rfl rfl (Nat.le_of_ble_eq_true rfl) ⟨Nat.le_of_ble_eq_true rfl, Nat.le_of_ble_eq_true rfl, by show k + 1 + 1 ≤ 600104; omega, by show n + 6 + 6 ≤ 7301314; omega⟩ (fun _ h => absurd h List.not_mem_nil) (fun r5 S6 => ?_)
    refine K_iconst (v := 4) dL_law_24 (by decide) ?_
    refine K_icmp_ne (tgt := 57) dL_law_25 (by decide) (fun c147 => ?_) (fun c147 => ?_)
    · refine K_iconst (v := 0) dL_law_57 (by decide) ?_
      exact K_lawret hQ ht dL_law_58 (by show k + 2 ≤ 600104; omega) (by show n + 12 ≤ 7301314; omega)
    · refine K_aload_n dL_law_28 rfl rfl ?_
      refine K_iconst (v := 0) dL_law_29 (by decide) ?_
      refine K_bind (fun u7 hu7 => ?_)
      refine K_callH (As := [.int 0]) (k_X11_parameter fu hE ha1 hu7) dL_law_30 v_L_35 ha1 rfl rfl rfl rfl (Nat.le_of_ble_eq_true rfl) ⟨Nat.le_of_ble_eq_true rfl, Nat.le_of_ble_eq_true rfl, by show k + 2 + 1 ≤ 600104; omega, by show n + 12 + 6 ≤ 7301314; omega⟩ (fun _ h => absurd h List.not_mem_nil) (fun r8 S9 => ?_)
      refine K_iconst (v := 1) dL_law_33 (by decide) ?_
      refine K_icmp_ne (tgt := 57) dL_law_34 (by decide) (fun c146 => ?_) (fun c146 => ?_)
      · refine K_iconst (v := 0) dL_law_57 (by decide) ?_
        exact K_lawret hQ ht dL_law_58 (by show k + 3 ≤ 600104; omega) (by show n + 18 ≤ 7301314; omega)
      · refine K_aload_n dL_law_37 rfl rfl ?_
        refine K_bipush (v := 24) dL_law_38 (by decide) ?_
        refine K_bind (fun u10 hu10 => ?_)
        refine K_callH (As := [.int 24]) (k_X11_parameter fu hE ha1 hu10) dL_law_40 v_L_35 ha1 rfl rfl rfl rfl (Nat.le_of_ble_eq_true rfl) ⟨Nat.le_of_ble_eq_true rfl, Nat.le_of_ble_eq_true rfl, by show k + 3 + 1 ≤ 600104; omega, by show n + 18 + 6 ≤ 7301314; omega⟩ (fun _ h => absurd h List.not_mem_nil) (fun r11 S12 => ?_)
        refine K_iconst (v := 2) dL_law_43 (by decide) ?_
        refine K_icmp_ne (tgt := 57) dL_law_44 (by decide) (fun c145 => ?_) (fun c145 => ?_)
        · refine K_iconst (v := 0) dL_law_57 (by decide) ?_
          exact K_lawret hQ ht dL_law_58 (by show k + 4 ≤ 600104; omega) (by show n + 24 ≤ 7301314; omega)
        · refine K_aload_n dL_law_47 rfl rfl ?_
          refine K_iconst (v := 2) dL_law_48 (by decide) ?_
          refine K_iconst (v := 1) dL_law_49 (by decide) ?_
          refine K_iconst (v := (-1)) dL_law_50 (by decide) ?_
          refine K_bind (fun u13 hu13 => ?_)
          refine K_callH (As := [.int 2, .int 1, .int (-1)]) (k_X11_declareMethod fu hE ha1 hu13) dL_law_51 v_L_38 ha1 rfl rfl rfl rfl (Nat.le_of_ble_eq_true rfl) ⟨Nat.le_of_ble_eq_true rfl, Nat.le_of_ble_eq_true rfl, by show k + 4 + 1 ≤ 600104; omega, by show n + 24 + 6 ≤ 7301314; omega⟩ (fun _ h => absurd h List.not_mem_nil) (fun r14 S15 => ?_)
          refine K_if_eq (tgt := 59) dL_law_54 (by decide) (fun c144 => ?_) (fun c144 => ?_)
          · refine K_aload_n dL_law_59 rfl rfl ?_
            refine K_iconst (v := 3) dL_law_60 (by decide) ?_
            refine K_iconst (v := 2) dL_law_61 (by decide) ?_
            refine K_iconst (v := (-1)) dL_law_62 (by decide) ?_
            refine K_bind (fun u16 hu16 => ?_)
            refine K_callH (As := [.int 3, .int 2, .int (-1)]) (k_X11_declareMethod fu hE ha1 hu16) dL_law_63 v_L_38 ha1 rfl rfl rfl rfl (Nat.le_of_ble_eq_true rfl) ⟨Nat.le_of_ble_eq_true rfl, Nat.le_of_ble_eq_true rfl, by show k + 5 + 1 ≤ 600104; omega, by show n + 30 + 6 ≤ 7301314; omega⟩ (fun _ h => absurd h List.not_mem_nil) (fun r17 S18 => ?_)
            refine K_iconst (v := 1) dL_law_66 (by decide) ?_
            refine K_icmp_ne (tgt := 92) dL_law_67 (by decide) (fun c143 => ?_) (fun c143 => ?_)
            · refine K_iconst (v := 0) dL_law_92 (by decide) ?_
              exact K_lawret hQ ht dL_law_93 (by show k + 6 ≤ 600104; omega) (by show n + 36 ≤ 7301314; omega)
            · refine K_aload_n dL_law_70 rfl rfl ?_
              refine K_iconst (v := 4) dL_law_71 (by decide) ?_
              refine K_iconst (v := 2) dL_law_72 (by decide) ?_
              refine K_iconst (v := (-1)) dL_law_73 (by decide) ?_
              refine K_bind (fun u19 hu19 => ?_)
              refine K_callH (As := [.int 4, .int 2, .int (-1)]) (k_X11_declareMethod fu hE ha1 hu19) dL_law_74 v_L_38 ha1 rfl rfl rfl rfl (Nat.le_of_ble_eq_true rfl) ⟨Nat.le_of_ble_eq_true rfl, Nat.le_of_ble_eq_true rfl, by show k + 6 + 1 ≤ 600104; omega, by show n + 36 + 6 ≤ 7301314; omega⟩ (fun _ h => absurd h List.not_mem_nil) (fun r20 S21 => ?_)
              refine K_iconst (v := 2) dL_law_77 (by decide) ?_
              refine K_icmp_ne (tgt := 92) dL_law_78 (by decide) (fun c142 => ?_) (fun c142 => ?_)
              · refine K_iconst (v := 0) dL_law_92 (by decide) ?_
                exact K_lawret hQ ht dL_law_93 (by show k + 7 ≤ 600104; omega) (by show n + 42 ≤ 7301314; omega)
              · refine K_aload_n dL_law_81 rfl rfl ?_
                refine K_iconst (v := 0) dL_law_82 (by decide) ?_
                refine K_iconst (v := 4) dL_law_83 (by decide) ?_
                refine K_iconst (v := 3) dL_law_84 (by decide) ?_
                refine K_bind (fun u22 hu22 => ?_)
                refine K_callH (As := [.int 0, .int 4, .int 3]) (k_X11_begin fu hE ha1 hu22) dL_law_85 v_L_42 ha1 rfl rfl rfl rfl (Nat.le_of_ble_eq_true rfl) ⟨Nat.le_of_ble_eq_true rfl, Nat.le_of_ble_eq_true rfl, by show k + 7 + 1 ≤ 600104; omega, by show n + 42 + 6 ≤ 7301314; omega⟩ (fun _ h => absurd h List.not_mem_nil) (fun r23 S24 => ?_)
                refine K_iconst (v := 2) dL_law_88 (by decide) ?_
                refine K_icmp_eq (tgt := 94) dL_law_89 (by decide) (fun c141 => ?_) (fun c141 => ?_)
                · refine K_iconst (v := 3) dL_law_94 (by decide) ?_
                  refine K_aload_n dL_law_95 rfl rfl ?_
                  refine K_iconst (v := 0) dL_law_96 (by decide) ?_
                  refine K_bind (fun v25 hv25 => ?_)
                  refine K_callSS (As := [.ref b, .int 0]) hs (k_L_cell hv25) dL_law_97 s_L_45 rfl rfl (Nat.le_of_ble_eq_true rfl) ⟨Nat.le_of_ble_eq_true rfl, Nat.le_of_ble_eq_true rfl, by show k + 8 + 0 ≤ 600104; omega, by show n + 48 + 0 ≤ 7301314; omega⟩ ?_
                  refine K_bipush (v := 10) dL_law_100 (by decide) ?_
                  refine K_bind (fun u26 hu26 => ?_)
                  refine K_callSI (As := [.int v25, .int 10]) (k_L_below fu hE hu26) dL_law_102 s_L_9 rfl rfl (Nat.le_of_ble_eq_true rfl) ⟨Nat.le_of_ble_eq_true rfl, Nat.le_of_ble_eq_true rfl, by show k + 8 + 0 ≤ 600104; omega, by show n + 48 + 0 ≤ 7301314; omega⟩ ?_
                  refine K_iadd dL_law_105 ?_
                  refine K_nmI (fun v27 => ?_)
                  refine K_istore_n (ls' := [(0, _), (1, _), (2, _)]) dL_law_106 rfl (by decide) rfl ?_
                  refine K_iconst (v := 0) dL_law_107 (by decide) ?_
                  refine K_istore_n (ls' := [(0, _), (1, _), (2, _), (3, _)]) dL_law_108 rfl (by decide) rfl ?_
                  refine K.keep [0, 1, 2, 3] ?_
                  exact kl_L_law_109 hQ ht hE hs ha1 fu 14 6112 _ _ (by decide) v27 0 u26.2 (by show k + 8 + (6112) ≤ 600104; omega) (by show n + 48 + 6 * (6112) ≤ 7301314; omega)
                · refine K_iconst (v := 0) dL_law_92 (by decide) ?_
                  exact K_lawret hQ ht dL_law_93 (by show k + 8 ≤ 600104; omega) (by show n + 48 ≤ 7301314; omega)
          · refine K_iconst (v := 0) dL_law_57 (by decide) ?_
            exact K_lawret hQ ht dL_law_58 (by show k + 5 ≤ 600104; omega) (by show n + 30 ≤ 7301314; omega)
