def sp_X12_move (fu : Nat) (E : Ev) (S : St) (a0 : Nat) (x1 : Int32) (x2 : Int32) : Option St :=
  if x1 = 1 then (
    (sp_X12_push fu E S a0 0).bind fun u2 =>
    some u2
  ) else (
    if x1 = 2 then (
      (sp_X12_pushType fu E S a0 8).bind fun u4 =>
      some u4
    ) else (
      if x1 = 3 then (
        (sp_X12_push fu E S a0 (-1)).bind fun u6 =>
        some u6
      ) else (
        if x1 = 4 then (
          if inb x2 26 = true then
            (
            if (S.2.1 (E.2 a0 39) x2.toNatClampNeg) = 0 then (
              (sp_X12_look fu E S a0 1).bind fun u12 =>
              (sp_X12_push fu E u12 a0 0).bind fun u13 =>
              some u13
            ) else (
              (sp_X12_look fu E S a0 0).bind fun u10 =>
              (sp_X12_push fu E u10 a0 0).bind fun u11 =>
              some u11
            )
            )
          else none
        ) else (
          if x1 = 5 then (
            if inb x2 26 = true then
              (
              if (S.2.1 (E.2 a0 39) x2.toNatClampNeg) = 8 then (
                if inb (x2 + 1) 26 = true then
                  (
                  if (S.2.1 (E.2 a0 39) (x2 + 1).toNatClampNeg) = (-3) then (
                    (sp_X12_look fu E S a0 1).bind fun u24 =>
                    (sp_X12_pushType fu E u24 a0 8).bind fun u25 =>
                    some u25
                  ) else (
                    (sp_X12_look fu E S a0 0).bind fun u22 =>
                    (sp_X12_pushType fu E u22 a0 8).bind fun u23 =>
                    some u23
                  )
                  )
                else none
              ) else (
                (sp_X12_look fu E S a0 0).bind fun u18 =>
                (sp_X12_pushType fu E u18 a0 8).bind fun u19 =>
                some u19
              )
              )
            else none
          ) else (
            if x1 = 6 then (
              if inb x2 26 = true then
                (
                (sp_X12_isAnyReference fu E S a0 (S.2.1 (E.2 a0 39) x2.toNatClampNeg)).bind fun u31 =>
                (sp_X12_look fu E u31.2 a0 u31.1).bind fun u32 =>
                if inb x2 26 = true then
                  (
                  (sp_X12_push fu E u32 a0 (u32.2.1 (E.2 a0 39) x2.toNatClampNeg)).bind fun u35 =>
                  some u35
                  )
                else none
                )
              else none
            ) else (
              if x1 = 7 then (
                (sp_X12_popInt fu E S a0).bind fun u37 =>
                (sp_X12_setLocal fu E u37 a0 x2 0).bind fun u38 =>
                some u38
              ) else (
                if x1 = 8 then (
                  (sp_X12_popLong fu E S a0).bind fun u40 =>
                  (sp_X12_storeLong fu E u40 a0 x2).bind fun u41 =>
                  some u41
                ) else (
                  if x1 = 9 then (
                    (sp_X12_popAnyReference fu E S a0).bind fun u43 =>
                    (sp_X12_setLocal fu E u43.2 a0 x2 u43.1).bind fun u44 =>
                    some u44
                  ) else (
                    some S
                  )
                )
              )
            )
          )
        )
      )
    )
  )
set_option maxRecDepth 100000 in
theorem k_X12_move {l : Launch} (fu : Nat) {E : Ev} (hE : WE E) {a0 : Nat} (ha0 : E.1 a0 = some (0, 10, 0)) {x1 : Int32} {x2 : Int32} {S : St} {t : St} (h : sp_X12_move fu E S a0 x1 x2 = some t) : Cn l mX12_move [.ref a0, .int x1, .int x2] (hp E S) (PoV E t) := by
  refine Cn.of (by decide) rfl (Nat.le_of_ble_eq_true rfl) (fun X _ _ hQ => ?_)
  refine (?_ : K mX12_move X E 0 [(0, .ref a0), (1, .int x1), (2, .int x2)] [] S 0 0 (sp_X12_move fu E S a0 x1 x2) t) h
  unfold sp_X12_move
  refine K_iload_n dX12_move_0 rfl rfl ?_
  refine K_ite (fun c1 => ?_) (fun c1 => ?_)
  · refine K_tswIn (tgt := 52) 1 dX12_move_1 c1 (by decide) (by decide) rfl (by decide) ?_
    refine K_aload_n dX12_move_52 rfl rfl ?_
    refine K_iconst (v := 0) dX12_move_53 (by decide) ?_
    refine K_bind (fun u2 hu2 => ?_)
    refine K_callVV (As := [.int 0]) (k_X12_push fu hE ha0 hu2) dX12_move_54 v_X12_247 ha0 rfl rfl rfl rfl (Nat.le_of_ble_eq_true rfl) ⟨Nat.le_of_ble_eq_true rfl, Nat.le_of_ble_eq_true rfl, Nat.le_of_ble_eq_true rfl, Nat.le_of_ble_eq_true rfl⟩ ?_
    refine K_goto (tgt := 209) dX12_move_57 (by decide) ?_
    exact K_vret dX12_move_209 hQ rfl (Nat.le_of_ble_eq_true rfl) (Nat.le_of_ble_eq_true rfl)
  · refine K_ite (fun c3 => ?_) (fun c3 => ?_)
    · refine K_tswIn (tgt := 60) 2 dX12_move_1 c3 (by decide) (by decide) rfl (by decide) ?_
      refine K_aload_n dX12_move_60 rfl rfl ?_
      refine K_bipush (v := 8) dX12_move_61 (by decide) ?_
      refine K_bind (fun u4 hu4 => ?_)
      refine K_callVV (As := [.int 8]) (k_X12_pushType fu hE ha0 hu4) dX12_move_63 v_X12_271 ha0 rfl rfl rfl rfl (Nat.le_of_ble_eq_true rfl) ⟨Nat.le_of_ble_eq_true rfl, Nat.le_of_ble_eq_true rfl, Nat.le_of_ble_eq_true rfl, Nat.le_of_ble_eq_true rfl⟩ ?_
      refine K_goto (tgt := 209) dX12_move_66 (by decide) ?_
      exact K_vret dX12_move_209 hQ rfl (Nat.le_of_ble_eq_true rfl) (Nat.le_of_ble_eq_true rfl)
    · refine K_ite (fun c5 => ?_) (fun c5 => ?_)
      · refine K_tswIn (tgt := 69) 3 dX12_move_1 c5 (by decide) (by decide) rfl (by decide) ?_
        refine K_aload_n dX12_move_69 rfl rfl ?_
        refine K_iconst (v := (-1)) dX12_move_70 (by decide) ?_
        refine K_bind (fun u6 hu6 => ?_)
        refine K_callVV (As := [.int (-1)]) (k_X12_push fu hE ha0 hu6) dX12_move_71 v_X12_247 ha0 rfl rfl rfl rfl (Nat.le_of_ble_eq_true rfl) ⟨Nat.le_of_ble_eq_true rfl, Nat.le_of_ble_eq_true rfl, Nat.le_of_ble_eq_true rfl, Nat.le_of_ble_eq_true rfl⟩ ?_
        refine K_goto (tgt := 209) dX12_move_74 (by decide) ?_
        exact K_vret dX12_move_209 hQ rfl (Nat.le_of_ble_eq_true rfl) (Nat.le_of_ble_eq_true rfl)
      · refine K_ite (fun c7 => ?_) (fun c7 => ?_)
        · refine K_tswIn (tgt := 77) 4 dX12_move_1 c7 (by decide) (by decide) rfl (by decide) ?_
          refine K_aload_n dX12_move_77 rfl rfl ?_
          refine K_aload_n dX12_move_78 rfl rfl ?_
          refine K_getC hE dX12_move_79 f_X12_81_10 ha0 rfl rfl (fun h8 => ?_)
          refine K_iload_n dX12_move_82 rfl rfl ?_
          refine K_chk (fun h9 => ?_)
          refine K_iald dX12_move_83 h8 h9 ?_
          refine K_if_ne (tgt := 91) dX12_move_84 (by decide) (fun c14 => ?_) (fun c14 => ?_)
          · refine K_iconst (v := 0) dX12_move_91 (by decide) ?_
            refine K_bind (fun u10 hu10 => ?_)
            refine K_callVV (As := [.int 0]) (k_X12_look fu hE ha0 hu10) dX12_move_92 v_X12_274 ha0 rfl rfl rfl rfl (Nat.le_of_ble_eq_true rfl) ⟨Nat.le_of_ble_eq_true rfl, Nat.le_of_ble_eq_true rfl, Nat.le_of_ble_eq_true rfl, Nat.le_of_ble_eq_true rfl⟩ ?_
            refine K_aload_n dX12_move_95 rfl rfl ?_
            refine K_iconst (v := 0) dX12_move_96 (by decide) ?_
            refine K_bind (fun u11 hu11 => ?_)
            refine K_callVV (As := [.int 0]) (k_X12_push fu hE ha0 hu11) dX12_move_97 v_X12_247 ha0 rfl rfl rfl rfl (Nat.le_of_ble_eq_true rfl) ⟨Nat.le_of_ble_eq_true rfl, Nat.le_of_ble_eq_true rfl, Nat.le_of_ble_eq_true rfl, Nat.le_of_ble_eq_true rfl⟩ ?_
            refine K_goto (tgt := 209) dX12_move_100 (by decide) ?_
            exact K_vret dX12_move_209 hQ rfl (Nat.le_of_ble_eq_true rfl) (Nat.le_of_ble_eq_true rfl)
          · refine K_iconst (v := 1) dX12_move_87 (by decide) ?_
            refine K_goto (tgt := 92) dX12_move_88 (by decide) ?_
            refine K_bind (fun u12 hu12 => ?_)
            refine K_callVV (As := [.int 1]) (k_X12_look fu hE ha0 hu12) dX12_move_92 v_X12_274 ha0 rfl rfl rfl rfl (Nat.le_of_ble_eq_true rfl) ⟨Nat.le_of_ble_eq_true rfl, Nat.le_of_ble_eq_true rfl, Nat.le_of_ble_eq_true rfl, Nat.le_of_ble_eq_true rfl⟩ ?_
            refine K_aload_n dX12_move_95 rfl rfl ?_
            refine K_iconst (v := 0) dX12_move_96 (by decide) ?_
            refine K_bind (fun u13 hu13 => ?_)
            refine K_callVV (As := [.int 0]) (k_X12_push fu hE ha0 hu13) dX12_move_97 v_X12_247 ha0 rfl rfl rfl rfl (Nat.le_of_ble_eq_true rfl) ⟨Nat.le_of_ble_eq_true rfl, Nat.le_of_ble_eq_true rfl, Nat.le_of_ble_eq_true rfl, Nat.le_of_ble_eq_true rfl⟩ ?_
            refine K_goto (tgt := 209) dX12_move_100 (by decide) ?_
            exact K_vret dX12_move_209 hQ rfl (Nat.le_of_ble_eq_true rfl) (Nat.le_of_ble_eq_true rfl)
        · refine K_ite (fun c15 => ?_) (fun c15 => ?_)
          · refine K_tswIn (tgt := 103) 5 dX12_move_1 c15 (by decide) (by decide) rfl (by decide) ?_
            refine K_aload_n dX12_move_103 rfl rfl ?_
            refine K_aload_n dX12_move_104 rfl rfl ?_
            refine K_getC hE dX12_move_105 f_X12_81_10 ha0 rfl rfl (fun h16 => ?_)
            refine K_iload_n dX12_move_108 rfl rfl ?_
            refine K_chk (fun h17 => ?_)
            refine K_iald dX12_move_109 h16 h17 ?_
            refine K_bipush (v := 8) dX12_move_110 (by decide) ?_
            refine K_icmp_ne (tgt := 132) dX12_move_112 (by decide) (fun c27 => ?_) (fun c27 => ?_)
            · refine K_iconst (v := 0) dX12_move_132 (by decide) ?_
              refine K_bind (fun u18 hu18 => ?_)
              refine K_callVV (As := [.int 0]) (k_X12_look fu hE ha0 hu18) dX12_move_133 v_X12_274 ha0 rfl rfl rfl rfl (Nat.le_of_ble_eq_true rfl) ⟨Nat.le_of_ble_eq_true rfl, Nat.le_of_ble_eq_true rfl, Nat.le_of_ble_eq_true rfl, Nat.le_of_ble_eq_true rfl⟩ ?_
              refine K_aload_n dX12_move_136 rfl rfl ?_
              refine K_bipush (v := 8) dX12_move_137 (by decide) ?_
              refine K_bind (fun u19 hu19 => ?_)
              refine K_callVV (As := [.int 8]) (k_X12_pushType fu hE ha0 hu19) dX12_move_139 v_X12_271 ha0 rfl rfl rfl rfl (Nat.le_of_ble_eq_true rfl) ⟨Nat.le_of_ble_eq_true rfl, Nat.le_of_ble_eq_true rfl, Nat.le_of_ble_eq_true rfl, Nat.le_of_ble_eq_true rfl⟩ ?_
              refine K_goto (tgt := 209) dX12_move_142 (by decide) ?_
              exact K_vret dX12_move_209 hQ rfl (Nat.le_of_ble_eq_true rfl) (Nat.le_of_ble_eq_true rfl)
            · refine K_aload_n dX12_move_115 rfl rfl ?_
              refine K_getC hE dX12_move_116 f_X12_81_10 ha0 rfl rfl (fun h20 => ?_)
              refine K_iload_n dX12_move_119 rfl rfl ?_
              refine K_iconst (v := 1) dX12_move_120 (by decide) ?_
              refine K_iadd dX12_move_121 ?_
              refine K_chk (fun h21 => ?_)
              refine K_iald dX12_move_122 h20 h21 ?_
              refine K_bipush (v := (-3)) dX12_move_123 (by decide) ?_
              refine K_icmp_ne (tgt := 132) dX12_move_125 (by decide) (fun c26 => ?_) (fun c26 => ?_)
              · refine K_iconst (v := 0) dX12_move_132 (by decide) ?_
                refine K_bind (fun u22 hu22 => ?_)
                refine K_callVV (As := [.int 0]) (k_X12_look fu hE ha0 hu22) dX12_move_133 v_X12_274 ha0 rfl rfl rfl rfl (Nat.le_of_ble_eq_true rfl) ⟨Nat.le_of_ble_eq_true rfl, Nat.le_of_ble_eq_true rfl, Nat.le_of_ble_eq_true rfl, Nat.le_of_ble_eq_true rfl⟩ ?_
                refine K_aload_n dX12_move_136 rfl rfl ?_
                refine K_bipush (v := 8) dX12_move_137 (by decide) ?_
                refine K_bind (fun u23 hu23 => ?_)
                refine K_callVV (As := [.int 8]) (k_X12_pushType fu hE ha0 hu23) dX12_move_139 v_X12_271 ha0 rfl rfl rfl rfl (Nat.le_of_ble_eq_true rfl) ⟨Nat.le_of_ble_eq_true rfl, Nat.le_of_ble_eq_true rfl, Nat.le_of_ble_eq_true rfl, Nat.le_of_ble_eq_true rfl⟩ ?_
                refine K_goto (tgt := 209) dX12_move_142 (by decide) ?_
                exact K_vret dX12_move_209 hQ rfl (Nat.le_of_ble_eq_true rfl) (Nat.le_of_ble_eq_true rfl)
              · refine K_iconst (v := 1) dX12_move_128 (by decide) ?_
                refine K_goto (tgt := 133) dX12_move_129 (by decide) ?_
                refine K_bind (fun u24 hu24 => ?_)
                refine K_callVV (As := [.int 1]) (k_X12_look fu hE ha0 hu24) dX12_move_133 v_X12_274 ha0 rfl rfl rfl rfl (Nat.le_of_ble_eq_true rfl) ⟨Nat.le_of_ble_eq_true rfl, Nat.le_of_ble_eq_true rfl, Nat.le_of_ble_eq_true rfl, Nat.le_of_ble_eq_true rfl⟩ ?_
                refine K_aload_n dX12_move_136 rfl rfl ?_
                refine K_bipush (v := 8) dX12_move_137 (by decide) ?_
                refine K_bind (fun u25 hu25 => ?_)
                refine K_callVV (As := [.int 8]) (k_X12_pushType fu hE ha0 hu25) dX12_move_139 v_X12_271 ha0 rfl rfl rfl rfl (Nat.le_of_ble_eq_true rfl) ⟨Nat.le_of_ble_eq_true rfl, Nat.le_of_ble_eq_true rfl, Nat.le_of_ble_eq_true rfl, Nat.le_of_ble_eq_true rfl⟩ ?_
                refine K_goto (tgt := 209) dX12_move_142 (by decide) ?_
                exact K_vret dX12_move_209 hQ rfl (Nat.le_of_ble_eq_true rfl) (Nat.le_of_ble_eq_true rfl)
          · refine K_ite (fun c28 => ?_) (fun c28 => ?_)
            · refine K_tswIn (tgt := 145) 6 dX12_move_1 c28 (by decide) (by decide) rfl (by decide) ?_
              refine K_aload_n dX12_move_145 rfl rfl ?_
              refine K_aload_n dX12_move_146 rfl rfl ?_
              refine K_aload_n dX12_move_147 rfl rfl ?_
              refine K_getC hE dX12_move_148 f_X12_81_10 ha0 rfl rfl (fun h29 => ?_)
              refine K_iload_n dX12_move_151 rfl rfl ?_
              refine K_chk (fun h30 => ?_)
              refine K_iald dX12_move_152 h29 h30 ?_
              refine K_bind (fun u31 hu31 => ?_)
              refine K_callVI (As := [.int (S.2.1 (E.2 a0 39) x2.toNatClampNeg)]) (k_X12_isAnyReference fu hE ha0 hu31) dX12_move_153 v_X12_238 ha0 rfl rfl rfl rfl (Nat.le_of_ble_eq_true rfl) ⟨Nat.le_of_ble_eq_true rfl, Nat.le_of_ble_eq_true rfl, Nat.le_of_ble_eq_true rfl, Nat.le_of_ble_eq_true rfl⟩ ?_
              refine K_bind (fun u32 hu32 => ?_)
              refine K_callVV (As := [.int u31.1]) (k_X12_look fu hE ha0 hu32) dX12_move_156 v_X12_274 ha0 rfl rfl rfl rfl (Nat.le_of_ble_eq_true rfl) ⟨Nat.le_of_ble_eq_true rfl, Nat.le_of_ble_eq_true rfl, Nat.le_of_ble_eq_true rfl, Nat.le_of_ble_eq_true rfl⟩ ?_
              refine K_aload_n dX12_move_159 rfl rfl ?_
              refine K_aload_n dX12_move_160 rfl rfl ?_
              refine K_getC hE dX12_move_161 f_X12_81_10 ha0 rfl rfl (fun h33 => ?_)
              refine K_iload_n dX12_move_164 rfl rfl ?_
              refine K_chk (fun h34 => ?_)
              refine K_iald dX12_move_165 h33 h34 ?_
              refine K_bind (fun u35 hu35 => ?_)
              refine K_callVV (As := [.int (u32.2.1 (E.2 a0 39) x2.toNatClampNeg)]) (k_X12_push fu hE ha0 hu35) dX12_move_166 v_X12_247 ha0 rfl rfl rfl rfl (Nat.le_of_ble_eq_true rfl) ⟨Nat.le_of_ble_eq_true rfl, Nat.le_of_ble_eq_true rfl, Nat.le_of_ble_eq_true rfl, Nat.le_of_ble_eq_true rfl⟩ ?_
              refine K_goto (tgt := 209) dX12_move_169 (by decide) ?_
              exact K_vret dX12_move_209 hQ rfl (Nat.le_of_ble_eq_true rfl) (Nat.le_of_ble_eq_true rfl)
            · refine K_ite (fun c36 => ?_) (fun c36 => ?_)
              · refine K_tswIn (tgt := 172) 7 dX12_move_1 c36 (by decide) (by decide) rfl (by decide) ?_
                refine K_aload_n dX12_move_172 rfl rfl ?_
                refine K_bind (fun u37 hu37 => ?_)
                refine K_callVV (As := []) (k_X12_popInt fu hE ha0 hu37) dX12_move_173 v_X12_277 ha0 rfl rfl rfl rfl (Nat.le_of_ble_eq_true rfl) ⟨Nat.le_of_ble_eq_true rfl, Nat.le_of_ble_eq_true rfl, Nat.le_of_ble_eq_true rfl, Nat.le_of_ble_eq_true rfl⟩ ?_
                refine K_aload_n dX12_move_176 rfl rfl ?_
                refine K_iload_n dX12_move_177 rfl rfl ?_
                refine K_iconst (v := 0) dX12_move_178 (by decide) ?_
                refine K_bind (fun u38 hu38 => ?_)
                refine K_callVV (As := [.int x2, .int 0]) (k_X12_setLocal fu hE ha0 hu38) dX12_move_179 v_X12_250 ha0 rfl rfl rfl rfl (Nat.le_of_ble_eq_true rfl) ⟨Nat.le_of_ble_eq_true rfl, Nat.le_of_ble_eq_true rfl, Nat.le_of_ble_eq_true rfl, Nat.le_of_ble_eq_true rfl⟩ ?_
                refine K_goto (tgt := 209) dX12_move_182 (by decide) ?_
                exact K_vret dX12_move_209 hQ rfl (Nat.le_of_ble_eq_true rfl) (Nat.le_of_ble_eq_true rfl)
              · refine K_ite (fun c39 => ?_) (fun c39 => ?_)
                · refine K_tswIn (tgt := 185) 8 dX12_move_1 c39 (by decide) (by decide) rfl (by decide) ?_
                  refine K_aload_n dX12_move_185 rfl rfl ?_
                  refine K_bind (fun u40 hu40 => ?_)
                  refine K_callVV (As := []) (k_X12_popLong fu hE ha0 hu40) dX12_move_186 v_X12_241 ha0 rfl rfl rfl rfl (Nat.le_of_ble_eq_true rfl) ⟨Nat.le_of_ble_eq_true rfl, Nat.le_of_ble_eq_true rfl, Nat.le_of_ble_eq_true rfl, Nat.le_of_ble_eq_true rfl⟩ ?_
                  refine K_aload_n dX12_move_189 rfl rfl ?_
                  refine K_iload_n dX12_move_190 rfl rfl ?_
                  refine K_bind (fun u41 hu41 => ?_)
                  refine K_callVV (As := [.int x2]) (k_X12_storeLong fu hE ha0 hu41) dX12_move_191 v_X12_280 ha0 rfl rfl rfl rfl (Nat.le_of_ble_eq_true rfl) ⟨Nat.le_of_ble_eq_true rfl, Nat.le_of_ble_eq_true rfl, Nat.le_of_ble_eq_true rfl, Nat.le_of_ble_eq_true rfl⟩ ?_
                  refine K_goto (tgt := 209) dX12_move_194 (by decide) ?_
                  exact K_vret dX12_move_209 hQ rfl (Nat.le_of_ble_eq_true rfl) (Nat.le_of_ble_eq_true rfl)
                · refine K_ite (fun c42 => ?_) (fun c42 => ?_)
                  · refine K_tswIn (tgt := 197) 9 dX12_move_1 c42 (by decide) (by decide) rfl (by decide) ?_
                    refine K_aload_n dX12_move_197 rfl rfl ?_
                    refine K_iload_n dX12_move_198 rfl rfl ?_
                    refine K_aload_n dX12_move_199 rfl rfl ?_
                    refine K_bind (fun u43 hu43 => ?_)
                    refine K_callVI (As := []) (k_X12_popAnyReference fu hE ha0 hu43) dX12_move_200 v_X12_283 ha0 rfl rfl rfl rfl (Nat.le_of_ble_eq_true rfl) ⟨Nat.le_of_ble_eq_true rfl, Nat.le_of_ble_eq_true rfl, Nat.le_of_ble_eq_true rfl, Nat.le_of_ble_eq_true rfl⟩ ?_
                    refine K_bind (fun u44 hu44 => ?_)
                    refine K_callVV (As := [.int x2, .int u43.1]) (k_X12_setLocal fu hE ha0 hu44) dX12_move_203 v_X12_250 ha0 rfl rfl rfl rfl (Nat.le_of_ble_eq_true rfl) ⟨Nat.le_of_ble_eq_true rfl, Nat.le_of_ble_eq_true rfl, Nat.le_of_ble_eq_true rfl, Nat.le_of_ble_eq_true rfl⟩ ?_
                    refine K_goto (tgt := 209) dX12_move_206 (by decide) ?_
                    exact K_vret dX12_move_209 hQ rfl (Nat.le_of_ble_eq_true rfl) (Nat.le_of_ble_eq_true rfl)
                  · refine K_tswD (tgt := 209) [1, 2, 3, 4, 5, 6, 7, 8, 9] dX12_move_1 (List.forall_mem_cons.mpr ⟨c1, List.forall_mem_cons.mpr ⟨c3, List.forall_mem_cons.mpr ⟨c5, List.forall_mem_cons.mpr ⟨c7, List.forall_mem_cons.mpr ⟨c15, List.forall_mem_cons.mpr ⟨c28, List.forall_mem_cons.mpr ⟨c36, List.forall_mem_cons.mpr ⟨c39, List.forall_mem_cons.mpr ⟨c42, fun _ h => absurd h List.not_mem_nil⟩⟩⟩⟩⟩⟩⟩⟩⟩) (by decide) (by decide) ?_
                    exact K_vret dX12_move_209 hQ rfl (Nat.le_of_ble_eq_true rfl) (Nat.le_of_ble_eq_true rfl)
def bd_X12_shuffle_110 (fu : Nat) (E : Ev) (a0 : Nat) (rc110 : Int32 → Int32 → Int32 → Int32 → St → Option St) (x1 : Int32) (x2 : Int32) (x3 : Int32) (x4 : Int32) (S : St) : Option St :=
  if 2 ≤ x4 then (
    some S
  ) else (
    if x1 = 14 then (
      (sp_X12_push fu E S a0 x3).bind fun u5 =>
      (sp_X12_push fu E u5 a0 x2).bind fun u6 =>
      rc110 x1 x2 x3 (x4 + 1) u6
    ) else (
      some S
    )
  )
def lp_X12_shuffle_110 (fu : Nat) (E : Ev) (a0 : Nat) : Nat → Int32 → Int32 → Int32 → Int32 → St → Option St
  | 0, _, _, _, _, _ => none
  | f + 1, x1, x2, x3, x4, S => bd_X12_shuffle_110 fu E a0 (lp_X12_shuffle_110 fu E a0 f) x1 x2 x3 x4 S
set_option maxRecDepth 100000 in
theorem kl_X12_shuffle_110 {X : Cx} {E : Ev} {t : St} {a0 : Nat} (hQ : EndR mX12_shuffle X (PoV E t)) (hE : WE E) (fu : Nat) (ha0 : E.1 a0 = some (0, 10, 0)) : ∀ (f : Nat) (x1 : Int32) (x2 : Int32) (x3 : Int32) (x4 : Int32) (S : St), K mX12_shuffle X E 110 [(0, .ref a0), (1, .int x1), (2, .int x2), (3, .int x3), (4, .int x4)] [] S 0 0 (lp_X12_shuffle_110 fu E a0 f x1 x2 x3 x4 S) t := by
  intro f
  induction f with
  | zero => intro x1 x2 x3 x4 S; exact K_none
  | succ f hrc110 =>
    intro x1 x2 x3 x4 S
    show K _ _ _ _ _ _ _ _ _ (bd_X12_shuffle_110 fu E a0 (lp_X12_shuffle_110 fu E a0 f) x1 x2 x3 x4 S) t
    unfold bd_X12_shuffle_110
    refine K_iload dX12_shuffle_110 rfl ?_
    refine K_iconst (v := 2) dX12_shuffle_112 (by decide) ?_
    refine K_icmp_ge (tgt := 138) dX12_shuffle_113 (by decide) (fun c8 => ?_) (fun c8 => ?_)
    · exact K_vret dX12_shuffle_138 hQ rfl (Nat.le_of_ble_eq_true rfl) (Nat.le_of_ble_eq_true rfl)
    · refine K_iload_n dX12_shuffle_116 rfl rfl ?_
      refine K_bipush (v := 14) dX12_shuffle_117 (by decide) ?_
      refine K_icmp_ne (tgt := 138) dX12_shuffle_119 (by decide) (fun c7 => ?_) (fun c7 => ?_)
      · exact K_vret dX12_shuffle_138 hQ rfl (Nat.le_of_ble_eq_true rfl) (Nat.le_of_ble_eq_true rfl)
      · refine K_aload_n dX12_shuffle_122 rfl rfl ?_
        refine K_iload_n dX12_shuffle_123 rfl rfl ?_
        refine K_bind (fun u5 hu5 => ?_)
        refine K_callVV (As := [.int x3]) (k_X12_push fu hE ha0 hu5) dX12_shuffle_124 v_X12_247 ha0 rfl rfl rfl rfl (Nat.le_of_ble_eq_true rfl) ⟨Nat.le_of_ble_eq_true rfl, Nat.le_of_ble_eq_true rfl, Nat.le_of_ble_eq_true rfl, Nat.le_of_ble_eq_true rfl⟩ ?_
        refine K_aload_n dX12_shuffle_127 rfl rfl ?_
        refine K_iload_n dX12_shuffle_128 rfl rfl ?_
        refine K_bind (fun u6 hu6 => ?_)
        refine K_callVV (As := [.int x2]) (k_X12_push fu hE ha0 hu6) dX12_shuffle_129 v_X12_247 ha0 rfl rfl rfl rfl (Nat.le_of_ble_eq_true rfl) ⟨Nat.le_of_ble_eq_true rfl, Nat.le_of_ble_eq_true rfl, Nat.le_of_ble_eq_true rfl, Nat.le_of_ble_eq_true rfl⟩ ?_
        refine K_iinc (v := (x4 + 1)) (ls' := [(0, _), (1, _), (2, _), (3, _), (4, _)]) dX12_shuffle_132 rfl rfl (by decide) rfl ?_
        refine K_goto (tgt := 110) dX12_shuffle_135 (by decide) ?_
        refine K.keep [0, 1, 2, 3, 4] ?_
        exact hrc110 x1 x2 x3 (x4 + 1) u6
def jb_X12_shuffle_87 (fu : Nat) (E : Ev) (a0 : Nat) (x1 : Int32) (S : St) : Option St :=
  (sp_X12_isWell fu E S a0).bind fun u2 =>
  if u2.1 = 0 then (
    some u2.2
  ) else (
    (sp_X12_top fu E u2.2 a0 0).bind fun u3 =>
    (sp_X12_drop fu E u3.2 a0 2).bind fun u4 =>
    lp_X12_shuffle_110 fu E a0 fu x1 u3.1 u4.1 0 u4.2
  )
set_option maxRecDepth 100000 in
theorem kj_X12_shuffle_87 {X : Cx} {E : Ev} {t : St} {a0 : Nat} (hQ : EndR mX12_shuffle X (PoV E t)) (hE : WE E) (fu : Nat) (ha0 : E.1 a0 = some (0, 10, 0)) (x1 : Int32) (S : St) : K mX12_shuffle X E 87 [(0, .ref a0), (1, .int x1)] [] S 0 0 (jb_X12_shuffle_87 fu E a0 x1 S) t := by
  unfold jb_X12_shuffle_87
  refine K_aload_n dX12_shuffle_87 rfl rfl ?_
  refine K_bind (fun u2 hu2 => ?_)
  refine K_callVI (As := []) (k_X12_isWell fu hE ha0 hu2) dX12_shuffle_88 v_X12_218 ha0 rfl rfl rfl rfl (Nat.le_of_ble_eq_true rfl) ⟨Nat.le_of_ble_eq_true rfl, Nat.le_of_ble_eq_true rfl, Nat.le_of_ble_eq_true rfl, Nat.le_of_ble_eq_true rfl⟩ ?_
  refine K_if_ne (tgt := 95) dX12_shuffle_91 (by decide) (fun c9 => ?_) (fun c9 => ?_)
  · refine K_aload_n dX12_shuffle_95 rfl rfl ?_
    refine K_iconst (v := 0) dX12_shuffle_96 (by decide) ?_
    refine K_bind (fun u3 hu3 => ?_)
    refine K_callVI (As := [.int 0]) (k_X12_top fu hE ha0 hu3) dX12_shuffle_97 v_X12_228 ha0 rfl rfl rfl rfl (Nat.le_of_ble_eq_true rfl) ⟨Nat.le_of_ble_eq_true rfl, Nat.le_of_ble_eq_true rfl, Nat.le_of_ble_eq_true rfl, Nat.le_of_ble_eq_true rfl⟩ ?_
    refine K_istore_n (ls' := [(0, _), (1, _), (2, _)]) dX12_shuffle_100 rfl (by decide) rfl ?_
    refine K_aload_n dX12_shuffle_101 rfl rfl ?_
    refine K_iconst (v := 2) dX12_shuffle_102 (by decide) ?_
    refine K_bind (fun u4 hu4 => ?_)
    refine K_callVI (As := [.int 2]) (k_X12_drop fu hE ha0 hu4) dX12_shuffle_103 v_X12_235 ha0 rfl rfl rfl rfl (Nat.le_of_ble_eq_true rfl) ⟨Nat.le_of_ble_eq_true rfl, Nat.le_of_ble_eq_true rfl, Nat.le_of_ble_eq_true rfl, Nat.le_of_ble_eq_true rfl⟩ ?_
    refine K_istore_n (ls' := [(0, _), (1, _), (2, _), (3, _)]) dX12_shuffle_106 rfl (by decide) rfl ?_
    refine K_iconst (v := 0) dX12_shuffle_107 (by decide) ?_
    refine K_istore (ls' := [(0, _), (1, _), (2, _), (3, _), (4, _)]) dX12_shuffle_108 (by decide) rfl ?_
    refine K.keep [0, 1, 2, 3, 4] ?_
    exact kl_X12_shuffle_110 hQ hE fu ha0 fu x1 u3.1 u4.1 0 u4.2
  · exact K_vret dX12_shuffle_94 hQ rfl (Nat.le_of_ble_eq_true rfl) (Nat.le_of_ble_eq_true rfl)
def jb_X12_shuffle_12 (fu : Nat) (E : Ev) (a0 : Nat) (x1 : Int32) (S : St) : Option St :=
  (sp_X12_has fu E S a0 2).bind fun u1 =>
  if u1.1 = 0 then (
    jb_X12_shuffle_87 fu E a0 x1 u1.2
  ) else (
    (sp_X12_top fu E u1.2 a0 0).bind fun u10 =>
    if u10.1 = (-3) then (
      (sp_X12_top fu E u10.2 a0 1).bind fun u21 =>
      if u21.1 = 8 then (
        (sp_X12_require fu E u21.2 a0 1).bind fun u23 =>
        jb_X12_shuffle_87 fu E a0 x1 u23
      ) else (
        (sp_X12_require fu E u21.2 a0 0).bind fun u22 =>
        jb_X12_shuffle_87 fu E a0 x1 u22
      )
    ) else (
      (sp_X12_top fu E u10.2 a0 0).bind fun u11 =>
      if u11.1 = 8 then (
        (sp_X12_require fu E u11.2 a0 0).bind fun u12 =>
        jb_X12_shuffle_87 fu E a0 x1 u12
      ) else (
        (sp_X12_top fu E u11.2 a0 1).bind fun u13 =>
        if u13.1 = (-3) then (
          (sp_X12_require fu E u13.2 a0 0).bind fun u14 =>
          jb_X12_shuffle_87 fu E a0 x1 u14
        ) else (
          (sp_X12_top fu E u13.2 a0 1).bind fun u15 =>
          if u15.1 = 8 then (
            (sp_X12_require fu E u15.2 a0 0).bind fun u16 =>
            jb_X12_shuffle_87 fu E a0 x1 u16
          ) else (
            (sp_X12_require fu E u15.2 a0 1).bind fun u17 =>
            jb_X12_shuffle_87 fu E a0 x1 u17
          )
        )
      )
    )
  )
set_option maxRecDepth 100000 in
theorem kj_X12_shuffle_12 {X : Cx} {E : Ev} {t : St} {a0 : Nat} (hQ : EndR mX12_shuffle X (PoV E t)) (hE : WE E) (fu : Nat) (ha0 : E.1 a0 = some (0, 10, 0)) (x1 : Int32) (S : St) : K mX12_shuffle X E 12 [(0, .ref a0), (1, .int x1)] [] S 0 0 (jb_X12_shuffle_12 fu E a0 x1 S) t := by
  unfold jb_X12_shuffle_12
  refine K_aload_n dX12_shuffle_12 rfl rfl ?_
  refine K_iconst (v := 2) dX12_shuffle_13 (by decide) ?_
  refine K_bind (fun u1 hu1 => ?_)
  refine K_callVI (As := [.int 2]) (k_X12_has fu hE ha0 hu1) dX12_shuffle_14 v_X12_225 ha0 rfl rfl rfl rfl (Nat.le_of_ble_eq_true rfl) ⟨Nat.le_of_ble_eq_true rfl, Nat.le_of_ble_eq_true rfl, Nat.le_of_ble_eq_true rfl, Nat.le_of_ble_eq_true rfl⟩ ?_
  refine K_if_eq (tgt := 87) dX12_shuffle_17 (by decide) (fun c26 => ?_) (fun c26 => ?_)
  · refine K.keep [0, 1] ?_
    exact kj_X12_shuffle_87 hQ hE fu ha0 x1 u1.2
  · refine K_aload_n dX12_shuffle_20 rfl rfl ?_
    refine K_aload_n dX12_shuffle_21 rfl rfl ?_
    refine K_iconst (v := 0) dX12_shuffle_22 (by decide) ?_
    refine K_bind (fun u10 hu10 => ?_)
    refine K_callVI (As := [.int 0]) (k_X12_top fu hE ha0 hu10) dX12_shuffle_23 v_X12_228 ha0 rfl rfl rfl rfl (Nat.le_of_ble_eq_true rfl) ⟨Nat.le_of_ble_eq_true rfl, Nat.le_of_ble_eq_true rfl, Nat.le_of_ble_eq_true rfl, Nat.le_of_ble_eq_true rfl⟩ ?_
    refine K_bipush (v := (-3)) dX12_shuffle_26 (by decide) ?_
    refine K_icmp_ne (tgt := 49) dX12_shuffle_28 (by decide) (fun c25 => ?_) (fun c25 => ?_)
    · refine K_aload_n dX12_shuffle_49 rfl rfl ?_
      refine K_iconst (v := 0) dX12_shuffle_50 (by decide) ?_
      refine K_bind (fun u11 hu11 => ?_)
      refine K_callVI (As := [.int 0]) (k_X12_top fu hE ha0 hu11) dX12_shuffle_51 v_X12_228 ha0 rfl rfl rfl rfl (Nat.le_of_ble_eq_true rfl) ⟨Nat.le_of_ble_eq_true rfl, Nat.le_of_ble_eq_true rfl, Nat.le_of_ble_eq_true rfl, Nat.le_of_ble_eq_true rfl⟩ ?_
      refine K_bipush (v := 8) dX12_shuffle_54 (by decide) ?_
      refine K_icmp_eq (tgt := 83) dX12_shuffle_56 (by decide) (fun c20 => ?_) (fun c20 => ?_)
      · refine K_iconst (v := 0) dX12_shuffle_83 (by decide) ?_
        refine K_bind (fun u12 hu12 => ?_)
        refine K_callVV (As := [.int 0]) (k_X12_require fu hE ha0 hu12) dX12_shuffle_84 v_X12_231 ha0 rfl rfl rfl rfl (Nat.le_of_ble_eq_true rfl) ⟨Nat.le_of_ble_eq_true rfl, Nat.le_of_ble_eq_true rfl, Nat.le_of_ble_eq_true rfl, Nat.le_of_ble_eq_true rfl⟩ ?_
        refine K.keep [0, 1] ?_
        exact kj_X12_shuffle_87 hQ hE fu ha0 x1 u12
      · refine K_aload_n dX12_shuffle_59 rfl rfl ?_
        refine K_iconst (v := 1) dX12_shuffle_60 (by decide) ?_
        refine K_bind (fun u13 hu13 => ?_)
        refine K_callVI (As := [.int 1]) (k_X12_top fu hE ha0 hu13) dX12_shuffle_61 v_X12_228 ha0 rfl rfl rfl rfl (Nat.le_of_ble_eq_true rfl) ⟨Nat.le_of_ble_eq_true rfl, Nat.le_of_ble_eq_true rfl, Nat.le_of_ble_eq_true rfl, Nat.le_of_ble_eq_true rfl⟩ ?_
        refine K_bipush (v := (-3)) dX12_shuffle_64 (by decide) ?_
        refine K_icmp_eq (tgt := 83) dX12_shuffle_66 (by decide) (fun c19 => ?_) (fun c19 => ?_)
        · refine K_iconst (v := 0) dX12_shuffle_83 (by decide) ?_
          refine K_bind (fun u14 hu14 => ?_)
          refine K_callVV (As := [.int 0]) (k_X12_require fu hE ha0 hu14) dX12_shuffle_84 v_X12_231 ha0 rfl rfl rfl rfl (Nat.le_of_ble_eq_true rfl) ⟨Nat.le_of_ble_eq_true rfl, Nat.le_of_ble_eq_true rfl, Nat.le_of_ble_eq_true rfl, Nat.le_of_ble_eq_true rfl⟩ ?_
          refine K.keep [0, 1] ?_
          exact kj_X12_shuffle_87 hQ hE fu ha0 x1 u14
        · refine K_aload_n dX12_shuffle_69 rfl rfl ?_
          refine K_iconst (v := 1) dX12_shuffle_70 (by decide) ?_
          refine K_bind (fun u15 hu15 => ?_)
          refine K_callVI (As := [.int 1]) (k_X12_top fu hE ha0 hu15) dX12_shuffle_71 v_X12_228 ha0 rfl rfl rfl rfl (Nat.le_of_ble_eq_true rfl) ⟨Nat.le_of_ble_eq_true rfl, Nat.le_of_ble_eq_true rfl, Nat.le_of_ble_eq_true rfl, Nat.le_of_ble_eq_true rfl⟩ ?_
          refine K_bipush (v := 8) dX12_shuffle_74 (by decide) ?_
          refine K_icmp_eq (tgt := 83) dX12_shuffle_76 (by decide) (fun c18 => ?_) (fun c18 => ?_)
          · refine K_iconst (v := 0) dX12_shuffle_83 (by decide) ?_
            refine K_bind (fun u16 hu16 => ?_)
            refine K_callVV (As := [.int 0]) (k_X12_require fu hE ha0 hu16) dX12_shuffle_84 v_X12_231 ha0 rfl rfl rfl rfl (Nat.le_of_ble_eq_true rfl) ⟨Nat.le_of_ble_eq_true rfl, Nat.le_of_ble_eq_true rfl, Nat.le_of_ble_eq_true rfl, Nat.le_of_ble_eq_true rfl⟩ ?_
            refine K.keep [0, 1] ?_
            exact kj_X12_shuffle_87 hQ hE fu ha0 x1 u16
          · refine K_iconst (v := 1) dX12_shuffle_79 (by decide) ?_
            refine K_goto (tgt := 84) dX12_shuffle_80 (by decide) ?_
            refine K_bind (fun u17 hu17 => ?_)
            refine K_callVV (As := [.int 1]) (k_X12_require fu hE ha0 hu17) dX12_shuffle_84 v_X12_231 ha0 rfl rfl rfl rfl (Nat.le_of_ble_eq_true rfl) ⟨Nat.le_of_ble_eq_true rfl, Nat.le_of_ble_eq_true rfl, Nat.le_of_ble_eq_true rfl, Nat.le_of_ble_eq_true rfl⟩ ?_
            refine K.keep [0, 1] ?_
            exact kj_X12_shuffle_87 hQ hE fu ha0 x1 u17
    · refine K_aload_n dX12_shuffle_31 rfl rfl ?_
      refine K_iconst (v := 1) dX12_shuffle_32 (by decide) ?_
      refine K_bind (fun u21 hu21 => ?_)
      refine K_callVI (As := [.int 1]) (k_X12_top fu hE ha0 hu21) dX12_shuffle_33 v_X12_228 ha0 rfl rfl rfl rfl (Nat.le_of_ble_eq_true rfl) ⟨Nat.le_of_ble_eq_true rfl, Nat.le_of_ble_eq_true rfl, Nat.le_of_ble_eq_true rfl, Nat.le_of_ble_eq_true rfl⟩ ?_
      refine K_bipush (v := 8) dX12_shuffle_36 (by decide) ?_
      refine K_icmp_ne (tgt := 45) dX12_shuffle_38 (by decide) (fun c24 => ?_) (fun c24 => ?_)
      · refine K_iconst (v := 0) dX12_shuffle_45 (by decide) ?_
        refine K_goto (tgt := 84) dX12_shuffle_46 (by decide) ?_
        refine K_bind (fun u22 hu22 => ?_)
        refine K_callVV (As := [.int 0]) (k_X12_require fu hE ha0 hu22) dX12_shuffle_84 v_X12_231 ha0 rfl rfl rfl rfl (Nat.le_of_ble_eq_true rfl) ⟨Nat.le_of_ble_eq_true rfl, Nat.le_of_ble_eq_true rfl, Nat.le_of_ble_eq_true rfl, Nat.le_of_ble_eq_true rfl⟩ ?_
        refine K.keep [0, 1] ?_
        exact kj_X12_shuffle_87 hQ hE fu ha0 x1 u22
      · refine K_iconst (v := 1) dX12_shuffle_41 (by decide) ?_
        refine K_goto (tgt := 84) dX12_shuffle_42 (by decide) ?_
        refine K_bind (fun u23 hu23 => ?_)
        refine K_callVV (As := [.int 1]) (k_X12_require fu hE ha0 hu23) dX12_shuffle_84 v_X12_231 ha0 rfl rfl rfl rfl (Nat.le_of_ble_eq_true rfl) ⟨Nat.le_of_ble_eq_true rfl, Nat.le_of_ble_eq_true rfl, Nat.le_of_ble_eq_true rfl, Nat.le_of_ble_eq_true rfl⟩ ?_
        refine K.keep [0, 1] ?_
        exact kj_X12_shuffle_87 hQ hE fu ha0 x1 u23
def jb_X12_shuffle_216 (fu : Nat) (E : Ev) (a0 : Nat) (x1 : Int32) (x2 : Int32) (S : St) : Option St :=
  if x1 = 13 then (
    (sp_X12_push fu E S a0 x2).bind fun u31 =>
    some u31
  ) else (
    some S
  )
set_option maxRecDepth 100000 in
theorem kj_X12_shuffle_216 {X : Cx} {E : Ev} {t : St} {a0 : Nat} (hQ : EndR mX12_shuffle X (PoV E t)) (hE : WE E) (fu : Nat) (ha0 : E.1 a0 = some (0, 10, 0)) (x1 : Int32) (x2 : Int32) (S : St) : K mX12_shuffle X E 216 [(0, .ref a0), (1, .int x1), (2, .int x2)] [] S 0 0 (jb_X12_shuffle_216 fu E a0 x1 x2 S) t := by
  unfold jb_X12_shuffle_216
  refine K_iload_n dX12_shuffle_216 rfl rfl ?_
  refine K_bipush (v := 13) dX12_shuffle_217 (by decide) ?_
  refine K_icmp_ne (tgt := 227) dX12_shuffle_219 (by decide) (fun c32 => ?_) (fun c32 => ?_)
  · exact K_vret dX12_shuffle_227 hQ rfl (Nat.le_of_ble_eq_true rfl) (Nat.le_of_ble_eq_true rfl)
  · refine K_aload_n dX12_shuffle_222 rfl rfl ?_
    refine K_iload_n dX12_shuffle_223 rfl rfl ?_
    refine K_bind (fun u31 hu31 => ?_)
    refine K_callVV (As := [.int x2]) (k_X12_push fu hE ha0 hu31) dX12_shuffle_224 v_X12_247 ha0 rfl rfl rfl rfl (Nat.le_of_ble_eq_true rfl) ⟨Nat.le_of_ble_eq_true rfl, Nat.le_of_ble_eq_true rfl, Nat.le_of_ble_eq_true rfl, Nat.le_of_ble_eq_true rfl⟩ ?_
    exact K_vret dX12_shuffle_227 hQ rfl (Nat.le_of_ble_eq_true rfl) (Nat.le_of_ble_eq_true rfl)
def jb_X12_shuffle_199 (fu : Nat) (E : Ev) (a0 : Nat) (x1 : Int32) (x2 : Int32) (x3 : Int32) (S : St) : Option St :=
  if x1 = 13 then (
    (sp_X12_push fu E S a0 x3).bind fun u30 =>
    jb_X12_shuffle_216 fu E a0 x1 x2 u30
  ) else (
    if x1 = 15 then (
      (sp_X12_push fu E S a0 x3).bind fun u33 =>
      jb_X12_shuffle_216 fu E a0 x1 x2 u33
    ) else (
      jb_X12_shuffle_216 fu E a0 x1 x2 S
    )
  )
set_option maxRecDepth 100000 in
theorem kj_X12_shuffle_199 {X : Cx} {E : Ev} {t : St} {a0 : Nat} (hQ : EndR mX12_shuffle X (PoV E t)) (hE : WE E) (fu : Nat) (ha0 : E.1 a0 = some (0, 10, 0)) (x1 : Int32) (x2 : Int32) (x3 : Int32) (S : St) : K mX12_shuffle X E 199 [(0, .ref a0), (1, .int x1), (2, .int x2), (3, .int x3)] [] S 0 0 (jb_X12_shuffle_199 fu E a0 x1 x2 x3 S) t := by
  unfold jb_X12_shuffle_199
  refine K_iload_n dX12_shuffle_199 rfl rfl ?_
  refine K_bipush (v := 13) dX12_shuffle_200 (by decide) ?_
  refine K_icmp_eq (tgt := 211) dX12_shuffle_202 (by decide) (fun c35 => ?_) (fun c35 => ?_)
  · refine K_aload_n dX12_shuffle_211 rfl rfl ?_
    refine K_iload_n dX12_shuffle_212 rfl rfl ?_
    refine K_bind (fun u30 hu30 => ?_)
    refine K_callVV (As := [.int x3]) (k_X12_push fu hE ha0 hu30) dX12_shuffle_213 v_X12_247 ha0 rfl rfl rfl rfl (Nat.le_of_ble_eq_true rfl) ⟨Nat.le_of_ble_eq_true rfl, Nat.le_of_ble_eq_true rfl, Nat.le_of_ble_eq_true rfl, Nat.le_of_ble_eq_true rfl⟩ ?_
    refine K.keep [0, 1, 2] ?_
    exact kj_X12_shuffle_216 hQ hE fu ha0 x1 x2 u30
  · refine K_iload_n dX12_shuffle_205 rfl rfl ?_
    refine K_bipush (v := 15) dX12_shuffle_206 (by decide) ?_
    refine K_icmp_ne (tgt := 216) dX12_shuffle_208 (by decide) (fun c34 => ?_) (fun c34 => ?_)
    · refine K.keep [0, 1, 2] ?_
      exact kj_X12_shuffle_216 hQ hE fu ha0 x1 x2 S
    · refine K_aload_n dX12_shuffle_211 rfl rfl ?_
      refine K_iload_n dX12_shuffle_212 rfl rfl ?_
      refine K_bind (fun u33 hu33 => ?_)
      refine K_callVV (As := [.int x3]) (k_X12_push fu hE ha0 hu33) dX12_shuffle_213 v_X12_247 ha0 rfl rfl rfl rfl (Nat.le_of_ble_eq_true rfl) ⟨Nat.le_of_ble_eq_true rfl, Nat.le_of_ble_eq_true rfl, Nat.le_of_ble_eq_true rfl, Nat.le_of_ble_eq_true rfl⟩ ?_
      refine K.keep [0, 1, 2] ?_
      exact kj_X12_shuffle_216 hQ hE fu ha0 x1 x2 u33
def jb_X12_shuffle_176 (fu : Nat) (E : Ev) (a0 : Nat) (x1 : Int32) (x2 : Int32) (x3 : Int32) (S : St) : Option St :=
  if x1 = 12 then (
    (sp_X12_push fu E S a0 x2).bind fun u29 =>
    jb_X12_shuffle_199 fu E a0 x1 x2 x3 u29
  ) else (
    if x1 = 13 then (
      (sp_X12_push fu E S a0 x2).bind fun u36 =>
      jb_X12_shuffle_199 fu E a0 x1 x2 x3 u36
    ) else (
      if x1 = 15 then (
        (sp_X12_push fu E S a0 x2).bind fun u37 =>
        jb_X12_shuffle_199 fu E a0 x1 x2 x3 u37
      ) else (
        jb_X12_shuffle_199 fu E a0 x1 x2 x3 S
      )
    )
  )
set_option maxRecDepth 100000 in
theorem kj_X12_shuffle_176 {X : Cx} {E : Ev} {t : St} {a0 : Nat} (hQ : EndR mX12_shuffle X (PoV E t)) (hE : WE E) (fu : Nat) (ha0 : E.1 a0 = some (0, 10, 0)) (x1 : Int32) (x2 : Int32) (x3 : Int32) (S : St) : K mX12_shuffle X E 176 [(0, .ref a0), (1, .int x1), (2, .int x2), (3, .int x3)] [] S 0 0 (jb_X12_shuffle_176 fu E a0 x1 x2 x3 S) t := by
  unfold jb_X12_shuffle_176
  refine K_iload_n dX12_shuffle_176 rfl rfl ?_
  refine K_bipush (v := 12) dX12_shuffle_177 (by decide) ?_
  refine K_icmp_eq (tgt := 194) dX12_shuffle_179 (by decide) (fun c40 => ?_) (fun c40 => ?_)
  · refine K_aload_n dX12_shuffle_194 rfl rfl ?_
    refine K_iload_n dX12_shuffle_195 rfl rfl ?_
    refine K_bind (fun u29 hu29 => ?_)
    refine K_callVV (As := [.int x2]) (k_X12_push fu hE ha0 hu29) dX12_shuffle_196 v_X12_247 ha0 rfl rfl rfl rfl (Nat.le_of_ble_eq_true rfl) ⟨Nat.le_of_ble_eq_true rfl, Nat.le_of_ble_eq_true rfl, Nat.le_of_ble_eq_true rfl, Nat.le_of_ble_eq_true rfl⟩ ?_
    refine K.keep [0, 1, 2, 3] ?_
    exact kj_X12_shuffle_199 hQ hE fu ha0 x1 x2 x3 u29
  · refine K_iload_n dX12_shuffle_182 rfl rfl ?_
    refine K_bipush (v := 13) dX12_shuffle_183 (by decide) ?_
    refine K_icmp_eq (tgt := 194) dX12_shuffle_185 (by decide) (fun c39 => ?_) (fun c39 => ?_)
    · refine K_aload_n dX12_shuffle_194 rfl rfl ?_
      refine K_iload_n dX12_shuffle_195 rfl rfl ?_
      refine K_bind (fun u36 hu36 => ?_)
      refine K_callVV (As := [.int x2]) (k_X12_push fu hE ha0 hu36) dX12_shuffle_196 v_X12_247 ha0 rfl rfl rfl rfl (Nat.le_of_ble_eq_true rfl) ⟨Nat.le_of_ble_eq_true rfl, Nat.le_of_ble_eq_true rfl, Nat.le_of_ble_eq_true rfl, Nat.le_of_ble_eq_true rfl⟩ ?_
      refine K.keep [0, 1, 2, 3] ?_
      exact kj_X12_shuffle_199 hQ hE fu ha0 x1 x2 x3 u36
    · refine K_iload_n dX12_shuffle_188 rfl rfl ?_
      refine K_bipush (v := 15) dX12_shuffle_189 (by decide) ?_
      refine K_icmp_ne (tgt := 199) dX12_shuffle_191 (by decide) (fun c38 => ?_) (fun c38 => ?_)
      · refine K.keep [0, 1, 2, 3] ?_
        exact kj_X12_shuffle_199 hQ hE fu ha0 x1 x2 x3 S
      · refine K_aload_n dX12_shuffle_194 rfl rfl ?_
        refine K_iload_n dX12_shuffle_195 rfl rfl ?_
        refine K_bind (fun u37 hu37 => ?_)
        refine K_callVV (As := [.int x2]) (k_X12_push fu hE ha0 hu37) dX12_shuffle_196 v_X12_247 ha0 rfl rfl rfl rfl (Nat.le_of_ble_eq_true rfl) ⟨Nat.le_of_ble_eq_true rfl, Nat.le_of_ble_eq_true rfl, Nat.le_of_ble_eq_true rfl, Nat.le_of_ble_eq_true rfl⟩ ?_
        refine K.keep [0, 1, 2, 3] ?_
        exact kj_X12_shuffle_199 hQ hE fu ha0 x1 x2 x3 u37
def jb_X12_shuffle_164 (fu : Nat) (E : Ev) (a0 : Nat) (x1 : Int32) (x2 : Int32) (y0 : Int32) (S : St) : Option St :=
  if x1 = 12 then (
    (sp_X12_push fu E S a0 x2).bind fun u41 =>
    jb_X12_shuffle_176 fu E a0 x1 x2 y0 u41
  ) else (
    jb_X12_shuffle_176 fu E a0 x1 x2 y0 S
  )
set_option maxRecDepth 100000 in
theorem kj_X12_shuffle_164 {X : Cx} {E : Ev} {t : St} {a0 : Nat} (hQ : EndR mX12_shuffle X (PoV E t)) (hE : WE E) (fu : Nat) (ha0 : E.1 a0 = some (0, 10, 0)) (x1 : Int32) (x2 : Int32) (y0 : Int32) (S : St) : K mX12_shuffle X E 164 [(0, .ref a0), (1, .int x1), (2, .int x2)] [.int y0] S 0 0 (jb_X12_shuffle_164 fu E a0 x1 x2 y0 S) t := by
  unfold jb_X12_shuffle_164
  refine K_istore_n (ls' := [(0, _), (1, _), (2, _), (3, _)]) dX12_shuffle_164 rfl (by decide) rfl ?_
  refine K_iload_n dX12_shuffle_165 rfl rfl ?_
  refine K_bipush (v := 12) dX12_shuffle_166 (by decide) ?_
  refine K_icmp_ne (tgt := 176) dX12_shuffle_168 (by decide) (fun c42 => ?_) (fun c42 => ?_)
  · refine K.keep [0, 1, 2, 3] ?_
    exact kj_X12_shuffle_176 hQ hE fu ha0 x1 x2 y0 S
  · refine K_aload_n dX12_shuffle_171 rfl rfl ?_
    refine K_iload_n dX12_shuffle_172 rfl rfl ?_
    refine K_bind (fun u41 hu41 => ?_)
    refine K_callVV (As := [.int x2]) (k_X12_push fu hE ha0 hu41) dX12_shuffle_173 v_X12_247 ha0 rfl rfl rfl rfl (Nat.le_of_ble_eq_true rfl) ⟨Nat.le_of_ble_eq_true rfl, Nat.le_of_ble_eq_true rfl, Nat.le_of_ble_eq_true rfl, Nat.le_of_ble_eq_true rfl⟩ ?_
    refine K.keep [0, 1, 2, 3] ?_
    exact kj_X12_shuffle_176 hQ hE fu ha0 x1 x2 y0 u41
def sp_X12_shuffle (fu : Nat) (E : Ev) (S : St) (a0 : Nat) (x1 : Int32) : Option St :=
  if x1 = 11 then (
    jb_X12_shuffle_12 fu E a0 x1 S
  ) else (
    if x1 = 14 then (
      jb_X12_shuffle_12 fu E a0 x1 S
    ) else (
      (sp_X12_popSlot fu E S a0).bind fun u27 =>
      if x1 = 13 then (
        (sp_X12_popSlot fu E u27.2 a0).bind fun u28 =>
        jb_X12_shuffle_164 fu E a0 x1 u27.1 u28.1 u28.2
      ) else (
        if x1 = 15 then (
          (sp_X12_popSlot fu E u27.2 a0).bind fun u43 =>
          jb_X12_shuffle_164 fu E a0 x1 u27.1 u43.1 u43.2
        ) else (
          jb_X12_shuffle_164 fu E a0 x1 u27.1 u27.1 u27.2
        )
      )
    )
  )
set_option maxRecDepth 100000 in
theorem k_X12_shuffle {l : Launch} (fu : Nat) {E : Ev} (hE : WE E) {a0 : Nat} (ha0 : E.1 a0 = some (0, 10, 0)) {x1 : Int32} {S : St} {t : St} (h : sp_X12_shuffle fu E S a0 x1 = some t) : Cn l mX12_shuffle [.ref a0, .int x1] (hp E S) (PoV E t) := by
  refine Cn.of (by decide) rfl (Nat.le_of_ble_eq_true rfl) (fun X _ _ hQ => ?_)
  refine (?_ : K mX12_shuffle X E 0 [(0, .ref a0), (1, .int x1)] [] S 0 0 (sp_X12_shuffle fu E S a0 x1) t) h
  unfold sp_X12_shuffle
  refine K_iload_n dX12_shuffle_0 rfl rfl ?_
  refine K_bipush (v := 11) dX12_shuffle_1 (by decide) ?_
  refine K_icmp_eq (tgt := 12) dX12_shuffle_3 (by decide) (fun c47 => ?_) (fun c47 => ?_)
  · refine K.keep [0, 1] ?_
    exact kj_X12_shuffle_12 hQ hE fu ha0 x1 S
  · refine K_iload_n dX12_shuffle_6 rfl rfl ?_
    refine K_bipush (v := 14) dX12_shuffle_7 (by decide) ?_
    refine K_icmp_ne (tgt := 139) dX12_shuffle_9 (by decide) (fun c46 => ?_) (fun c46 => ?_)
    · refine K_aload_n dX12_shuffle_139 rfl rfl ?_
      refine K_bind (fun u27 hu27 => ?_)
      refine K_callVI (As := []) (k_X12_popSlot fu hE ha0 hu27) dX12_shuffle_140 v_X12_286 ha0 rfl rfl rfl rfl (Nat.le_of_ble_eq_true rfl) ⟨Nat.le_of_ble_eq_true rfl, Nat.le_of_ble_eq_true rfl, Nat.le_of_ble_eq_true rfl, Nat.le_of_ble_eq_true rfl⟩ ?_
      refine K_istore_n (ls' := [(0, _), (1, _), (2, _)]) dX12_shuffle_143 rfl (by decide) rfl ?_
      refine K_iload_n dX12_shuffle_144 rfl rfl ?_
      refine K_bipush (v := 13) dX12_shuffle_145 (by decide) ?_
      refine K_icmp_eq (tgt := 156) dX12_shuffle_147 (by decide) (fun c45 => ?_) (fun c45 => ?_)
      · refine K_aload_n dX12_shuffle_156 rfl rfl ?_
        refine K_bind (fun u28 hu28 => ?_)
        refine K_callVI (As := []) (k_X12_popSlot fu hE ha0 hu28) dX12_shuffle_157 v_X12_286 ha0 rfl rfl rfl rfl (Nat.le_of_ble_eq_true rfl) ⟨Nat.le_of_ble_eq_true rfl, Nat.le_of_ble_eq_true rfl, Nat.le_of_ble_eq_true rfl, Nat.le_of_ble_eq_true rfl⟩ ?_
        refine K_goto (tgt := 164) dX12_shuffle_160 (by decide) ?_
        refine K.keep [0, 1, 2] ?_
        exact kj_X12_shuffle_164 hQ hE fu ha0 x1 u27.1 u28.1 u28.2
      · refine K_iload_n dX12_shuffle_150 rfl rfl ?_
        refine K_bipush (v := 15) dX12_shuffle_151 (by decide) ?_
        refine K_icmp_ne (tgt := 163) dX12_shuffle_153 (by decide) (fun c44 => ?_) (fun c44 => ?_)
        · refine K_iload_n dX12_shuffle_163 rfl rfl ?_
          refine K.keep [0, 1, 2] ?_
          exact kj_X12_shuffle_164 hQ hE fu ha0 x1 u27.1 u27.1 u27.2
        · refine K_aload_n dX12_shuffle_156 rfl rfl ?_
          refine K_bind (fun u43 hu43 => ?_)
          refine K_callVI (As := []) (k_X12_popSlot fu hE ha0 hu43) dX12_shuffle_157 v_X12_286 ha0 rfl rfl rfl rfl (Nat.le_of_ble_eq_true rfl) ⟨Nat.le_of_ble_eq_true rfl, Nat.le_of_ble_eq_true rfl, Nat.le_of_ble_eq_true rfl, Nat.le_of_ble_eq_true rfl⟩ ?_
          refine K_goto (tgt := 164) dX12_shuffle_160 (by decide) ?_
          refine K.keep [0, 1, 2] ?_
          exact kj_X12_shuffle_164 hQ hE fu ha0 x1 u27.1 u43.1 u43.2
    · refine K.keep [0, 1] ?_
      exact kj_X12_shuffle_12 hQ hE fu ha0 x1 S
def jb_X12_useArray_168 (fu : Nat) (E : Ev) (a0 : Nat) (S : St) : Option St :=
  (sp_X12_drop fu E S a0 1).bind fun u24 =>
  (sp_X12_push fu E u24.2 a0 0).bind fun u25 =>
  some u25
set_option maxRecDepth 100000 in
theorem kj_X12_useArray_168 {X : Cx} {E : Ev} {t : St} {a0 : Nat} (hQ : EndR mX12_useArray X (PoV E t)) (hE : WE E) (fu : Nat) (ha0 : E.1 a0 = some (0, 10, 0)) (S : St) : K mX12_useArray X E 168 [(0, .ref a0)] [] S 0 0 (jb_X12_useArray_168 fu E a0 S) t := by
  unfold jb_X12_useArray_168
  refine K_aload_n dX12_useArray_168 rfl rfl ?_
  refine K_iconst (v := 1) dX12_useArray_169 (by decide) ?_
  refine K_bind (fun u24 hu24 => ?_)
  refine K_callVI (As := [.int 1]) (k_X12_drop fu hE ha0 hu24) dX12_useArray_170 v_X12_235 ha0 rfl rfl rfl rfl (Nat.le_of_ble_eq_true rfl) ⟨Nat.le_of_ble_eq_true rfl, Nat.le_of_ble_eq_true rfl, Nat.le_of_ble_eq_true rfl, Nat.le_of_ble_eq_true rfl⟩ ?_
  refine K_pop dX12_useArray_173 rfl ?_
  refine K_aload_n dX12_useArray_174 rfl rfl ?_
  refine K_iconst (v := 0) dX12_useArray_175 (by decide) ?_
  refine K_bind (fun u25 hu25 => ?_)
  refine K_callVV (As := [.int 0]) (k_X12_push fu hE ha0 hu25) dX12_useArray_176 v_X12_247 ha0 rfl rfl rfl rfl (Nat.le_of_ble_eq_true rfl) ⟨Nat.le_of_ble_eq_true rfl, Nat.le_of_ble_eq_true rfl, Nat.le_of_ble_eq_true rfl, Nat.le_of_ble_eq_true rfl⟩ ?_
  refine K_goto (tgt := 202) dX12_useArray_179 (by decide) ?_
  exact K_vret dX12_useArray_202 hQ rfl (Nat.le_of_ble_eq_true rfl) (Nat.le_of_ble_eq_true rfl)
def sp_X12_useArray (fu : Nat) (E : Ev) (S : St) (a0 : Nat) (x1 : Int32) (x2 : Int32) : Option St :=
  if x1 = 38 then (
    (sp_X12_popInt fu E S a0).bind fun u2 =>
    (sp_X12_push fu E u2 a0 (x2 + 1)).bind fun u3 =>
    some u3
  ) else (
    if x1 = 39 then (
      (sp_X12_popInt fu E S a0).bind fun u5 =>
      (sp_X12_popInts fu E u5 a0).bind fun u6 =>
      (sp_X12_push fu E u6 a0 0).bind fun u7 =>
      some u7
    ) else (
      if x1 = 40 then (
        (sp_X12_popInt fu E S a0).bind fun u9 =>
        (sp_X12_popInt fu E u9 a0).bind fun u10 =>
        (sp_X12_popInts fu E u10 a0).bind fun u11 =>
        some u11
      ) else (
        if x1 = 41 then (
          (sp_X12_popInt fu E S a0).bind fun u13 =>
          (sp_X12_popRow fu E u13 a0).bind fun u14 =>
          if u14.1 = (-1) then (
            (sp_X12_push fu E u14.2 a0 (-1)).bind fun u16 =>
            some u16
          ) else (
            (sp_X12_push fu E u14.2 a0 (u14.1 - 1)).bind fun u15 =>
            some u15
          )
        ) else (
          if x1 = 42 then (
            (sp_X12_popReference fu E S a0).bind fun u19 =>
            (sp_X12_popInt fu E u19.2 a0).bind fun u20 =>
            (sp_X12_popRow fu E u20 a0).bind fun u21 =>
            some u21.2
          ) else (
            if x1 = 43 then (
              (sp_X12_has fu E S a0 1).bind fun u23 =>
              if u23.1 = 0 then (
                jb_X12_useArray_168 fu E a0 u23.2
              ) else (
                (sp_X12_top fu E u23.2 a0 0).bind fun u26 =>
                if u26.1 = (-1) then (
                  (sp_X12_require fu E u26.2 a0 1).bind fun u27 =>
                  jb_X12_useArray_168 fu E a0 u27
                ) else (
                  (sp_X12_top fu E u26.2 a0 0).bind fun u28 =>
                  (sp_X12_isArray fu E u28.2 a0 u28.1).bind fun u29 =>
                  if u29.1 = 0 then (
                    (sp_X12_require fu E u29.2 a0 0).bind fun u30 =>
                    jb_X12_useArray_168 fu E a0 u30
                  ) else (
                    (sp_X12_require fu E u29.2 a0 1).bind fun u31 =>
                    jb_X12_useArray_168 fu E a0 u31
                  )
                )
              )
            ) else (
              (sp_X12_popReference fu E S a0).bind fun u35 =>
              if x1 = 44 then (
                (sp_X12_push fu E u35.2 a0 x2).bind fun u37 =>
                some u37
              ) else (
                (sp_X12_push fu E u35.2 a0 0).bind fun u36 =>
                some u36
              )
            )
          )
        )
      )
    )
  )
set_option maxRecDepth 100000 in
theorem k_X12_useArray {l : Launch} (fu : Nat) {E : Ev} (hE : WE E) {a0 : Nat} (ha0 : E.1 a0 = some (0, 10, 0)) {x1 : Int32} {x2 : Int32} {S : St} {t : St} (h : sp_X12_useArray fu E S a0 x1 x2 = some t) : Cn l mX12_useArray [.ref a0, .int x1, .int x2] (hp E S) (PoV E t) := by
  refine Cn.of (by decide) rfl (Nat.le_of_ble_eq_true rfl) (fun X _ _ hQ => ?_)
  refine (?_ : K mX12_useArray X E 0 [(0, .ref a0), (1, .int x1), (2, .int x2)] [] S 0 0 (sp_X12_useArray fu E S a0 x1 x2) t) h
  unfold sp_X12_useArray
  refine K_iload_n dX12_useArray_0 rfl rfl ?_
  refine K_ite (fun c1 => ?_) (fun c1 => ?_)
  · refine K_tswIn (tgt := 40) 38 dX12_useArray_1 c1 (by decide) (by decide) rfl (by decide) ?_
    refine K_aload_n dX12_useArray_40 rfl rfl ?_
    refine K_bind (fun u2 hu2 => ?_)
    refine K_callVV (As := []) (k_X12_popInt fu hE ha0 hu2) dX12_useArray_41 v_X12_277 ha0 rfl rfl rfl rfl (Nat.le_of_ble_eq_true rfl) ⟨Nat.le_of_ble_eq_true rfl, Nat.le_of_ble_eq_true rfl, Nat.le_of_ble_eq_true rfl, Nat.le_of_ble_eq_true rfl⟩ ?_
    refine K_aload_n dX12_useArray_44 rfl rfl ?_
    refine K_iload_n dX12_useArray_45 rfl rfl ?_
    refine K_iconst (v := 1) dX12_useArray_46 (by decide) ?_
    refine K_iadd dX12_useArray_47 ?_
    refine K_bind (fun u3 hu3 => ?_)
    refine K_callVV (As := [.int (x2 + 1)]) (k_X12_push fu hE ha0 hu3) dX12_useArray_48 v_X12_247 ha0 rfl rfl rfl rfl (Nat.le_of_ble_eq_true rfl) ⟨Nat.le_of_ble_eq_true rfl, Nat.le_of_ble_eq_true rfl, Nat.le_of_ble_eq_true rfl, Nat.le_of_ble_eq_true rfl⟩ ?_
    refine K_goto (tgt := 202) dX12_useArray_51 (by decide) ?_
    exact K_vret dX12_useArray_202 hQ rfl (Nat.le_of_ble_eq_true rfl) (Nat.le_of_ble_eq_true rfl)
  · refine K_ite (fun c4 => ?_) (fun c4 => ?_)
    · refine K_tswIn (tgt := 54) 39 dX12_useArray_1 c4 (by decide) (by decide) rfl (by decide) ?_
      refine K_aload_n dX12_useArray_54 rfl rfl ?_
      refine K_bind (fun u5 hu5 => ?_)
      refine K_callVV (As := []) (k_X12_popInt fu hE ha0 hu5) dX12_useArray_55 v_X12_277 ha0 rfl rfl rfl rfl (Nat.le_of_ble_eq_true rfl) ⟨Nat.le_of_ble_eq_true rfl, Nat.le_of_ble_eq_true rfl, Nat.le_of_ble_eq_true rfl, Nat.le_of_ble_eq_true rfl⟩ ?_
      refine K_aload_n dX12_useArray_58 rfl rfl ?_
      refine K_bind (fun u6 hu6 => ?_)
      refine K_callVV (As := []) (k_X12_popInts fu hE ha0 hu6) dX12_useArray_59 v_X12_310 ha0 rfl rfl rfl rfl (Nat.le_of_ble_eq_true rfl) ⟨Nat.le_of_ble_eq_true rfl, Nat.le_of_ble_eq_true rfl, Nat.le_of_ble_eq_true rfl, Nat.le_of_ble_eq_true rfl⟩ ?_
      refine K_aload_n dX12_useArray_62 rfl rfl ?_
      refine K_iconst (v := 0) dX12_useArray_63 (by decide) ?_
      refine K_bind (fun u7 hu7 => ?_)
      refine K_callVV (As := [.int 0]) (k_X12_push fu hE ha0 hu7) dX12_useArray_64 v_X12_247 ha0 rfl rfl rfl rfl (Nat.le_of_ble_eq_true rfl) ⟨Nat.le_of_ble_eq_true rfl, Nat.le_of_ble_eq_true rfl, Nat.le_of_ble_eq_true rfl, Nat.le_of_ble_eq_true rfl⟩ ?_
      refine K_goto (tgt := 202) dX12_useArray_67 (by decide) ?_
      exact K_vret dX12_useArray_202 hQ rfl (Nat.le_of_ble_eq_true rfl) (Nat.le_of_ble_eq_true rfl)
    · refine K_ite (fun c8 => ?_) (fun c8 => ?_)
      · refine K_tswIn (tgt := 70) 40 dX12_useArray_1 c8 (by decide) (by decide) rfl (by decide) ?_
        refine K_aload_n dX12_useArray_70 rfl rfl ?_
        refine K_bind (fun u9 hu9 => ?_)
        refine K_callVV (As := []) (k_X12_popInt fu hE ha0 hu9) dX12_useArray_71 v_X12_277 ha0 rfl rfl rfl rfl (Nat.le_of_ble_eq_true rfl) ⟨Nat.le_of_ble_eq_true rfl, Nat.le_of_ble_eq_true rfl, Nat.le_of_ble_eq_true rfl, Nat.le_of_ble_eq_true rfl⟩ ?_
        refine K_aload_n dX12_useArray_74 rfl rfl ?_
        refine K_bind (fun u10 hu10 => ?_)
        refine K_callVV (As := []) (k_X12_popInt fu hE ha0 hu10) dX12_useArray_75 v_X12_277 ha0 rfl rfl rfl rfl (Nat.le_of_ble_eq_true rfl) ⟨Nat.le_of_ble_eq_true rfl, Nat.le_of_ble_eq_true rfl, Nat.le_of_ble_eq_true rfl, Nat.le_of_ble_eq_true rfl⟩ ?_
        refine K_aload_n dX12_useArray_78 rfl rfl ?_
        refine K_bind (fun u11 hu11 => ?_)
        refine K_callVV (As := []) (k_X12_popInts fu hE ha0 hu11) dX12_useArray_79 v_X12_310 ha0 rfl rfl rfl rfl (Nat.le_of_ble_eq_true rfl) ⟨Nat.le_of_ble_eq_true rfl, Nat.le_of_ble_eq_true rfl, Nat.le_of_ble_eq_true rfl, Nat.le_of_ble_eq_true rfl⟩ ?_
        refine K_goto (tgt := 202) dX12_useArray_82 (by decide) ?_
        exact K_vret dX12_useArray_202 hQ rfl (Nat.le_of_ble_eq_true rfl) (Nat.le_of_ble_eq_true rfl)
      · refine K_ite (fun c12 => ?_) (fun c12 => ?_)
        · refine K_tswIn (tgt := 85) 41 dX12_useArray_1 c12 (by decide) (by decide) rfl (by decide) ?_
          refine K_aload_n dX12_useArray_85 rfl rfl ?_
          refine K_bind (fun u13 hu13 => ?_)
          refine K_callVV (As := []) (k_X12_popInt fu hE ha0 hu13) dX12_useArray_86 v_X12_277 ha0 rfl rfl rfl rfl (Nat.le_of_ble_eq_true rfl) ⟨Nat.le_of_ble_eq_true rfl, Nat.le_of_ble_eq_true rfl, Nat.le_of_ble_eq_true rfl, Nat.le_of_ble_eq_true rfl⟩ ?_
          refine K_aload_n dX12_useArray_89 rfl rfl ?_
          refine K_bind (fun u14 hu14 => ?_)
          refine K_callVI (As := []) (k_X12_popRow fu hE ha0 hu14) dX12_useArray_90 v_X12_313 ha0 rfl rfl rfl rfl (Nat.le_of_ble_eq_true rfl) ⟨Nat.le_of_ble_eq_true rfl, Nat.le_of_ble_eq_true rfl, Nat.le_of_ble_eq_true rfl, Nat.le_of_ble_eq_true rfl⟩ ?_
          refine K_istore_n (ls' := [(0, _), (1, _), (2, _), (3, _)]) dX12_useArray_93 rfl (by decide) rfl ?_
          refine K_aload_n dX12_useArray_94 rfl rfl ?_
          refine K_iload_n dX12_useArray_95 rfl rfl ?_
          refine K_iconst (v := (-1)) dX12_useArray_96 (by decide) ?_
          refine K_icmp_ne (tgt := 104) dX12_useArray_97 (by decide) (fun c17 => ?_) (fun c17 => ?_)
          · refine K_iload_n dX12_useArray_104 rfl rfl ?_
            refine K_iconst (v := 1) dX12_useArray_105 (by decide) ?_
            refine K_isub dX12_useArray_106 ?_
            refine K_bind (fun u15 hu15 => ?_)
            refine K_callVV (As := [.int (u14.1 - 1)]) (k_X12_push fu hE ha0 hu15) dX12_useArray_107 v_X12_247 ha0 rfl rfl rfl rfl (Nat.le_of_ble_eq_true rfl) ⟨Nat.le_of_ble_eq_true rfl, Nat.le_of_ble_eq_true rfl, Nat.le_of_ble_eq_true rfl, Nat.le_of_ble_eq_true rfl⟩ ?_
            refine K_goto (tgt := 202) dX12_useArray_110 (by decide) ?_
            exact K_vret dX12_useArray_202 hQ rfl (Nat.le_of_ble_eq_true rfl) (Nat.le_of_ble_eq_true rfl)
          · refine K_iconst (v := (-1)) dX12_useArray_100 (by decide) ?_
            refine K_goto (tgt := 107) dX12_useArray_101 (by decide) ?_
            refine K_bind (fun u16 hu16 => ?_)
            refine K_callVV (As := [.int (-1)]) (k_X12_push fu hE ha0 hu16) dX12_useArray_107 v_X12_247 ha0 rfl rfl rfl rfl (Nat.le_of_ble_eq_true rfl) ⟨Nat.le_of_ble_eq_true rfl, Nat.le_of_ble_eq_true rfl, Nat.le_of_ble_eq_true rfl, Nat.le_of_ble_eq_true rfl⟩ ?_
            refine K_goto (tgt := 202) dX12_useArray_110 (by decide) ?_
            exact K_vret dX12_useArray_202 hQ rfl (Nat.le_of_ble_eq_true rfl) (Nat.le_of_ble_eq_true rfl)
        · refine K_ite (fun c18 => ?_) (fun c18 => ?_)
          · refine K_tswIn (tgt := 113) 42 dX12_useArray_1 c18 (by decide) (by decide) rfl (by decide) ?_
            refine K_aload_n dX12_useArray_113 rfl rfl ?_
            refine K_bind (fun u19 hu19 => ?_)
            refine K_callVI (As := []) (k_X12_popReference fu hE ha0 hu19) dX12_useArray_114 v_X12_289 ha0 rfl rfl rfl rfl (Nat.le_of_ble_eq_true rfl) ⟨Nat.le_of_ble_eq_true rfl, Nat.le_of_ble_eq_true rfl, Nat.le_of_ble_eq_true rfl, Nat.le_of_ble_eq_true rfl⟩ ?_
            refine K_pop dX12_useArray_117 rfl ?_
            refine K_aload_n dX12_useArray_118 rfl rfl ?_
            refine K_bind (fun u20 hu20 => ?_)
            refine K_callVV (As := []) (k_X12_popInt fu hE ha0 hu20) dX12_useArray_119 v_X12_277 ha0 rfl rfl rfl rfl (Nat.le_of_ble_eq_true rfl) ⟨Nat.le_of_ble_eq_true rfl, Nat.le_of_ble_eq_true rfl, Nat.le_of_ble_eq_true rfl, Nat.le_of_ble_eq_true rfl⟩ ?_
            refine K_aload_n dX12_useArray_122 rfl rfl ?_
            refine K_bind (fun u21 hu21 => ?_)
            refine K_callVI (As := []) (k_X12_popRow fu hE ha0 hu21) dX12_useArray_123 v_X12_313 ha0 rfl rfl rfl rfl (Nat.le_of_ble_eq_true rfl) ⟨Nat.le_of_ble_eq_true rfl, Nat.le_of_ble_eq_true rfl, Nat.le_of_ble_eq_true rfl, Nat.le_of_ble_eq_true rfl⟩ ?_
            refine K_pop dX12_useArray_126 rfl ?_
            refine K_goto (tgt := 202) dX12_useArray_127 (by decide) ?_
            exact K_vret dX12_useArray_202 hQ rfl (Nat.le_of_ble_eq_true rfl) (Nat.le_of_ble_eq_true rfl)
          · refine K_ite (fun c22 => ?_) (fun c22 => ?_)
            · refine K_tswIn (tgt := 130) 43 dX12_useArray_1 c22 (by decide) (by decide) rfl (by decide) ?_
              refine K_aload_n dX12_useArray_130 rfl rfl ?_
              refine K_iconst (v := 1) dX12_useArray_131 (by decide) ?_
              refine K_bind (fun u23 hu23 => ?_)
              refine K_callVI (As := [.int 1]) (k_X12_has fu hE ha0 hu23) dX12_useArray_132 v_X12_225 ha0 rfl rfl rfl rfl (Nat.le_of_ble_eq_true rfl) ⟨Nat.le_of_ble_eq_true rfl, Nat.le_of_ble_eq_true rfl, Nat.le_of_ble_eq_true rfl, Nat.le_of_ble_eq_true rfl⟩ ?_
              refine K_if_eq (tgt := 168) dX12_useArray_135 (by decide) (fun c34 => ?_) (fun c34 => ?_)
              · refine K.keep [0] ?_
                exact kj_X12_useArray_168 hQ hE fu ha0 u23.2
              · refine K_aload_n dX12_useArray_138 rfl rfl ?_
                refine K_aload_n dX12_useArray_139 rfl rfl ?_
                refine K_iconst (v := 0) dX12_useArray_140 (by decide) ?_
                refine K_bind (fun u26 hu26 => ?_)
                refine K_callVI (As := [.int 0]) (k_X12_top fu hE ha0 hu26) dX12_useArray_141 v_X12_228 ha0 rfl rfl rfl rfl (Nat.le_of_ble_eq_true rfl) ⟨Nat.le_of_ble_eq_true rfl, Nat.le_of_ble_eq_true rfl, Nat.le_of_ble_eq_true rfl, Nat.le_of_ble_eq_true rfl⟩ ?_
                refine K_iconst (v := (-1)) dX12_useArray_144 (by decide) ?_
                refine K_icmp_eq (tgt := 160) dX12_useArray_145 (by decide) (fun c33 => ?_) (fun c33 => ?_)
                · refine K_iconst (v := 1) dX12_useArray_160 (by decide) ?_
                  refine K_goto (tgt := 165) dX12_useArray_161 (by decide) ?_
                  refine K_bind (fun u27 hu27 => ?_)
                  refine K_callVV (As := [.int 1]) (k_X12_require fu hE ha0 hu27) dX12_useArray_165 v_X12_231 ha0 rfl rfl rfl rfl (Nat.le_of_ble_eq_true rfl) ⟨Nat.le_of_ble_eq_true rfl, Nat.le_of_ble_eq_true rfl, Nat.le_of_ble_eq_true rfl, Nat.le_of_ble_eq_true rfl⟩ ?_
                  refine K.keep [0] ?_
                  exact kj_X12_useArray_168 hQ hE fu ha0 u27
                · refine K_aload_n dX12_useArray_148 rfl rfl ?_
                  refine K_aload_n dX12_useArray_149 rfl rfl ?_
                  refine K_iconst (v := 0) dX12_useArray_150 (by decide) ?_
                  refine K_bind (fun u28 hu28 => ?_)
                  refine K_callVI (As := [.int 0]) (k_X12_top fu hE ha0 hu28) dX12_useArray_151 v_X12_228 ha0 rfl rfl rfl rfl (Nat.le_of_ble_eq_true rfl) ⟨Nat.le_of_ble_eq_true rfl, Nat.le_of_ble_eq_true rfl, Nat.le_of_ble_eq_true rfl, Nat.le_of_ble_eq_true rfl⟩ ?_
                  refine K_bind (fun u29 hu29 => ?_)
                  refine K_callVI (As := [.int u28.1]) (k_X12_isArray fu hE ha0 hu29) dX12_useArray_154 v_X12_97 ha0 rfl rfl rfl rfl (Nat.le_of_ble_eq_true rfl) ⟨Nat.le_of_ble_eq_true rfl, Nat.le_of_ble_eq_true rfl, Nat.le_of_ble_eq_true rfl, Nat.le_of_ble_eq_true rfl⟩ ?_
                  refine K_if_eq (tgt := 164) dX12_useArray_157 (by decide) (fun c32 => ?_) (fun c32 => ?_)
                  · refine K_iconst (v := 0) dX12_useArray_164 (by decide) ?_
                    refine K_bind (fun u30 hu30 => ?_)
                    refine K_callVV (As := [.int 0]) (k_X12_require fu hE ha0 hu30) dX12_useArray_165 v_X12_231 ha0 rfl rfl rfl rfl (Nat.le_of_ble_eq_true rfl) ⟨Nat.le_of_ble_eq_true rfl, Nat.le_of_ble_eq_true rfl, Nat.le_of_ble_eq_true rfl, Nat.le_of_ble_eq_true rfl⟩ ?_
                    refine K.keep [0] ?_
                    exact kj_X12_useArray_168 hQ hE fu ha0 u30
                  · refine K_iconst (v := 1) dX12_useArray_160 (by decide) ?_
                    refine K_goto (tgt := 165) dX12_useArray_161 (by decide) ?_
                    refine K_bind (fun u31 hu31 => ?_)
                    refine K_callVV (As := [.int 1]) (k_X12_require fu hE ha0 hu31) dX12_useArray_165 v_X12_231 ha0 rfl rfl rfl rfl (Nat.le_of_ble_eq_true rfl) ⟨Nat.le_of_ble_eq_true rfl, Nat.le_of_ble_eq_true rfl, Nat.le_of_ble_eq_true rfl, Nat.le_of_ble_eq_true rfl⟩ ?_
                    refine K.keep [0] ?_
                    exact kj_X12_useArray_168 hQ hE fu ha0 u31
            · refine K_tswD (tgt := 182) [38, 39, 40, 41, 42, 43] dX12_useArray_1 (List.forall_mem_cons.mpr ⟨c1, List.forall_mem_cons.mpr ⟨c4, List.forall_mem_cons.mpr ⟨c8, List.forall_mem_cons.mpr ⟨c12, List.forall_mem_cons.mpr ⟨c18, List.forall_mem_cons.mpr ⟨c22, fun _ h => absurd h List.not_mem_nil⟩⟩⟩⟩⟩⟩) (by decide) (by decide) ?_
              refine K_aload_n dX12_useArray_182 rfl rfl ?_
              refine K_bind (fun u35 hu35 => ?_)
              refine K_callVI (As := []) (k_X12_popReference fu hE ha0 hu35) dX12_useArray_183 v_X12_289 ha0 rfl rfl rfl rfl (Nat.le_of_ble_eq_true rfl) ⟨Nat.le_of_ble_eq_true rfl, Nat.le_of_ble_eq_true rfl, Nat.le_of_ble_eq_true rfl, Nat.le_of_ble_eq_true rfl⟩ ?_
              refine K_pop dX12_useArray_186 rfl ?_
              refine K_aload_n dX12_useArray_187 rfl rfl ?_
              refine K_iload_n dX12_useArray_188 rfl rfl ?_
              refine K_bipush (v := 44) dX12_useArray_189 (by decide) ?_
              refine K_icmp_ne (tgt := 198) dX12_useArray_191 (by decide) (fun c38 => ?_) (fun c38 => ?_)
              · refine K_iconst (v := 0) dX12_useArray_198 (by decide) ?_
                refine K_bind (fun u36 hu36 => ?_)
                refine K_callVV (As := [.int 0]) (k_X12_push fu hE ha0 hu36) dX12_useArray_199 v_X12_247 ha0 rfl rfl rfl rfl (Nat.le_of_ble_eq_true rfl) ⟨Nat.le_of_ble_eq_true rfl, Nat.le_of_ble_eq_true rfl, Nat.le_of_ble_eq_true rfl, Nat.le_of_ble_eq_true rfl⟩ ?_
                exact K_vret dX12_useArray_202 hQ rfl (Nat.le_of_ble_eq_true rfl) (Nat.le_of_ble_eq_true rfl)
              · refine K_iload_n dX12_useArray_194 rfl rfl ?_
                refine K_goto (tgt := 199) dX12_useArray_195 (by decide) ?_
                refine K_bind (fun u37 hu37 => ?_)
                refine K_callVV (As := [.int x2]) (k_X12_push fu hE ha0 hu37) dX12_useArray_199 v_X12_247 ha0 rfl rfl rfl rfl (Nat.le_of_ble_eq_true rfl) ⟨Nat.le_of_ble_eq_true rfl, Nat.le_of_ble_eq_true rfl, Nat.le_of_ble_eq_true rfl, Nat.le_of_ble_eq_true rfl⟩ ?_
                exact K_vret dX12_useArray_202 hQ rfl (Nat.le_of_ble_eq_true rfl) (Nat.le_of_ble_eq_true rfl)
def sp_X12_isToConstruct (fu : Nat) (E : Ev) (S : St) (a0 : Nat) (x1 : Int32) (x2 : Int32) : Option (Int32 × St) :=
  if inb (S.1 a0 16) 30 = true then
    (
    bnd (S.2.1 (E.2 a0 8) (S.1 a0 16).toNatClampNeg) fun v3 =>
    if x1 = (-4) then (
      if inb x2 30 = true then
        (
        if (S.2.1 (E.2 a0 8) x2.toNatClampNeg) = v3 then (
          some (1, S)
        ) else (
          if v3 = 2 then (
            some (0, S)
          ) else (
            if inb x2 30 = true then
              (
              if inb v3 20 = true then
                (
                if (S.2.1 (E.2 a0 8) x2.toNatClampNeg) = (S.2.1 (E.2 a0 2) v3.toNatClampNeg) then (
                  some (1, S)
                ) else (
                  some (0, S)
                )
                )
              else none
              )
            else none
          )
        )
        )
      else none
    ) else (
      bnd ((-10) - x1) fun v4 =>
      if (-10) < x1 then (
        some (0, S)
      ) else (
        if (S.1 a0 19) ≤ v4 then (
          some (0, S)
        ) else (
          if inb v4 100 = true then
            (
            if (S.2.1 (E.2 a0 20) v4.toNatClampNeg) = 34 then (
              if inb v4 100 = true then
                (
                if inb x2 30 = true then
                  (
                  if (S.2.1 (E.2 a0 21) v4.toNatClampNeg) = (S.2.1 (E.2 a0 8) x2.toNatClampNeg) then (
                    some (1, S)
                  ) else (
                    some (0, S)
                  )
                  )
                else none
                )
              else none
            ) else (
              some (0, S)
            )
            )
          else none
        )
      )
    )
    )
  else none
set_option maxRecDepth 100000 in
theorem k_X12_isToConstruct {l : Launch} (fu : Nat) {E : Ev} (hE : WE E) {a0 : Nat} (ha0 : E.1 a0 = some (0, 10, 0)) {x1 : Int32} {x2 : Int32} {S : St} {t : (Int32 × St)} (h : sp_X12_isToConstruct fu E S a0 x1 x2 = some t) : Cn l mX12_isToConstruct [.ref a0, .int x1, .int x2] (hp E S) (PoI E t) := by
  refine Cn.of (by decide) rfl (Nat.le_of_ble_eq_true rfl) (fun X _ _ hQ => ?_)
  refine (?_ : K mX12_isToConstruct X E 0 [(0, .ref a0), (1, .int x1), (2, .int x2)] [] S 0 0 (sp_X12_isToConstruct fu E S a0 x1 x2) t) h
  unfold sp_X12_isToConstruct
  refine K_aload_n dX12_isToConstruct_0 rfl rfl ?_
  refine K_getC hE dX12_isToConstruct_1 f_X12_27_10 ha0 rfl rfl (fun h1 => ?_)
  refine K_aload_n dX12_isToConstruct_4 rfl rfl ?_
  refine K_getI dX12_isToConstruct_5 f_X12_156_10 ha0 rfl ?_
  refine K_chk (fun h2 => ?_)
  refine K_iald dX12_isToConstruct_8 h1 h2 ?_
  refine K_nmI (fun v3 => ?_)
  refine K_istore_n (ls' := [(0, _), (1, _), (2, _), (3, _)]) dX12_isToConstruct_9 rfl (by decide) rfl ?_
  refine K_iload_n dX12_isToConstruct_10 rfl rfl ?_
  refine K_bipush (v := (-4)) dX12_isToConstruct_11 (by decide) ?_
  refine K_icmp_ne (tgt := 52) dX12_isToConstruct_13 (by decide) (fun c24 => ?_) (fun c24 => ?_)
  · refine K_bipush (v := (-10)) dX12_isToConstruct_52 (by decide) ?_
    refine K_iload_n dX12_isToConstruct_54 rfl rfl ?_
    refine K_isub dX12_isToConstruct_55 ?_
    refine K_nmI (fun v4 => ?_)
    refine K_istore (ls' := [(0, _), (1, _), (2, _), (3, _), (4, _)]) dX12_isToConstruct_56 (by decide) rfl ?_
    refine K_iload_n dX12_isToConstruct_58 rfl rfl ?_
    refine K_bipush (v := (-10)) dX12_isToConstruct_59 (by decide) ?_
    refine K_icmp_gt (tgt := 105) dX12_isToConstruct_61 (by decide) (fun c14 => ?_) (fun c14 => ?_)
    · refine K_iconst (v := 0) dX12_isToConstruct_105 (by decide) ?_
      exact K_zret dX12_isToConstruct_106 hQ rfl rfl (Nat.le_of_ble_eq_true rfl) (Nat.le_of_ble_eq_true rfl)
    · refine K_iload dX12_isToConstruct_64 rfl ?_
      refine K_aload_n dX12_isToConstruct_66 rfl rfl ?_
      refine K_getI dX12_isToConstruct_67 f_X12_165_10 ha0 rfl ?_
      refine K_icmp_ge (tgt := 105) dX12_isToConstruct_70 (by decide) (fun c13 => ?_) (fun c13 => ?_)
      · refine K_iconst (v := 0) dX12_isToConstruct_105 (by decide) ?_
        exact K_zret dX12_isToConstruct_106 hQ rfl rfl (Nat.le_of_ble_eq_true rfl) (Nat.le_of_ble_eq_true rfl)
      · refine K_aload_n dX12_isToConstruct_73 rfl rfl ?_
        refine K_getC hE dX12_isToConstruct_74 f_X12_45_10 ha0 rfl rfl (fun h5 => ?_)
        refine K_iload dX12_isToConstruct_77 rfl ?_
        refine K_chk (fun h6 => ?_)
        refine K_iald dX12_isToConstruct_79 h5 h6 ?_
        refine K_bipush (v := 34) dX12_isToConstruct_80 (by decide) ?_
        refine K_icmp_ne (tgt := 105) dX12_isToConstruct_82 (by decide) (fun c12 => ?_) (fun c12 => ?_)
        · refine K_iconst (v := 0) dX12_isToConstruct_105 (by decide) ?_
          exact K_zret dX12_isToConstruct_106 hQ rfl rfl (Nat.le_of_ble_eq_true rfl) (Nat.le_of_ble_eq_true rfl)
        · refine K_aload_n dX12_isToConstruct_85 rfl rfl ?_
          refine K_getC hE dX12_isToConstruct_86 f_X12_48_10 ha0 rfl rfl (fun h7 => ?_)
          refine K_iload dX12_isToConstruct_89 rfl ?_
          refine K_chk (fun h8 => ?_)
          refine K_iald dX12_isToConstruct_91 h7 h8 ?_
          refine K_aload_n dX12_isToConstruct_92 rfl rfl ?_
          refine K_getC hE dX12_isToConstruct_93 f_X12_27_10 ha0 rfl rfl (fun h9 => ?_)
          refine K_iload_n dX12_isToConstruct_96 rfl rfl ?_
          refine K_chk (fun h10 => ?_)
          refine K_iald dX12_isToConstruct_97 h9 h10 ?_
          refine K_icmp_ne (tgt := 105) dX12_isToConstruct_98 (by decide) (fun c11 => ?_) (fun c11 => ?_)
          · refine K_iconst (v := 0) dX12_isToConstruct_105 (by decide) ?_
            exact K_zret dX12_isToConstruct_106 hQ rfl rfl (Nat.le_of_ble_eq_true rfl) (Nat.le_of_ble_eq_true rfl)
          · refine K_iconst (v := 1) dX12_isToConstruct_101 (by decide) ?_
            refine K_goto (tgt := 106) dX12_isToConstruct_102 (by decide) ?_
            exact K_zret dX12_isToConstruct_106 hQ rfl rfl (Nat.le_of_ble_eq_true rfl) (Nat.le_of_ble_eq_true rfl)
  · refine K_aload_n dX12_isToConstruct_16 rfl rfl ?_
    refine K_getC hE dX12_isToConstruct_17 f_X12_27_10 ha0 rfl rfl (fun h15 => ?_)
    refine K_iload_n dX12_isToConstruct_20 rfl rfl ?_
    refine K_chk (fun h16 => ?_)
    refine K_iald dX12_isToConstruct_21 h15 h16 ?_
    refine K_iload_n dX12_isToConstruct_22 rfl rfl ?_
    refine K_icmp_eq (tgt := 46) dX12_isToConstruct_23 (by decide) (fun c23 => ?_) (fun c23 => ?_)
    · refine K_iconst (v := 1) dX12_isToConstruct_46 (by decide) ?_
      refine K_goto (tgt := 51) dX12_isToConstruct_47 (by decide) ?_
      exact K_zret dX12_isToConstruct_51 hQ rfl rfl (Nat.le_of_ble_eq_true rfl) (Nat.le_of_ble_eq_true rfl)
    · refine K_iload_n dX12_isToConstruct_26 rfl rfl ?_
      refine K_iconst (v := 2) dX12_isToConstruct_27 (by decide) ?_
      refine K_icmp_eq (tgt := 50) dX12_isToConstruct_28 (by decide) (fun c22 => ?_) (fun c22 => ?_)
      · refine K_iconst (v := 0) dX12_isToConstruct_50 (by decide) ?_
        exact K_zret dX12_isToConstruct_51 hQ rfl rfl (Nat.le_of_ble_eq_true rfl) (Nat.le_of_ble_eq_true rfl)
      · refine K_aload_n dX12_isToConstruct_31 rfl rfl ?_
        refine K_getC hE dX12_isToConstruct_32 f_X12_27_10 ha0 rfl rfl (fun h17 => ?_)
        refine K_iload_n dX12_isToConstruct_35 rfl rfl ?_
        refine K_chk (fun h18 => ?_)
        refine K_iald dX12_isToConstruct_36 h17 h18 ?_
        refine K_aload_n dX12_isToConstruct_37 rfl rfl ?_
        refine K_getC hE dX12_isToConstruct_38 f_X12_13_10 ha0 rfl rfl (fun h19 => ?_)
        refine K_iload_n dX12_isToConstruct_41 rfl rfl ?_
        refine K_chk (fun h20 => ?_)
        refine K_iald dX12_isToConstruct_42 h19 h20 ?_
        refine K_icmp_ne (tgt := 50) dX12_isToConstruct_43 (by decide) (fun c21 => ?_) (fun c21 => ?_)
        · refine K_iconst (v := 0) dX12_isToConstruct_50 (by decide) ?_
          exact K_zret dX12_isToConstruct_51 hQ rfl rfl (Nat.le_of_ble_eq_true rfl) (Nat.le_of_ble_eq_true rfl)
        · refine K_iconst (v := 1) dX12_isToConstruct_46 (by decide) ?_
          refine K_goto (tgt := 51) dX12_isToConstruct_47 (by decide) ?_
          exact K_zret dX12_isToConstruct_51 hQ rfl rfl (Nat.le_of_ble_eq_true rfl) (Nat.le_of_ble_eq_true rfl)
def bd_X12_popArguments_9 (fu : Nat) (E : Ev) (a0 : Nat) (rc9 : Int32 → Int32 → St → Option St) (x1 : Int32) (x2 : Int32) (S : St) : Option St :=
  if x2 < 0 then (
    some S
  ) else (
    if inb ((6 * x1) + x2) 180 = true then
      (
      (sp_X12_popType fu E S a0 (S.2.1 (E.2 a0 12) ((6 * x1) + x2).toNatClampNeg)).bind fun u6 =>
      rc9 x1 (x2 + (-1)) u6
      )
    else none
  )
def lp_X12_popArguments_9 (fu : Nat) (E : Ev) (a0 : Nat) : Nat → Int32 → Int32 → St → Option St
  | 0, _, _, _ => none
  | f + 1, x1, x2, S => bd_X12_popArguments_9 fu E a0 (lp_X12_popArguments_9 fu E a0 f) x1 x2 S
set_option maxRecDepth 100000 in
theorem kl_X12_popArguments_9 {X : Cx} {E : Ev} {t : St} {a0 : Nat} (hQ : EndR mX12_popArguments X (PoV E t)) (hE : WE E) (fu : Nat) (ha0 : E.1 a0 = some (0, 10, 0)) : ∀ (f : Nat) (x1 : Int32) (x2 : Int32) (S : St), K mX12_popArguments X E 9 [(0, .ref a0), (1, .int x1), (2, .int x2)] [] S 0 0 (lp_X12_popArguments_9 fu E a0 f x1 x2 S) t := by
  intro f
  induction f with
  | zero => intro x1 x2 S; exact K_none
  | succ f hrc9 =>
    intro x1 x2 S
    show K _ _ _ _ _ _ _ _ _ (bd_X12_popArguments_9 fu E a0 (lp_X12_popArguments_9 fu E a0 f) x1 x2 S) t
    unfold bd_X12_popArguments_9
    refine K_iload_n dX12_popArguments_9 rfl rfl ?_
    refine K_if_lt (tgt := 34) dX12_popArguments_10 (by decide) (fun c7 => ?_) (fun c7 => ?_)
    · exact K_vret dX12_popArguments_34 hQ rfl (Nat.le_of_ble_eq_true rfl) (Nat.le_of_ble_eq_true rfl)
    · refine K_aload_n dX12_popArguments_13 rfl rfl ?_
      refine K_aload_n dX12_popArguments_14 rfl rfl ?_
      refine K_getC hE dX12_popArguments_15 f_X12_39_10 ha0 rfl rfl (fun h4 => ?_)
      refine K_bipush (v := 6) dX12_popArguments_18 (by decide) ?_
      refine K_iload_n dX12_popArguments_20 rfl rfl ?_
      refine K_imul dX12_popArguments_21 ?_
      refine K_iload_n dX12_popArguments_22 rfl rfl ?_
      refine K_iadd dX12_popArguments_23 ?_
      refine K_chk (fun h5 => ?_)
      refine K_iald dX12_popArguments_24 h4 h5 ?_
      refine K_bind (fun u6 hu6 => ?_)
      refine K_callVV (As := [.int (S.2.1 (E.2 a0 12) ((6 * x1) + x2).toNatClampNeg)]) (k_X12_popType fu hE ha0 hu6) dX12_popArguments_25 v_X12_244 ha0 rfl rfl rfl rfl (Nat.le_of_ble_eq_true rfl) ⟨Nat.le_of_ble_eq_true rfl, Nat.le_of_ble_eq_true rfl, Nat.le_of_ble_eq_true rfl, Nat.le_of_ble_eq_true rfl⟩ ?_
      refine K_iinc (v := (x2 + (-1))) (ls' := [(0, _), (1, _), (2, _)]) dX12_popArguments_28 rfl rfl (by decide) rfl ?_
      refine K_goto (tgt := 9) dX12_popArguments_31 (by decide) ?_
      refine K.keep [0, 1, 2] ?_
      exact hrc9 x1 (x2 + (-1)) u6
def sp_X12_popArguments (fu : Nat) (E : Ev) (S : St) (a0 : Nat) (x1 : Int32) : Option St :=
  if inb x1 30 = true then
    (
    bnd ((S.2.1 (E.2 a0 11) x1.toNatClampNeg) - 1) fun v3 =>
    lp_X12_popArguments_9 fu E a0 fu x1 v3 S
    )
  else none
set_option maxRecDepth 100000 in
theorem k_X12_popArguments {l : Launch} (fu : Nat) {E : Ev} (hE : WE E) {a0 : Nat} (ha0 : E.1 a0 = some (0, 10, 0)) {x1 : Int32} {S : St} {t : St} (h : sp_X12_popArguments fu E S a0 x1 = some t) : Cn l mX12_popArguments [.ref a0, .int x1] (hp E S) (PoV E t) := by
  refine Cn.of (by decide) rfl (Nat.le_of_ble_eq_true rfl) (fun X _ _ hQ => ?_)
  refine (?_ : K mX12_popArguments X E 0 [(0, .ref a0), (1, .int x1)] [] S 0 0 (sp_X12_popArguments fu E S a0 x1) t) h
  unfold sp_X12_popArguments
  refine K_aload_n dX12_popArguments_0 rfl rfl ?_
  refine K_getC hE dX12_popArguments_1 f_X12_36_10 ha0 rfl rfl (fun h1 => ?_)
  refine K_iload_n dX12_popArguments_4 rfl rfl ?_
  refine K_chk (fun h2 => ?_)
  refine K_iald dX12_popArguments_5 h1 h2 ?_
  refine K_iconst (v := 1) dX12_popArguments_6 (by decide) ?_
  refine K_isub dX12_popArguments_7 ?_
  refine K_nmI (fun v3 => ?_)
  refine K_istore_n (ls' := [(0, _), (1, _), (2, _)]) dX12_popArguments_8 rfl (by decide) rfl ?_
  refine K.keep [0, 1, 2] ?_
  exact kl_X12_popArguments_9 hQ hE fu ha0 fu x1 v3 S
def jb_X12_construct_55 (fu : Nat) (E : Ev) (a0 : Nat) (x1 : Int32) (x2 : Int32) (S : St) : Option St :=
  if x2 = (-4) then (
    if inb (S.1 a0 16) 30 = true then
      (
      (sp_X12_replace fu E S a0 x2 (8 * (S.2.1 (E.2 a0 8) (S.1 a0 16).toNatClampNeg))).bind fun u10 =>
      some u10
      )
    else none
  ) else (
    if inb x1 30 = true then
      (
      (sp_X12_replace fu E S a0 x2 (8 * (S.2.1 (E.2 a0 8) x1.toNatClampNeg))).bind fun u7 =>
      some u7
      )
    else none
  )
set_option maxRecDepth 100000 in
theorem kj_X12_construct_55 {X : Cx} {E : Ev} {t : St} {a0 : Nat} (hQ : EndR mX12_construct X (PoV E t)) (hE : WE E) (fu : Nat) (ha0 : E.1 a0 = some (0, 10, 0)) (x1 : Int32) (x2 : Int32) (S : St) : K mX12_construct X E 55 [(0, .ref a0), (1, .int x1), (2, .int x2)] [] S 0 0 (jb_X12_construct_55 fu E a0 x1 x2 S) t := by
  unfold jb_X12_construct_55
  refine K_aload_n dX12_construct_55 rfl rfl ?_
  refine K_iload_n dX12_construct_56 rfl rfl ?_
  refine K_bipush (v := 8) dX12_construct_57 (by decide) ?_
  refine K_iload_n dX12_construct_59 rfl rfl ?_
  refine K_bipush (v := (-4)) dX12_construct_60 (by decide) ?_
  refine K_icmp_ne (tgt := 77) dX12_construct_62 (by decide) (fun c11 => ?_) (fun c11 => ?_)
  · refine K_aload_n dX12_construct_77 rfl rfl ?_
    refine K_getC hE dX12_construct_78 f_X12_27_10 ha0 rfl rfl (fun h5 => ?_)
    refine K_iload_n dX12_construct_81 rfl rfl ?_
    refine K_chk (fun h6 => ?_)
    refine K_iald dX12_construct_82 h5 h6 ?_
    refine K_imul dX12_construct_83 ?_
    refine K_bind (fun u7 hu7 => ?_)
    refine K_callVV (As := [.int x2, .int (8 * (S.2.1 (E.2 a0 8) x1.toNatClampNeg))]) (k_X12_replace fu hE ha0 hu7) dX12_construct_84 v_X12_307 ha0 rfl rfl rfl rfl (Nat.le_of_ble_eq_true rfl) ⟨Nat.le_of_ble_eq_true rfl, Nat.le_of_ble_eq_true rfl, Nat.le_of_ble_eq_true rfl, Nat.le_of_ble_eq_true rfl⟩ ?_
    exact K_vret dX12_construct_87 hQ rfl (Nat.le_of_ble_eq_true rfl) (Nat.le_of_ble_eq_true rfl)
  · refine K_aload_n dX12_construct_65 rfl rfl ?_
    refine K_getC hE dX12_construct_66 f_X12_27_10 ha0 rfl rfl (fun h8 => ?_)
    refine K_aload_n dX12_construct_69 rfl rfl ?_
    refine K_getI dX12_construct_70 f_X12_156_10 ha0 rfl ?_
    refine K_chk (fun h9 => ?_)
    refine K_iald dX12_construct_73 h8 h9 ?_
    refine K_goto (tgt := 83) dX12_construct_74 (by decide) ?_
    refine K_imul dX12_construct_83 ?_
    refine K_bind (fun u10 hu10 => ?_)
    refine K_callVV (As := [.int x2, .int (8 * (S.2.1 (E.2 a0 8) (S.1 a0 16).toNatClampNeg))]) (k_X12_replace fu hE ha0 hu10) dX12_construct_84 v_X12_307 ha0 rfl rfl rfl rfl (Nat.le_of_ble_eq_true rfl) ⟨Nat.le_of_ble_eq_true rfl, Nat.le_of_ble_eq_true rfl, Nat.le_of_ble_eq_true rfl, Nat.le_of_ble_eq_true rfl⟩ ?_
    exact K_vret dX12_construct_87 hQ rfl (Nat.le_of_ble_eq_true rfl) (Nat.le_of_ble_eq_true rfl)
def jb_X12_construct_27 (fu : Nat) (E : Ev) (a0 : Nat) (x1 : Int32) (S : St) : Option St :=
  (sp_X12_drop fu E S a0 1).bind fun u3 =>
  (sp_X12_isWell fu E u3.2 a0).bind fun u4 =>
  if u4.1 = 0 then (
    some u4.2
  ) else (
    if u3.1 = (-4) then (
      bnd (sG u4.2 (E.2 a0 39) ((25 : Int32).toNatClampNeg) 0) fun S13 =>
      jb_X12_construct_55 fu E a0 x1 u3.1 S13
    ) else (
      jb_X12_construct_55 fu E a0 x1 u3.1 u4.2
    )
  )
set_option maxRecDepth 100000 in
theorem kj_X12_construct_27 {X : Cx} {E : Ev} {t : St} {a0 : Nat} (hQ : EndR mX12_construct X (PoV E t)) (hE : WE E) (fu : Nat) (ha0 : E.1 a0 = some (0, 10, 0)) (x1 : Int32) (S : St) : K mX12_construct X E 27 [(0, .ref a0), (1, .int x1)] [] S 0 0 (jb_X12_construct_27 fu E a0 x1 S) t := by
  unfold jb_X12_construct_27
  refine K_aload_n dX12_construct_27 rfl rfl ?_
  refine K_iconst (v := 1) dX12_construct_28 (by decide) ?_
  refine K_bind (fun u3 hu3 => ?_)
  refine K_callVI (As := [.int 1]) (k_X12_drop fu hE ha0 hu3) dX12_construct_29 v_X12_235 ha0 rfl rfl rfl rfl (Nat.le_of_ble_eq_true rfl) ⟨Nat.le_of_ble_eq_true rfl, Nat.le_of_ble_eq_true rfl, Nat.le_of_ble_eq_true rfl, Nat.le_of_ble_eq_true rfl⟩ ?_
  refine K_istore_n (ls' := [(0, _), (1, _), (2, _)]) dX12_construct_32 rfl (by decide) rfl ?_
  refine K_aload_n dX12_construct_33 rfl rfl ?_
  refine K_bind (fun u4 hu4 => ?_)
  refine K_callVI (As := []) (k_X12_isWell fu hE ha0 hu4) dX12_construct_34 v_X12_218 ha0 rfl rfl rfl rfl (Nat.le_of_ble_eq_true rfl) ⟨Nat.le_of_ble_eq_true rfl, Nat.le_of_ble_eq_true rfl, Nat.le_of_ble_eq_true rfl, Nat.le_of_ble_eq_true rfl⟩ ?_
  refine K_if_ne (tgt := 41) dX12_construct_37 (by decide) (fun c15 => ?_) (fun c15 => ?_)
  · refine K_iload_n dX12_construct_41 rfl rfl ?_
    refine K_bipush (v := (-4)) dX12_construct_42 (by decide) ?_
    refine K_icmp_ne (tgt := 55) dX12_construct_44 (by decide) (fun c14 => ?_) (fun c14 => ?_)
    · refine K.keep [0, 1, 2] ?_
      exact kj_X12_construct_55 hQ hE fu ha0 x1 u3.1 u4.2
    · refine K_aload_n dX12_construct_47 rfl rfl ?_
      refine K_getC hE dX12_construct_48 f_X12_81_10 ha0 rfl rfl (fun h12 => ?_)
      refine K_bipush (v := 25) dX12_construct_51 (by decide) ?_
      refine K_iconst (v := 0) dX12_construct_53 (by decide) ?_
      refine K_iast dX12_construct_54 h12 (by decide) ?_
      refine K_nmS (fun S13 => ?_)
      refine K.keep [0, 1, 2] ?_
      exact kj_X12_construct_55 hQ hE fu ha0 x1 u3.1 S13
  · exact K_vret dX12_construct_40 hQ rfl (Nat.le_of_ble_eq_true rfl) (Nat.le_of_ble_eq_true rfl)
def sp_X12_construct (fu : Nat) (E : Ev) (S : St) (a0 : Nat) (x1 : Int32) : Option St :=
  (sp_X12_popArguments fu E S a0 x1).bind fun u1 =>
  (sp_X12_has fu E u1 a0 1).bind fun u2 =>
  if u2.1 = 0 then (
    jb_X12_construct_27 fu E a0 x1 u2.2
  ) else (
    (sp_X12_top fu E u2.2 a0 0).bind fun u16 =>
    (sp_X12_isToConstruct fu E u16.2 a0 u16.1 x1).bind fun u17 =>
    (sp_X12_require fu E u17.2 a0 u17.1).bind fun u18 =>
    jb_X12_construct_27 fu E a0 x1 u18
  )
set_option maxRecDepth 100000 in
theorem k_X12_construct {l : Launch} (fu : Nat) {E : Ev} (hE : WE E) {a0 : Nat} (ha0 : E.1 a0 = some (0, 10, 0)) {x1 : Int32} {S : St} {t : St} (h : sp_X12_construct fu E S a0 x1 = some t) : Cn l mX12_construct [.ref a0, .int x1] (hp E S) (PoV E t) := by
  refine Cn.of (by decide) rfl (Nat.le_of_ble_eq_true rfl) (fun X _ _ hQ => ?_)
  refine (?_ : K mX12_construct X E 0 [(0, .ref a0), (1, .int x1)] [] S 0 0 (sp_X12_construct fu E S a0 x1) t) h
  unfold sp_X12_construct
  refine K_aload_n dX12_construct_0 rfl rfl ?_
  refine K_iload_n dX12_construct_1 rfl rfl ?_
  refine K_bind (fun u1 hu1 => ?_)
  refine K_callVV (As := [.int x1]) (k_X12_popArguments fu hE ha0 hu1) dX12_construct_2 v_X12_301 ha0 rfl rfl rfl rfl (Nat.le_of_ble_eq_true rfl) ⟨Nat.le_of_ble_eq_true rfl, Nat.le_of_ble_eq_true rfl, Nat.le_of_ble_eq_true rfl, Nat.le_of_ble_eq_true rfl⟩ ?_
  refine K_aload_n dX12_construct_5 rfl rfl ?_
  refine K_iconst (v := 1) dX12_construct_6 (by decide) ?_
  refine K_bind (fun u2 hu2 => ?_)
  refine K_callVI (As := [.int 1]) (k_X12_has fu hE ha0 hu2) dX12_construct_7 v_X12_225 ha0 rfl rfl rfl rfl (Nat.le_of_ble_eq_true rfl) ⟨Nat.le_of_ble_eq_true rfl, Nat.le_of_ble_eq_true rfl, Nat.le_of_ble_eq_true rfl, Nat.le_of_ble_eq_true rfl⟩ ?_
  refine K_if_eq (tgt := 27) dX12_construct_10 (by decide) (fun c19 => ?_) (fun c19 => ?_)
  · refine K.keep [0, 1] ?_
    exact kj_X12_construct_27 hQ hE fu ha0 x1 u2.2
  · refine K_aload_n dX12_construct_13 rfl rfl ?_
    refine K_aload_n dX12_construct_14 rfl rfl ?_
    refine K_aload_n dX12_construct_15 rfl rfl ?_
    refine K_iconst (v := 0) dX12_construct_16 (by decide) ?_
    refine K_bind (fun u16 hu16 => ?_)
    refine K_callVI (As := [.int 0]) (k_X12_top fu hE ha0 hu16) dX12_construct_17 v_X12_228 ha0 rfl rfl rfl rfl (Nat.le_of_ble_eq_true rfl) ⟨Nat.le_of_ble_eq_true rfl, Nat.le_of_ble_eq_true rfl, Nat.le_of_ble_eq_true rfl, Nat.le_of_ble_eq_true rfl⟩ ?_
    refine K_iload_n dX12_construct_20 rfl rfl ?_
    refine K_bind (fun u17 hu17 => ?_)
    refine K_callVI (As := [.int u16.1, .int x1]) (k_X12_isToConstruct fu hE ha0 hu17) dX12_construct_21 v_X12_304 ha0 rfl rfl rfl rfl (Nat.le_of_ble_eq_true rfl) ⟨Nat.le_of_ble_eq_true rfl, Nat.le_of_ble_eq_true rfl, Nat.le_of_ble_eq_true rfl, Nat.le_of_ble_eq_true rfl⟩ ?_
    refine K_bind (fun u18 hu18 => ?_)
    refine K_callVV (As := [.int u17.1]) (k_X12_require fu hE ha0 hu18) dX12_construct_24 v_X12_231 ha0 rfl rfl rfl rfl (Nat.le_of_ble_eq_true rfl) ⟨Nat.le_of_ble_eq_true rfl, Nat.le_of_ble_eq_true rfl, Nat.le_of_ble_eq_true rfl, Nat.le_of_ble_eq_true rfl⟩ ?_
    refine K.keep [0, 1] ?_
    exact kj_X12_construct_27 hQ hE fu ha0 x1 u18
def bd_X12_create_51 (fu : Nat) (E : Ev) (a0 : Nat) (rc51 : Int32 → Int32 → St → Option St) (x2 : Int32) (x3 : Int32) (S : St) : Option St :=
  if 12 ≤ x3 then (
    (sp_X12_push fu E S a0 x2).bind fun u3 =>
    some u3
  ) else (
    if inb x3 26 = true then
      (
      if (S.2.1 (E.2 a0 39) x3.toNatClampNeg) = x2 then (
        if inb x3 26 = true then (
          bnd (sG S (E.2 a0 39) (x3.toNatClampNeg) (-2)) fun S8 =>
          rc51 x2 (x3 + 1) S8
        ) else none
      ) else (
        rc51 x2 (x3 + 1) S
      )
      )
    else none
  )
def lp_X12_create_51 (fu : Nat) (E : Ev) (a0 : Nat) : Nat → Int32 → Int32 → St → Option St
  | 0, _, _, _ => none
  | f + 1, x2, x3, S => bd_X12_create_51 fu E a0 (lp_X12_create_51 fu E a0 f) x2 x3 S
set_option maxRecDepth 100000 in
theorem kl_X12_create_51 {X : Cx} {E : Ev} {t : St} {a0 : Nat} (hQ : EndR mX12_create X (PoV E t)) (hE : WE E) (fu : Nat) (ha0 : E.1 a0 = some (0, 10, 0)) : ∀ (f : Nat) (x2 : Int32) (x3 : Int32) (S : St), K mX12_create X E 51 [(0, .ref a0), (2, .int x2), (3, .int x3)] [] S 0 0 (lp_X12_create_51 fu E a0 f x2 x3 S) t := by
  intro f
  induction f with
  | zero => intro x2 x3 S; exact K_none
  | succ f hrc51 =>
    intro x2 x3 S
    show K _ _ _ _ _ _ _ _ _ (bd_X12_create_51 fu E a0 (lp_X12_create_51 fu E a0 f) x2 x3 S) t
    unfold bd_X12_create_51
    refine K_iload_n dX12_create_51 rfl rfl ?_
    refine K_bipush (v := 12) dX12_create_52 (by decide) ?_
    refine K_icmp_ge (tgt := 81) dX12_create_54 (by decide) (fun c10 => ?_) (fun c10 => ?_)
    · refine K_aload_n dX12_create_81 rfl rfl ?_
      refine K_iload_n dX12_create_82 rfl rfl ?_
      refine K_bind (fun u3 hu3 => ?_)
      refine K_callVV (As := [.int x2]) (k_X12_push fu hE ha0 hu3) dX12_create_83 v_X12_247 ha0 rfl rfl rfl rfl (Nat.le_of_ble_eq_true rfl) ⟨Nat.le_of_ble_eq_true rfl, Nat.le_of_ble_eq_true rfl, Nat.le_of_ble_eq_true rfl, Nat.le_of_ble_eq_true rfl⟩ ?_
      exact K_vret dX12_create_86 hQ rfl (Nat.le_of_ble_eq_true rfl) (Nat.le_of_ble_eq_true rfl)
    · refine K_aload_n dX12_create_57 rfl rfl ?_
      refine K_getC hE dX12_create_58 f_X12_81_10 ha0 rfl rfl (fun h4 => ?_)
      refine K_iload_n dX12_create_61 rfl rfl ?_
      refine K_chk (fun h5 => ?_)
      refine K_iald dX12_create_62 h4 h5 ?_
      refine K_iload_n dX12_create_63 rfl rfl ?_
      refine K_icmp_ne (tgt := 75) dX12_create_64 (by decide) (fun c9 => ?_) (fun c9 => ?_)
      · refine K_iinc (v := (x3 + 1)) (ls' := [(0, _), (2, _), (3, _)]) dX12_create_75 rfl rfl (by decide) rfl ?_
        refine K_goto (tgt := 51) dX12_create_78 (by decide) ?_
        refine K.keep [0, 2, 3] ?_
        exact hrc51 x2 (x3 + 1) S
      · refine K_aload_n dX12_create_67 rfl rfl ?_
        refine K_getC hE dX12_create_68 f_X12_81_10 ha0 rfl rfl (fun h6 => ?_)
        refine K_iload_n dX12_create_71 rfl rfl ?_
        refine K_bipush (v := (-2)) dX12_create_72 (by decide) ?_
        refine K_chk (fun h7 => ?_)
        refine K_iast dX12_create_74 h6 h7 ?_
        refine K_nmS (fun S8 => ?_)
        refine K_iinc (v := (x3 + 1)) (ls' := [(0, _), (2, _), (3, _)]) dX12_create_75 rfl rfl (by decide) rfl ?_
        refine K_goto (tgt := 51) dX12_create_78 (by decide) ?_
        refine K.keep [0, 2, 3] ?_
        exact hrc51 x2 (x3 + 1) S8
def bd_X12_create_10 (fu : Nat) (E : Ev) (a0 : Nat) (rc10 : Int32 → Int32 → St → Option St) (x2 : Int32) (x3 : Int32) (S : St) : Option St :=
  if (S.2.1 (E.2 a0 39) (24 : Int32).toNatClampNeg) ≤ x3 then (
    lp_X12_create_51 fu E a0 fu x2 0 S
  ) else (
    if inb (12 + x3) 26 = true then
      (
      if (S.2.1 (E.2 a0 39) (12 + x3).toNatClampNeg) = x2 then (
        (sp_X12_require fu E S a0 0).bind fun u13 =>
        rc10 x2 (x3 + 1) u13
      ) else (
        (sp_X12_require fu E S a0 1).bind fun u14 =>
        rc10 x2 (x3 + 1) u14
      )
      )
    else none
  )
def lp_X12_create_10 (fu : Nat) (E : Ev) (a0 : Nat) : Nat → Int32 → Int32 → St → Option St
  | 0, _, _, _ => none
  | f + 1, x2, x3, S => bd_X12_create_10 fu E a0 (lp_X12_create_10 fu E a0 f) x2 x3 S
set_option maxRecDepth 100000 in
theorem kl_X12_create_10 {X : Cx} {E : Ev} {t : St} {a0 : Nat} (hQ : EndR mX12_create X (PoV E t)) (hE : WE E) (fu : Nat) (ha0 : E.1 a0 = some (0, 10, 0)) : ∀ (f : Nat) (x2 : Int32) (x3 : Int32) (S : St), K mX12_create X E 10 [(0, .ref a0), (2, .int x2), (3, .int x3)] [] S 0 0 (lp_X12_create_10 fu E a0 f x2 x3 S) t := by
  intro f
  induction f with
  | zero => intro x2 x3 S; exact K_none
  | succ f hrc10 =>
    intro x2 x3 S
    show K _ _ _ _ _ _ _ _ _ (bd_X12_create_10 fu E a0 (lp_X12_create_10 fu E a0 f) x2 x3 S) t
    unfold bd_X12_create_10
    refine K_iload_n dX12_create_10 rfl rfl ?_
    refine K_aload_n dX12_create_11 rfl rfl ?_
    refine K_getC hE dX12_create_12 f_X12_81_10 ha0 rfl rfl (fun h2 => ?_)
    refine K_bipush (v := 24) dX12_create_15 (by decide) ?_
    refine K_iald dX12_create_17 h2 (by decide) ?_
    refine K_icmp_ge (tgt := 49) dX12_create_18 (by decide) (fun c16 => ?_) (fun c16 => ?_)
    · refine K_iconst (v := 0) dX12_create_49 (by decide) ?_
      refine K_istore_n (ls' := [(0, _), (2, _), (3, _)]) dX12_create_50 rfl (by decide) rfl ?_
      refine K.keep [0, 2, 3] ?_
      exact kl_X12_create_51 hQ hE fu ha0 fu x2 0 S
    · refine K_aload_n dX12_create_21 rfl rfl ?_
      refine K_aload_n dX12_create_22 rfl rfl ?_
      refine K_getC hE dX12_create_23 f_X12_81_10 ha0 rfl rfl (fun h11 => ?_)
      refine K_bipush (v := 12) dX12_create_26 (by decide) ?_
      refine K_iload_n dX12_create_28 rfl rfl ?_
      refine K_iadd dX12_create_29 ?_
      refine K_chk (fun h12 => ?_)
      refine K_iald dX12_create_30 h11 h12 ?_
      refine K_iload_n dX12_create_31 rfl rfl ?_
      refine K_icmp_eq (tgt := 39) dX12_create_32 (by decide) (fun c15 => ?_) (fun c15 => ?_)
      · refine K_iconst (v := 0) dX12_create_39 (by decide) ?_
        refine K_bind (fun u13 hu13 => ?_)
        refine K_callVV (As := [.int 0]) (k_X12_require fu hE ha0 hu13) dX12_create_40 v_X12_231 ha0 rfl rfl rfl rfl (Nat.le_of_ble_eq_true rfl) ⟨Nat.le_of_ble_eq_true rfl, Nat.le_of_ble_eq_true rfl, Nat.le_of_ble_eq_true rfl, Nat.le_of_ble_eq_true rfl⟩ ?_
        refine K_iinc (v := (x3 + 1)) (ls' := [(0, _), (2, _), (3, _)]) dX12_create_43 rfl rfl (by decide) rfl ?_
        refine K_goto (tgt := 10) dX12_create_46 (by decide) ?_
        refine K.keep [0, 2, 3] ?_
        exact hrc10 x2 (x3 + 1) u13
      · refine K_iconst (v := 1) dX12_create_35 (by decide) ?_
        refine K_goto (tgt := 40) dX12_create_36 (by decide) ?_
        refine K_bind (fun u14 hu14 => ?_)
        refine K_callVV (As := [.int 1]) (k_X12_require fu hE ha0 hu14) dX12_create_40 v_X12_231 ha0 rfl rfl rfl rfl (Nat.le_of_ble_eq_true rfl) ⟨Nat.le_of_ble_eq_true rfl, Nat.le_of_ble_eq_true rfl, Nat.le_of_ble_eq_true rfl, Nat.le_of_ble_eq_true rfl⟩ ?_
        refine K_iinc (v := (x3 + 1)) (ls' := [(0, _), (2, _), (3, _)]) dX12_create_43 rfl rfl (by decide) rfl ?_
        refine K_goto (tgt := 10) dX12_create_46 (by decide) ?_
        refine K.keep [0, 2, 3] ?_
        exact hrc10 x2 (x3 + 1) u14
def sp_X12_create (fu : Nat) (E : Ev) (S : St) (a0 : Nat) (x1 : Int32) : Option St :=
  bnd ((-10) - (S.1 a0 43)) fun v1 =>
  lp_X12_create_10 fu E a0 fu v1 0 S
set_option maxRecDepth 100000 in
theorem k_X12_create {l : Launch} (fu : Nat) {E : Ev} (hE : WE E) {a0 : Nat} (ha0 : E.1 a0 = some (0, 10, 0)) {x1 : Int32} {S : St} {t : St} (h : sp_X12_create fu E S a0 x1 = some t) : Cn l mX12_create [.ref a0, .int x1] (hp E S) (PoV E t) := by
  refine Cn.of (by decide) rfl (Nat.le_of_ble_eq_true rfl) (fun X _ _ hQ => ?_)
  refine (?_ : K mX12_create X E 0 [(0, .ref a0), (1, .int x1)] [] S 0 0 (sp_X12_create fu E S a0 x1) t) h
  unfold sp_X12_create
  refine K_bipush (v := (-10)) dX12_create_0 (by decide) ?_
  refine K_aload_n dX12_create_2 rfl rfl ?_
  refine K_getI dX12_create_3 f_X12_222_10 ha0 rfl ?_
  refine K_isub dX12_create_6 ?_
  refine K_nmI (fun v1 => ?_)
  refine K_istore_n (ls' := [(0, _), (1, _), (2, _)]) dX12_create_7 rfl (by decide) rfl ?_
  refine K_iconst (v := 0) dX12_create_8 (by decide) ?_
  refine K_istore_n (ls' := [(0, _), (1, _), (2, _), (3, _)]) dX12_create_9 rfl (by decide) rfl ?_
  refine K.keep [0, 2, 3] ?_
  exact kl_X12_create_10 hQ hE fu ha0 fu v1 0 S
def jb_X12_useObject_123 (fu : Nat) (E : Ev) (a0 b0 : Nat) (S : St) : Option St :=
  (sp_X12_require fu E S b0 1).bind fun u18 =>
  (sp_X12_drop fu E u18 a0 1).bind fun u19 =>
  some u19.2
set_option maxRecDepth 100000 in
theorem kj_X12_useObject_123 {X : Cx} {E : Ev} {t : St} {a0 b0 : Nat} (hQ : EndR mX12_useObject X (PoV E t)) (hE : WE E) (fu : Nat) (ha0 : E.1 a0 = some (0, 10, 0)) (hb0 : E.1 b0 = some (0, 10, 0)) (S : St) : K mX12_useObject X E 123 [(0, .ref a0)] [.ref b0] S 0 0 (jb_X12_useObject_123 fu E a0 b0 S) t := by
  unfold jb_X12_useObject_123
  refine K_iconst (v := 1) dX12_useObject_123 (by decide) ?_
  refine K_goto (tgt := 128) dX12_useObject_124 (by decide) ?_
  refine K_bind (fun u18 hu18 => ?_)
  refine K_callVV (As := [.int 1]) (k_X12_require fu hE hb0 hu18) dX12_useObject_128 v_X12_231 hb0 rfl rfl rfl rfl (Nat.le_of_ble_eq_true rfl) ⟨Nat.le_of_ble_eq_true rfl, Nat.le_of_ble_eq_true rfl, Nat.le_of_ble_eq_true rfl, Nat.le_of_ble_eq_true rfl⟩ ?_
  refine K_aload_n dX12_useObject_131 rfl rfl ?_
  refine K_iconst (v := 1) dX12_useObject_132 (by decide) ?_
  refine K_bind (fun u19 hu19 => ?_)
  refine K_callVI (As := [.int 1]) (k_X12_drop fu hE ha0 hu19) dX12_useObject_133 v_X12_235 ha0 rfl rfl rfl rfl (Nat.le_of_ble_eq_true rfl) ⟨Nat.le_of_ble_eq_true rfl, Nat.le_of_ble_eq_true rfl, Nat.le_of_ble_eq_true rfl, Nat.le_of_ble_eq_true rfl⟩ ?_
  refine K_pop dX12_useObject_136 rfl ?_
  refine K_goto (tgt := 187) dX12_useObject_137 (by decide) ?_
  exact K_vret dX12_useObject_187 hQ rfl (Nat.le_of_ble_eq_true rfl) (Nat.le_of_ble_eq_true rfl)
def jb_X12_useObject_127 (fu : Nat) (E : Ev) (a0 b0 : Nat) (S : St) : Option St :=
  (sp_X12_require fu E S b0 0).bind fun u21 =>
  (sp_X12_drop fu E u21 a0 1).bind fun u22 =>
  some u22.2
set_option maxRecDepth 100000 in
theorem kj_X12_useObject_127 {X : Cx} {E : Ev} {t : St} {a0 b0 : Nat} (hQ : EndR mX12_useObject X (PoV E t)) (hE : WE E) (fu : Nat) (ha0 : E.1 a0 = some (0, 10, 0)) (hb0 : E.1 b0 = some (0, 10, 0)) (S : St) : K mX12_useObject X E 127 [(0, .ref a0)] [.ref b0] S 0 0 (jb_X12_useObject_127 fu E a0 b0 S) t := by
  unfold jb_X12_useObject_127
  refine K_iconst (v := 0) dX12_useObject_127 (by decide) ?_
  refine K_bind (fun u21 hu21 => ?_)
  refine K_callVV (As := [.int 0]) (k_X12_require fu hE hb0 hu21) dX12_useObject_128 v_X12_231 hb0 rfl rfl rfl rfl (Nat.le_of_ble_eq_true rfl) ⟨Nat.le_of_ble_eq_true rfl, Nat.le_of_ble_eq_true rfl, Nat.le_of_ble_eq_true rfl, Nat.le_of_ble_eq_true rfl⟩ ?_
  refine K_aload_n dX12_useObject_131 rfl rfl ?_
  refine K_iconst (v := 1) dX12_useObject_132 (by decide) ?_
  refine K_bind (fun u22 hu22 => ?_)
  refine K_callVI (As := [.int 1]) (k_X12_drop fu hE ha0 hu22) dX12_useObject_133 v_X12_235 ha0 rfl rfl rfl rfl (Nat.le_of_ble_eq_true rfl) ⟨Nat.le_of_ble_eq_true rfl, Nat.le_of_ble_eq_true rfl, Nat.le_of_ble_eq_true rfl, Nat.le_of_ble_eq_true rfl⟩ ?_
  refine K_pop dX12_useObject_136 rfl ?_
  refine K_goto (tgt := 187) dX12_useObject_137 (by decide) ?_
  exact K_vret dX12_useObject_187 hQ rfl (Nat.le_of_ble_eq_true rfl) (Nat.le_of_ble_eq_true rfl)
def sp_X12_useObject (fu : Nat) (E : Ev) (S : St) (a0 : Nat) (x1 : Int32) (x2 : Int32) : Option St :=
  if x1 = 32 then (
    if inb x2 30 = true then
      (
      (sp_X12_popObject fu E S a0 (S.2.1 (E.2 a0 5) x2.toNatClampNeg)).bind fun u4 =>
      if inb x2 30 = true then
        (
        (sp_X12_pushType fu E u4 a0 (u4.2.1 (E.2 a0 6) x2.toNatClampNeg)).bind fun u7 =>
        some u7
        )
      else none
      )
    else none
  ) else (
    if x1 = 33 then (
      if inb x2 30 = true then
        (
        (sp_X12_popType fu E S a0 (S.2.1 (E.2 a0 6) x2.toNatClampNeg)).bind fun u11 =>
        (sp_X12_has fu E u11 a0 1).bind fun u12 =>
        if u12.1 = 0 then (
          (sp_X12_drop fu E u12.2 a0 1).bind fun u13 =>
          some u13.2
        ) else (
          (sp_X12_top fu E u12.2 a0 0).bind fun u14 =>
          if inb x2 30 = true then
            (
            (sp_X12_fits fu E u14.2 a0 u14.1 (8 * (u14.2.2.1 (E.2 a0 5) x2.toNatClampNeg))).bind fun u17 =>
            if u17.1 = 0 then (
              (sp_X12_top fu E u17.2 a0 0).bind fun u20 =>
              if u20.1 = (-4) then (
                if inb x2 30 = true then
                  (
                  if inb (u20.2.1 a0 16) 30 = true then
                    (
                    if (u20.2.2.1 (E.2 a0 5) x2.toNatClampNeg) = (u20.2.2.1 (E.2 a0 8) (u20.2.1 a0 16).toNatClampNeg) then (
                      jb_X12_useObject_123 fu E a0 a0 u20.2
                    ) else (
                      jb_X12_useObject_127 fu E a0 a0 u20.2
                    )
                    )
                  else none
                  )
                else none
              ) else (
                jb_X12_useObject_127 fu E a0 a0 u20.2
              )
            ) else (
              jb_X12_useObject_123 fu E a0 a0 u17.2
            )
            )
          else none
        )
        )
      else none
    ) else (
      if x1 = 34 then (
        (sp_X12_create fu E S a0 x2).bind fun u32 =>
        some u32
      ) else (
        if x1 = 35 then (
          (sp_X12_construct fu E S a0 x2).bind fun u34 =>
          some u34
        ) else (
          (sp_X12_popArguments fu E S a0 x2).bind fun u35 =>
          if x1 = 36 then (
            if inb x2 30 = true then
              (
              (sp_X12_popObject fu E u35 a0 (u35.2.1 (E.2 a0 8) x2.toNatClampNeg)).bind fun u41 =>
              if inb x2 30 = true then
                (
                (sp_X12_pushType fu E u41 a0 (u41.2.1 (E.2 a0 10) x2.toNatClampNeg)).bind fun u44 =>
                some u44
                )
              else none
              )
            else none
          ) else (
            if inb x2 30 = true then
              (
              (sp_X12_pushType fu E u35 a0 (u35.2.1 (E.2 a0 10) x2.toNatClampNeg)).bind fun u38 =>
              some u38
              )
            else none
          )
        )
      )
    )
  )
set_option maxRecDepth 100000 in
theorem k_X12_useObject {l : Launch} (fu : Nat) {E : Ev} (hE : WE E) {a0 : Nat} (ha0 : E.1 a0 = some (0, 10, 0)) {x1 : Int32} {x2 : Int32} {S : St} {t : St} (h : sp_X12_useObject fu E S a0 x1 x2 = some t) : Cn l mX12_useObject [.ref a0, .int x1, .int x2] (hp E S) (PoV E t) := by
  refine Cn.of (by decide) rfl (Nat.le_of_ble_eq_true rfl) (fun X _ _ hQ => ?_)
  refine (?_ : K mX12_useObject X E 0 [(0, .ref a0), (1, .int x1), (2, .int x2)] [] S 0 0 (sp_X12_useObject fu E S a0 x1 x2) t) h
  unfold sp_X12_useObject
  refine K_iload_n dX12_useObject_0 rfl rfl ?_
  refine K_ite (fun c1 => ?_) (fun c1 => ?_)
  · refine K_tswIn (tgt := 32) 32 dX12_useObject_1 c1 (by decide) (by decide) rfl (by decide) ?_
    refine K_aload_n dX12_useObject_32 rfl rfl ?_
    refine K_aload_n dX12_useObject_33 rfl rfl ?_
    refine K_getC hE dX12_useObject_34 f_X12_21_10 ha0 rfl rfl (fun h2 => ?_)
    refine K_iload_n dX12_useObject_37 rfl rfl ?_
    refine K_chk (fun h3 => ?_)
    refine K_iald dX12_useObject_38 h2 h3 ?_
    refine K_bind (fun u4 hu4 => ?_)
    refine K_callVV (As := [.int (S.2.1 (E.2 a0 5) x2.toNatClampNeg)]) (k_X12_popObject fu hE ha0 hu4) dX12_useObject_39 v_X12_292 ha0 rfl rfl rfl rfl (Nat.le_of_ble_eq_true rfl) ⟨Nat.le_of_ble_eq_true rfl, Nat.le_of_ble_eq_true rfl, Nat.le_of_ble_eq_true rfl, Nat.le_of_ble_eq_true rfl⟩ ?_
    refine K_aload_n dX12_useObject_42 rfl rfl ?_
    refine K_aload_n dX12_useObject_43 rfl rfl ?_
    refine K_getC hE dX12_useObject_44 f_X12_24_10 ha0 rfl rfl (fun h5 => ?_)
    refine K_iload_n dX12_useObject_47 rfl rfl ?_
    refine K_chk (fun h6 => ?_)
    refine K_iald dX12_useObject_48 h5 h6 ?_
    refine K_bind (fun u7 hu7 => ?_)
    refine K_callVV (As := [.int (u4.2.1 (E.2 a0 6) x2.toNatClampNeg)]) (k_X12_pushType fu hE ha0 hu7) dX12_useObject_49 v_X12_271 ha0 rfl rfl rfl rfl (Nat.le_of_ble_eq_true rfl) ⟨Nat.le_of_ble_eq_true rfl, Nat.le_of_ble_eq_true rfl, Nat.le_of_ble_eq_true rfl, Nat.le_of_ble_eq_true rfl⟩ ?_
    refine K_goto (tgt := 187) dX12_useObject_52 (by decide) ?_
    exact K_vret dX12_useObject_187 hQ rfl (Nat.le_of_ble_eq_true rfl) (Nat.le_of_ble_eq_true rfl)
  · refine K_ite (fun c8 => ?_) (fun c8 => ?_)
    · refine K_tswIn (tgt := 55) 33 dX12_useObject_1 c8 (by decide) (by decide) rfl (by decide) ?_
      refine K_aload_n dX12_useObject_55 rfl rfl ?_
      refine K_aload_n dX12_useObject_56 rfl rfl ?_
      refine K_getC hE dX12_useObject_57 f_X12_24_10 ha0 rfl rfl (fun h9 => ?_)
      refine K_iload_n dX12_useObject_60 rfl rfl ?_
      refine K_chk (fun h10 => ?_)
      refine K_iald dX12_useObject_61 h9 h10 ?_
      refine K_bind (fun u11 hu11 => ?_)
      refine K_callVV (As := [.int (S.2.1 (E.2 a0 6) x2.toNatClampNeg)]) (k_X12_popType fu hE ha0 hu11) dX12_useObject_62 v_X12_244 ha0 rfl rfl rfl rfl (Nat.le_of_ble_eq_true rfl) ⟨Nat.le_of_ble_eq_true rfl, Nat.le_of_ble_eq_true rfl, Nat.le_of_ble_eq_true rfl, Nat.le_of_ble_eq_true rfl⟩ ?_
      refine K_aload_n dX12_useObject_65 rfl rfl ?_
      refine K_iconst (v := 1) dX12_useObject_66 (by decide) ?_
      refine K_bind (fun u12 hu12 => ?_)
      refine K_callVI (As := [.int 1]) (k_X12_has fu hE ha0 hu12) dX12_useObject_67 v_X12_225 ha0 rfl rfl rfl rfl (Nat.le_of_ble_eq_true rfl) ⟨Nat.le_of_ble_eq_true rfl, Nat.le_of_ble_eq_true rfl, Nat.le_of_ble_eq_true rfl, Nat.le_of_ble_eq_true rfl⟩ ?_
      refine K_if_eq (tgt := 131) dX12_useObject_70 (by decide) (fun c30 => ?_) (fun c30 => ?_)
      · refine K_aload_n dX12_useObject_131 rfl rfl ?_
        refine K_iconst (v := 1) dX12_useObject_132 (by decide) ?_
        refine K_bind (fun u13 hu13 => ?_)
        refine K_callVI (As := [.int 1]) (k_X12_drop fu hE ha0 hu13) dX12_useObject_133 v_X12_235 ha0 rfl rfl rfl rfl (Nat.le_of_ble_eq_true rfl) ⟨Nat.le_of_ble_eq_true rfl, Nat.le_of_ble_eq_true rfl, Nat.le_of_ble_eq_true rfl, Nat.le_of_ble_eq_true rfl⟩ ?_
        refine K_pop dX12_useObject_136 rfl ?_
        refine K_goto (tgt := 187) dX12_useObject_137 (by decide) ?_
        exact K_vret dX12_useObject_187 hQ rfl (Nat.le_of_ble_eq_true rfl) (Nat.le_of_ble_eq_true rfl)
      · refine K_aload_n dX12_useObject_73 rfl rfl ?_
        refine K_aload_n dX12_useObject_74 rfl rfl ?_
        refine K_aload_n dX12_useObject_75 rfl rfl ?_
        refine K_iconst (v := 0) dX12_useObject_76 (by decide) ?_
        refine K_bind (fun u14 hu14 => ?_)
        refine K_callVI (As := [.int 0]) (k_X12_top fu hE ha0 hu14) dX12_useObject_77 v_X12_228 ha0 rfl rfl rfl rfl (Nat.le_of_ble_eq_true rfl) ⟨Nat.le_of_ble_eq_true rfl, Nat.le_of_ble_eq_true rfl, Nat.le_of_ble_eq_true rfl, Nat.le_of_ble_eq_true rfl⟩ ?_
        refine K_bipush (v := 8) dX12_useObject_80 (by decide) ?_
        refine K_aload_n dX12_useObject_82 rfl rfl ?_
        refine K_getC hE dX12_useObject_83 f_X12_21_10 ha0 rfl rfl (fun h15 => ?_)
        refine K_iload_n dX12_useObject_86 rfl rfl ?_
        refine K_chk (fun h16 => ?_)
        refine K_iald dX12_useObject_87 h15 h16 ?_
        refine K_imul dX12_useObject_88 ?_
        refine K_bind (fun u17 hu17 => ?_)
        refine K_callVI (As := [.int u14.1, .int (8 * (u14.2.2.1 (E.2 a0 5) x2.toNatClampNeg))]) (k_X12_fits fu hE ha0 hu17) dX12_useObject_89 v_X12_130 ha0 rfl rfl rfl rfl (Nat.le_of_ble_eq_true rfl) ⟨Nat.le_of_ble_eq_true rfl, Nat.le_of_ble_eq_true rfl, Nat.le_of_ble_eq_true rfl, Nat.le_of_ble_eq_true rfl⟩ ?_
        refine K_if_ne (tgt := 123) dX12_useObject_92 (by decide) (fun c29 => ?_) (fun c29 => ?_)
        · refine K.keep [0] ?_
          exact kj_X12_useObject_123 hQ hE fu ha0 ha0 u17.2
        · refine K_aload_n dX12_useObject_95 rfl rfl ?_
          refine K_iconst (v := 0) dX12_useObject_96 (by decide) ?_
          refine K_bind (fun u20 hu20 => ?_)
          refine K_callVI (As := [.int 0]) (k_X12_top fu hE ha0 hu20) dX12_useObject_97 v_X12_228 ha0 rfl rfl rfl rfl (Nat.le_of_ble_eq_true rfl) ⟨Nat.le_of_ble_eq_true rfl, Nat.le_of_ble_eq_true rfl, Nat.le_of_ble_eq_true rfl, Nat.le_of_ble_eq_true rfl⟩ ?_
          refine K_bipush (v := (-4)) dX12_useObject_100 (by decide) ?_
          refine K_icmp_ne (tgt := 127) dX12_useObject_102 (by decide) (fun c28 => ?_) (fun c28 => ?_)
          · refine K.keep [0] ?_
            exact kj_X12_useObject_127 hQ hE fu ha0 ha0 u20.2
          · refine K_aload_n dX12_useObject_105 rfl rfl ?_
            refine K_getC hE dX12_useObject_106 f_X12_21_10 ha0 rfl rfl (fun h23 => ?_)
            refine K_iload_n dX12_useObject_109 rfl rfl ?_
            refine K_chk (fun h24 => ?_)
            refine K_iald dX12_useObject_110 h23 h24 ?_
            refine K_aload_n dX12_useObject_111 rfl rfl ?_
            refine K_getC hE dX12_useObject_112 f_X12_27_10 ha0 rfl rfl (fun h25 => ?_)
            refine K_aload_n dX12_useObject_115 rfl rfl ?_
            refine K_getI dX12_useObject_116 f_X12_156_10 ha0 rfl ?_
            refine K_chk (fun h26 => ?_)
            refine K_iald dX12_useObject_119 h25 h26 ?_
            refine K_icmp_ne (tgt := 127) dX12_useObject_120 (by decide) (fun c27 => ?_) (fun c27 => ?_)
            · refine K.keep [0] ?_
              exact kj_X12_useObject_127 hQ hE fu ha0 ha0 u20.2
            · refine K.keep [0] ?_
              exact kj_X12_useObject_123 hQ hE fu ha0 ha0 u20.2
    · refine K_ite (fun c31 => ?_) (fun c31 => ?_)
      · refine K_tswIn (tgt := 140) 34 dX12_useObject_1 c31 (by decide) (by decide) rfl (by decide) ?_
        refine K_aload_n dX12_useObject_140 rfl rfl ?_
        refine K_iload_n dX12_useObject_141 rfl rfl ?_
        refine K_bind (fun u32 hu32 => ?_)
        refine K_callVV (As := [.int x2]) (k_X12_create fu hE ha0 hu32) dX12_useObject_142 v_X12_295 ha0 rfl rfl rfl rfl (Nat.le_of_ble_eq_true rfl) ⟨Nat.le_of_ble_eq_true rfl, Nat.le_of_ble_eq_true rfl, Nat.le_of_ble_eq_true rfl, Nat.le_of_ble_eq_true rfl⟩ ?_
        refine K_goto (tgt := 187) dX12_useObject_145 (by decide) ?_
        exact K_vret dX12_useObject_187 hQ rfl (Nat.le_of_ble_eq_true rfl) (Nat.le_of_ble_eq_true rfl)
      · refine K_ite (fun c33 => ?_) (fun c33 => ?_)
        · refine K_tswIn (tgt := 148) 35 dX12_useObject_1 c33 (by decide) (by decide) rfl (by decide) ?_
          refine K_aload_n dX12_useObject_148 rfl rfl ?_
          refine K_iload_n dX12_useObject_149 rfl rfl ?_
          refine K_bind (fun u34 hu34 => ?_)
          refine K_callVV (As := [.int x2]) (k_X12_construct fu hE ha0 hu34) dX12_useObject_150 v_X12_298 ha0 rfl rfl rfl rfl (Nat.le_of_ble_eq_true rfl) ⟨Nat.le_of_ble_eq_true rfl, Nat.le_of_ble_eq_true rfl, Nat.le_of_ble_eq_true rfl, Nat.le_of_ble_eq_true rfl⟩ ?_
          refine K_goto (tgt := 187) dX12_useObject_153 (by decide) ?_
          exact K_vret dX12_useObject_187 hQ rfl (Nat.le_of_ble_eq_true rfl) (Nat.le_of_ble_eq_true rfl)
        · refine K_tswD (tgt := 156) [32, 33, 34, 35] dX12_useObject_1 (List.forall_mem_cons.mpr ⟨c1, List.forall_mem_cons.mpr ⟨c8, List.forall_mem_cons.mpr ⟨c31, List.forall_mem_cons.mpr ⟨c33, fun _ h => absurd h List.not_mem_nil⟩⟩⟩⟩) (by decide) (by decide) ?_
          refine K_aload_n dX12_useObject_156 rfl rfl ?_
          refine K_iload_n dX12_useObject_157 rfl rfl ?_
          refine K_bind (fun u35 hu35 => ?_)
          refine K_callVV (As := [.int x2]) (k_X12_popArguments fu hE ha0 hu35) dX12_useObject_158 v_X12_301 ha0 rfl rfl rfl rfl (Nat.le_of_ble_eq_true rfl) ⟨Nat.le_of_ble_eq_true rfl, Nat.le_of_ble_eq_true rfl, Nat.le_of_ble_eq_true rfl, Nat.le_of_ble_eq_true rfl⟩ ?_
          refine K_iload_n dX12_useObject_161 rfl rfl ?_
          refine K_bipush (v := 36) dX12_useObject_162 (by decide) ?_
          refine K_icmp_ne (tgt := 177) dX12_useObject_164 (by decide) (fun c45 => ?_) (fun c45 => ?_)
          · refine K_aload_n dX12_useObject_177 rfl rfl ?_
            refine K_aload_n dX12_useObject_178 rfl rfl ?_
            refine K_getC hE dX12_useObject_179 f_X12_33_10 ha0 rfl rfl (fun h36 => ?_)
            refine K_iload_n dX12_useObject_182 rfl rfl ?_
            refine K_chk (fun h37 => ?_)
            refine K_iald dX12_useObject_183 h36 h37 ?_
            refine K_bind (fun u38 hu38 => ?_)
            refine K_callVV (As := [.int (u35.2.1 (E.2 a0 10) x2.toNatClampNeg)]) (k_X12_pushType fu hE ha0 hu38) dX12_useObject_184 v_X12_271 ha0 rfl rfl rfl rfl (Nat.le_of_ble_eq_true rfl) ⟨Nat.le_of_ble_eq_true rfl, Nat.le_of_ble_eq_true rfl, Nat.le_of_ble_eq_true rfl, Nat.le_of_ble_eq_true rfl⟩ ?_
            exact K_vret dX12_useObject_187 hQ rfl (Nat.le_of_ble_eq_true rfl) (Nat.le_of_ble_eq_true rfl)
          · refine K_aload_n dX12_useObject_167 rfl rfl ?_
            refine K_aload_n dX12_useObject_168 rfl rfl ?_
            refine K_getC hE dX12_useObject_169 f_X12_27_10 ha0 rfl rfl (fun h39 => ?_)
            refine K_iload_n dX12_useObject_172 rfl rfl ?_
            refine K_chk (fun h40 => ?_)
            refine K_iald dX12_useObject_173 h39 h40 ?_
            refine K_bind (fun u41 hu41 => ?_)
            refine K_callVV (As := [.int (u35.2.1 (E.2 a0 8) x2.toNatClampNeg)]) (k_X12_popObject fu hE ha0 hu41) dX12_useObject_174 v_X12_292 ha0 rfl rfl rfl rfl (Nat.le_of_ble_eq_true rfl) ⟨Nat.le_of_ble_eq_true rfl, Nat.le_of_ble_eq_true rfl, Nat.le_of_ble_eq_true rfl, Nat.le_of_ble_eq_true rfl⟩ ?_
            refine K_aload_n dX12_useObject_177 rfl rfl ?_
            refine K_aload_n dX12_useObject_178 rfl rfl ?_
            refine K_getC hE dX12_useObject_179 f_X12_33_10 ha0 rfl rfl (fun h42 => ?_)
            refine K_iload_n dX12_useObject_182 rfl rfl ?_
            refine K_chk (fun h43 => ?_)
            refine K_iald dX12_useObject_183 h42 h43 ?_
            refine K_bind (fun u44 hu44 => ?_)
            refine K_callVV (As := [.int (u41.2.1 (E.2 a0 10) x2.toNatClampNeg)]) (k_X12_pushType fu hE ha0 hu44) dX12_useObject_184 v_X12_271 ha0 rfl rfl rfl rfl (Nat.le_of_ble_eq_true rfl) ⟨Nat.le_of_ble_eq_true rfl, Nat.le_of_ble_eq_true rfl, Nat.le_of_ble_eq_true rfl, Nat.le_of_ble_eq_true rfl⟩ ?_
            exact K_vret dX12_useObject_187 hQ rfl (Nat.le_of_ble_eq_true rfl) (Nat.le_of_ble_eq_true rfl)
