def sp_X7_store (fu : Nat) (E : Ev) (S : St) (a0 : Nat) (x1 : Int32) (x2 : Int32) : Option St :=
  (sp_X7_breakLong fu E S a0 x1).bind fun u1 =>
  if E.1 (u1.2.2.1 a0 3) = some (0, 2, 0) then
    (
    if inb x1 12 = true then (
      bnd (sG u1 (E.2 (u1.2.2.1 a0 3) 0) (x1.toNatClampNeg) x2) fun S5 =>
      some S5
    ) else none
    )
  else none
set_option maxRecDepth 100000 in
theorem k_X7_store {l : Launch} (fu : Nat) {E : Ev} (hE : WE E) {a0 : Nat} (ha0 : E.1 a0 = some (0, 6, 0)) {x1 : Int32} {x2 : Int32} {S : St} {t : St} (h : sp_X7_store fu E S a0 x1 x2 = some t) : Cn l mX7_store [.ref a0, .int x1, .int x2] (hp E S) (PoV E t) := by
  refine Cn.of (by decide) rfl (Nat.le_of_ble_eq_true rfl) (fun X _ _ hQ => ?_)
  refine (?_ : K mX7_store X E 0 [(0, .ref a0), (1, .int x1), (2, .int x2)] [] S 0 0 (sp_X7_store fu E S a0 x1 x2) t) h
  unfold sp_X7_store
  refine K_aload_n dX7_store_0 rfl rfl ?_
  refine K_iload_n dX7_store_1 rfl rfl ?_
  refine K_bind (fun u1 hu1 => ?_)
  refine K_callVV (As := [.int x1]) (k_X7_breakLong fu hE ha0 hu1) dX7_store_2 v_X7_189 ha0 rfl rfl rfl rfl (Nat.le_of_ble_eq_true rfl) ⟨Nat.le_of_ble_eq_true rfl, Nat.le_of_ble_eq_true rfl, Nat.le_of_ble_eq_true rfl, Nat.le_of_ble_eq_true rfl⟩ ?_
  refine K_aload_n dX7_store_5 rfl rfl ?_
  refine K_ite (fun h2 => ?_) (fun _ => K_none)
  refine K_getM hE dX7_store_6 f_X7_26_6 ha0 rfl h2 ?_
  refine K_getC hE dX7_store_9 f_X7_77_2 h2 rfl rfl (fun h3 => ?_)
  refine K_iload_n dX7_store_12 rfl rfl ?_
  refine K_iload_n dX7_store_13 rfl rfl ?_
  refine K_chk (fun h4 => ?_)
  refine K_iast dX7_store_14 h3 h4 ?_
  refine K_nmS (fun S5 => ?_)
  exact K_vret dX7_store_15 hQ rfl (Nat.le_of_ble_eq_true rfl) (Nat.le_of_ble_eq_true rfl)
def sp_X7_executeLocal (fu : Nat) (E : Ev) (S : St) (a0 : Nat) (x1 : Int32) (x2 : Int32) : Option St :=
  if x1 = 1 then (
    (sp_X7_push fu E S a0 0).bind fun u2 =>
    some u2
  ) else (
    if x1 = 2 then (
      (sp_X7_pushOfType fu E S a0 8).bind fun u4 =>
      some u4
    ) else (
      if x1 = 3 then (
        (sp_X7_push fu E S a0 (-1)).bind fun u6 =>
        some u6
      ) else (
        if x1 = 4 then (
          if E.1 (S.2.2.1 a0 3) = some (0, 2, 0) then
            (
            if inb x2 12 = true then
              (
              if (S.2.1 (E.2 (S.2.2.1 a0 3) 0) x2.toNatClampNeg) = 0 then (
                (sp_X7_require fu E S a0 1 5).bind fun u13 =>
                (sp_X7_push fu E u13 a0 0).bind fun u14 =>
                some u14
              ) else (
                (sp_X7_require fu E S a0 0 5).bind fun u11 =>
                (sp_X7_push fu E u11 a0 0).bind fun u12 =>
                some u12
              )
              )
            else none
            )
          else none
        ) else (
          if x1 = 5 then (
            if E.1 (S.2.2.1 a0 3) = some (0, 2, 0) then
              (
              if inb x2 12 = true then
                (
                if (S.2.1 (E.2 (S.2.2.1 a0 3) 0) x2.toNatClampNeg) = 8 then (
                  (sp_X7_require fu E S a0 1 5).bind fun u22 =>
                  (sp_X7_pushOfType fu E u22 a0 8).bind fun u23 =>
                  some u23
                ) else (
                  (sp_X7_require fu E S a0 0 5).bind fun u20 =>
                  (sp_X7_pushOfType fu E u20 a0 8).bind fun u21 =>
                  some u21
                )
                )
              else none
              )
            else none
          ) else (
            if x1 = 6 then (
              if E.1 (S.2.2.1 a0 3) = some (0, 2, 0) then
                (
                if inb x2 12 = true then
                  (
                  (sp_X7_isAnyReference fu E S (S.2.1 (E.2 (S.2.2.1 a0 3) 0) x2.toNatClampNeg)).bind fun u29 =>
                  (sp_X7_require fu E u29.2 a0 u29.1 5).bind fun u30 =>
                  if E.1 (u30.2.2.1 a0 3) = some (0, 2, 0) then
                    (
                    if inb x2 12 = true then
                      (
                      (sp_X7_push fu E u30 a0 (u30.2.1 (E.2 (u30.2.2.1 a0 3) 0) x2.toNatClampNeg)).bind fun u34 =>
                      some u34
                      )
                    else none
                    )
                  else none
                  )
                else none
                )
              else none
            ) else (
              if x1 = 7 then (
                (sp_X7_popOfType fu E S a0 0).bind fun u36 =>
                (sp_X7_store fu E u36 a0 x2 0).bind fun u37 =>
                some u37
              ) else (
                if x1 = 8 then (
                  (sp_X7_popOfType fu E S a0 8).bind fun u39 =>
                  (sp_X7_store fu E u39 a0 x2 8).bind fun u40 =>
                  (sp_X7_store fu E u40 a0 (x2 + 1) (-3)).bind fun u41 =>
                  some u41
                ) else (
                  if x1 = 9 then (
                    (sp_X7_popAnyReference fu E S a0).bind fun u43 =>
                    (sp_X7_store fu E u43.2 a0 x2 u43.1).bind fun u44 =>
                    some u44
                  ) else (
                    if x1 = 21 then (
                      if E.1 (S.2.2.1 a0 3) = some (0, 2, 0) then
                        (
                        if inb x2 12 = true then
                          (
                          if (S.2.1 (E.2 (S.2.2.1 a0 3) 0) x2.toNatClampNeg) = 0 then (
                            (sp_X7_require fu E S a0 1 5).bind fun u50 =>
                            some u50
                          ) else (
                            (sp_X7_require fu E S a0 0 5).bind fun u49 =>
                            some u49
                          )
                          )
                        else none
                        )
                      else none
                    ) else (
                      some S
                    )
                  )
                )
              )
            )
          )
        )
      )
    )
  )
set_option maxRecDepth 100000 in
theorem k_X7_executeLocal {l : Launch} (fu : Nat) {E : Ev} (hE : WE E) {a0 : Nat} (ha0 : E.1 a0 = some (0, 6, 0)) {x1 : Int32} {x2 : Int32} {S : St} {t : St} (h : sp_X7_executeLocal fu E S a0 x1 x2 = some t) : Cn l mX7_executeLocal [.ref a0, .int x1, .int x2] (hp E S) (PoV E t) := by
  refine Cn.of (by decide) rfl (Nat.le_of_ble_eq_true rfl) (fun X _ _ hQ => ?_)
  refine (?_ : K mX7_executeLocal X E 0 [(0, .ref a0), (1, .int x1), (2, .int x2)] [] S 0 0 (sp_X7_executeLocal fu E S a0 x1 x2) t) h
  unfold sp_X7_executeLocal
  refine K_iload_n dX7_executeLocal_0 rfl rfl ?_
  refine K_ite (fun c1 => ?_) (fun c1 => ?_)
  · refine K_tswIn (tgt := 100) 1 dX7_executeLocal_1 c1 (by decide) (by decide) rfl (by decide) ?_
    refine K_aload_n dX7_executeLocal_100 rfl rfl ?_
    refine K_iconst (v := 0) dX7_executeLocal_101 (by decide) ?_
    refine K_bind (fun u2 hu2 => ?_)
    refine K_callVV (As := [.int 0]) (k_X7_push fu hE ha0 hu2) dX7_executeLocal_102 v_X7_71 ha0 rfl rfl rfl rfl (Nat.le_of_ble_eq_true rfl) ⟨Nat.le_of_ble_eq_true rfl, Nat.le_of_ble_eq_true rfl, Nat.le_of_ble_eq_true rfl, Nat.le_of_ble_eq_true rfl⟩ ?_
    refine K_goto (tgt := 297) dX7_executeLocal_105 (by decide) ?_
    exact K_vret dX7_executeLocal_297 hQ rfl (Nat.le_of_ble_eq_true rfl) (Nat.le_of_ble_eq_true rfl)
  · refine K_ite (fun c3 => ?_) (fun c3 => ?_)
    · refine K_tswIn (tgt := 108) 2 dX7_executeLocal_1 c3 (by decide) (by decide) rfl (by decide) ?_
      refine K_aload_n dX7_executeLocal_108 rfl rfl ?_
      refine K_bipush (v := 8) dX7_executeLocal_109 (by decide) ?_
      refine K_bind (fun u4 hu4 => ?_)
      refine K_callVV (As := [.int 8]) (k_X7_pushOfType fu hE ha0 hu4) dX7_executeLocal_111 v_X7_74 ha0 rfl rfl rfl rfl (Nat.le_of_ble_eq_true rfl) ⟨Nat.le_of_ble_eq_true rfl, Nat.le_of_ble_eq_true rfl, Nat.le_of_ble_eq_true rfl, Nat.le_of_ble_eq_true rfl⟩ ?_
      refine K_goto (tgt := 297) dX7_executeLocal_114 (by decide) ?_
      exact K_vret dX7_executeLocal_297 hQ rfl (Nat.le_of_ble_eq_true rfl) (Nat.le_of_ble_eq_true rfl)
    · refine K_ite (fun c5 => ?_) (fun c5 => ?_)
      · refine K_tswIn (tgt := 117) 3 dX7_executeLocal_1 c5 (by decide) (by decide) rfl (by decide) ?_
        refine K_aload_n dX7_executeLocal_117 rfl rfl ?_
        refine K_iconst (v := (-1)) dX7_executeLocal_118 (by decide) ?_
        refine K_bind (fun u6 hu6 => ?_)
        refine K_callVV (As := [.int (-1)]) (k_X7_push fu hE ha0 hu6) dX7_executeLocal_119 v_X7_71 ha0 rfl rfl rfl rfl (Nat.le_of_ble_eq_true rfl) ⟨Nat.le_of_ble_eq_true rfl, Nat.le_of_ble_eq_true rfl, Nat.le_of_ble_eq_true rfl, Nat.le_of_ble_eq_true rfl⟩ ?_
        refine K_goto (tgt := 297) dX7_executeLocal_122 (by decide) ?_
        exact K_vret dX7_executeLocal_297 hQ rfl (Nat.le_of_ble_eq_true rfl) (Nat.le_of_ble_eq_true rfl)
      · refine K_ite (fun c7 => ?_) (fun c7 => ?_)
        · refine K_tswIn (tgt := 125) 4 dX7_executeLocal_1 c7 (by decide) (by decide) rfl (by decide) ?_
          refine K_aload_n dX7_executeLocal_125 rfl rfl ?_
          refine K_aload_n dX7_executeLocal_126 rfl rfl ?_
          refine K_ite (fun h8 => ?_) (fun _ => K_none)
          refine K_getM hE dX7_executeLocal_127 f_X7_26_6 ha0 rfl h8 ?_
          refine K_getC hE dX7_executeLocal_130 f_X7_77_2 h8 rfl rfl (fun h9 => ?_)
          refine K_iload_n dX7_executeLocal_133 rfl rfl ?_
          refine K_chk (fun h10 => ?_)
          refine K_iald dX7_executeLocal_134 h9 h10 ?_
          refine K_if_ne (tgt := 142) dX7_executeLocal_135 (by decide) (fun c15 => ?_) (fun c15 => ?_)
          · refine K_iconst (v := 0) dX7_executeLocal_142 (by decide) ?_
            refine K_iconst (v := 5) dX7_executeLocal_143 (by decide) ?_
            refine K_bind (fun u11 hu11 => ?_)
            refine K_callVV (As := [.int 0, .int 5]) (k_X7_require fu hE ha0 hu11) dX7_executeLocal_144 v_X7_80 ha0 rfl rfl rfl rfl (Nat.le_of_ble_eq_true rfl) ⟨Nat.le_of_ble_eq_true rfl, Nat.le_of_ble_eq_true rfl, Nat.le_of_ble_eq_true rfl, Nat.le_of_ble_eq_true rfl⟩ ?_
            refine K_aload_n dX7_executeLocal_147 rfl rfl ?_
            refine K_iconst (v := 0) dX7_executeLocal_148 (by decide) ?_
            refine K_bind (fun u12 hu12 => ?_)
            refine K_callVV (As := [.int 0]) (k_X7_push fu hE ha0 hu12) dX7_executeLocal_149 v_X7_71 ha0 rfl rfl rfl rfl (Nat.le_of_ble_eq_true rfl) ⟨Nat.le_of_ble_eq_true rfl, Nat.le_of_ble_eq_true rfl, Nat.le_of_ble_eq_true rfl, Nat.le_of_ble_eq_true rfl⟩ ?_
            refine K_goto (tgt := 297) dX7_executeLocal_152 (by decide) ?_
            exact K_vret dX7_executeLocal_297 hQ rfl (Nat.le_of_ble_eq_true rfl) (Nat.le_of_ble_eq_true rfl)
          · refine K_iconst (v := 1) dX7_executeLocal_138 (by decide) ?_
            refine K_goto (tgt := 143) dX7_executeLocal_139 (by decide) ?_
            refine K_iconst (v := 5) dX7_executeLocal_143 (by decide) ?_
            refine K_bind (fun u13 hu13 => ?_)
            refine K_callVV (As := [.int 1, .int 5]) (k_X7_require fu hE ha0 hu13) dX7_executeLocal_144 v_X7_80 ha0 rfl rfl rfl rfl (Nat.le_of_ble_eq_true rfl) ⟨Nat.le_of_ble_eq_true rfl, Nat.le_of_ble_eq_true rfl, Nat.le_of_ble_eq_true rfl, Nat.le_of_ble_eq_true rfl⟩ ?_
            refine K_aload_n dX7_executeLocal_147 rfl rfl ?_
            refine K_iconst (v := 0) dX7_executeLocal_148 (by decide) ?_
            refine K_bind (fun u14 hu14 => ?_)
            refine K_callVV (As := [.int 0]) (k_X7_push fu hE ha0 hu14) dX7_executeLocal_149 v_X7_71 ha0 rfl rfl rfl rfl (Nat.le_of_ble_eq_true rfl) ⟨Nat.le_of_ble_eq_true rfl, Nat.le_of_ble_eq_true rfl, Nat.le_of_ble_eq_true rfl, Nat.le_of_ble_eq_true rfl⟩ ?_
            refine K_goto (tgt := 297) dX7_executeLocal_152 (by decide) ?_
            exact K_vret dX7_executeLocal_297 hQ rfl (Nat.le_of_ble_eq_true rfl) (Nat.le_of_ble_eq_true rfl)
        · refine K_ite (fun c16 => ?_) (fun c16 => ?_)
          · refine K_tswIn (tgt := 155) 5 dX7_executeLocal_1 c16 (by decide) (by decide) rfl (by decide) ?_
            refine K_aload_n dX7_executeLocal_155 rfl rfl ?_
            refine K_aload_n dX7_executeLocal_156 rfl rfl ?_
            refine K_ite (fun h17 => ?_) (fun _ => K_none)
            refine K_getM hE dX7_executeLocal_157 f_X7_26_6 ha0 rfl h17 ?_
            refine K_getC hE dX7_executeLocal_160 f_X7_77_2 h17 rfl rfl (fun h18 => ?_)
            refine K_iload_n dX7_executeLocal_163 rfl rfl ?_
            refine K_chk (fun h19 => ?_)
            refine K_iald dX7_executeLocal_164 h18 h19 ?_
            refine K_bipush (v := 8) dX7_executeLocal_165 (by decide) ?_
            refine K_icmp_ne (tgt := 174) dX7_executeLocal_167 (by decide) (fun c24 => ?_) (fun c24 => ?_)
            · refine K_iconst (v := 0) dX7_executeLocal_174 (by decide) ?_
              refine K_iconst (v := 5) dX7_executeLocal_175 (by decide) ?_
              refine K_bind (fun u20 hu20 => ?_)
              refine K_callVV (As := [.int 0, .int 5]) (k_X7_require fu hE ha0 hu20) dX7_executeLocal_176 v_X7_80 ha0 rfl rfl rfl rfl (Nat.le_of_ble_eq_true rfl) ⟨Nat.le_of_ble_eq_true rfl, Nat.le_of_ble_eq_true rfl, Nat.le_of_ble_eq_true rfl, Nat.le_of_ble_eq_true rfl⟩ ?_
              refine K_aload_n dX7_executeLocal_179 rfl rfl ?_
              refine K_bipush (v := 8) dX7_executeLocal_180 (by decide) ?_
              refine K_bind (fun u21 hu21 => ?_)
              refine K_callVV (As := [.int 8]) (k_X7_pushOfType fu hE ha0 hu21) dX7_executeLocal_182 v_X7_74 ha0 rfl rfl rfl rfl (Nat.le_of_ble_eq_true rfl) ⟨Nat.le_of_ble_eq_true rfl, Nat.le_of_ble_eq_true rfl, Nat.le_of_ble_eq_true rfl, Nat.le_of_ble_eq_true rfl⟩ ?_
              refine K_goto (tgt := 297) dX7_executeLocal_185 (by decide) ?_
              exact K_vret dX7_executeLocal_297 hQ rfl (Nat.le_of_ble_eq_true rfl) (Nat.le_of_ble_eq_true rfl)
            · refine K_iconst (v := 1) dX7_executeLocal_170 (by decide) ?_
              refine K_goto (tgt := 175) dX7_executeLocal_171 (by decide) ?_
              refine K_iconst (v := 5) dX7_executeLocal_175 (by decide) ?_
              refine K_bind (fun u22 hu22 => ?_)
              refine K_callVV (As := [.int 1, .int 5]) (k_X7_require fu hE ha0 hu22) dX7_executeLocal_176 v_X7_80 ha0 rfl rfl rfl rfl (Nat.le_of_ble_eq_true rfl) ⟨Nat.le_of_ble_eq_true rfl, Nat.le_of_ble_eq_true rfl, Nat.le_of_ble_eq_true rfl, Nat.le_of_ble_eq_true rfl⟩ ?_
              refine K_aload_n dX7_executeLocal_179 rfl rfl ?_
              refine K_bipush (v := 8) dX7_executeLocal_180 (by decide) ?_
              refine K_bind (fun u23 hu23 => ?_)
              refine K_callVV (As := [.int 8]) (k_X7_pushOfType fu hE ha0 hu23) dX7_executeLocal_182 v_X7_74 ha0 rfl rfl rfl rfl (Nat.le_of_ble_eq_true rfl) ⟨Nat.le_of_ble_eq_true rfl, Nat.le_of_ble_eq_true rfl, Nat.le_of_ble_eq_true rfl, Nat.le_of_ble_eq_true rfl⟩ ?_
              refine K_goto (tgt := 297) dX7_executeLocal_185 (by decide) ?_
              exact K_vret dX7_executeLocal_297 hQ rfl (Nat.le_of_ble_eq_true rfl) (Nat.le_of_ble_eq_true rfl)
          · refine K_ite (fun c25 => ?_) (fun c25 => ?_)
            · refine K_tswIn (tgt := 188) 6 dX7_executeLocal_1 c25 (by decide) (by decide) rfl (by decide) ?_
              refine K_aload_n dX7_executeLocal_188 rfl rfl ?_
              refine K_aload_n dX7_executeLocal_189 rfl rfl ?_
              refine K_ite (fun h26 => ?_) (fun _ => K_none)
              refine K_getM hE dX7_executeLocal_190 f_X7_26_6 ha0 rfl h26 ?_
              refine K_getC hE dX7_executeLocal_193 f_X7_77_2 h26 rfl rfl (fun h27 => ?_)
              refine K_iload_n dX7_executeLocal_196 rfl rfl ?_
              refine K_chk (fun h28 => ?_)
              refine K_iald dX7_executeLocal_197 h27 h28 ?_
              refine K_bind (fun u29 hu29 => ?_)
              refine K_callSI (As := [.int (S.2.1 (E.2 (S.2.2.1 a0 3) 0) x2.toNatClampNeg)]) (k_X7_isAnyReference fu hE hu29) dX7_executeLocal_198 s_X7_84 rfl rfl (Nat.le_of_ble_eq_true rfl) ⟨Nat.le_of_ble_eq_true rfl, Nat.le_of_ble_eq_true rfl, Nat.le_of_ble_eq_true rfl, Nat.le_of_ble_eq_true rfl⟩ ?_
              refine K_iconst (v := 5) dX7_executeLocal_201 (by decide) ?_
              refine K_bind (fun u30 hu30 => ?_)
              refine K_callVV (As := [.int u29.1, .int 5]) (k_X7_require fu hE ha0 hu30) dX7_executeLocal_202 v_X7_80 ha0 rfl rfl rfl rfl (Nat.le_of_ble_eq_true rfl) ⟨Nat.le_of_ble_eq_true rfl, Nat.le_of_ble_eq_true rfl, Nat.le_of_ble_eq_true rfl, Nat.le_of_ble_eq_true rfl⟩ ?_
              refine K_aload_n dX7_executeLocal_205 rfl rfl ?_
              refine K_aload_n dX7_executeLocal_206 rfl rfl ?_
              refine K_ite (fun h31 => ?_) (fun _ => K_none)
              refine K_getM hE dX7_executeLocal_207 f_X7_26_6 ha0 rfl h31 ?_
              refine K_getC hE dX7_executeLocal_210 f_X7_77_2 h31 rfl rfl (fun h32 => ?_)
              refine K_iload_n dX7_executeLocal_213 rfl rfl ?_
              refine K_chk (fun h33 => ?_)
              refine K_iald dX7_executeLocal_214 h32 h33 ?_
              refine K_bind (fun u34 hu34 => ?_)
              refine K_callVV (As := [.int (u30.2.1 (E.2 (u30.2.2.1 a0 3) 0) x2.toNatClampNeg)]) (k_X7_push fu hE ha0 hu34) dX7_executeLocal_215 v_X7_71 ha0 rfl rfl rfl rfl (Nat.le_of_ble_eq_true rfl) ⟨Nat.le_of_ble_eq_true rfl, Nat.le_of_ble_eq_true rfl, Nat.le_of_ble_eq_true rfl, Nat.le_of_ble_eq_true rfl⟩ ?_
              refine K_goto (tgt := 297) dX7_executeLocal_218 (by decide) ?_
              exact K_vret dX7_executeLocal_297 hQ rfl (Nat.le_of_ble_eq_true rfl) (Nat.le_of_ble_eq_true rfl)
            · refine K_ite (fun c35 => ?_) (fun c35 => ?_)
              · refine K_tswIn (tgt := 221) 7 dX7_executeLocal_1 c35 (by decide) (by decide) rfl (by decide) ?_
                refine K_aload_n dX7_executeLocal_221 rfl rfl ?_
                refine K_iconst (v := 0) dX7_executeLocal_222 (by decide) ?_
                refine K_bind (fun u36 hu36 => ?_)
                refine K_callVV (As := [.int 0]) (k_X7_popOfType fu hE ha0 hu36) dX7_executeLocal_223 v_X7_88 ha0 rfl rfl rfl rfl (Nat.le_of_ble_eq_true rfl) ⟨Nat.le_of_ble_eq_true rfl, Nat.le_of_ble_eq_true rfl, Nat.le_of_ble_eq_true rfl, Nat.le_of_ble_eq_true rfl⟩ ?_
                refine K_aload_n dX7_executeLocal_226 rfl rfl ?_
                refine K_iload_n dX7_executeLocal_227 rfl rfl ?_
                refine K_iconst (v := 0) dX7_executeLocal_228 (by decide) ?_
                refine K_bind (fun u37 hu37 => ?_)
                refine K_callVV (As := [.int x2, .int 0]) (k_X7_store fu hE ha0 hu37) dX7_executeLocal_229 v_X7_91 ha0 rfl rfl rfl rfl (Nat.le_of_ble_eq_true rfl) ⟨Nat.le_of_ble_eq_true rfl, Nat.le_of_ble_eq_true rfl, Nat.le_of_ble_eq_true rfl, Nat.le_of_ble_eq_true rfl⟩ ?_
                refine K_goto (tgt := 297) dX7_executeLocal_232 (by decide) ?_
                exact K_vret dX7_executeLocal_297 hQ rfl (Nat.le_of_ble_eq_true rfl) (Nat.le_of_ble_eq_true rfl)
              · refine K_ite (fun c38 => ?_) (fun c38 => ?_)
                · refine K_tswIn (tgt := 235) 8 dX7_executeLocal_1 c38 (by decide) (by decide) rfl (by decide) ?_
                  refine K_aload_n dX7_executeLocal_235 rfl rfl ?_
                  refine K_bipush (v := 8) dX7_executeLocal_236 (by decide) ?_
                  refine K_bind (fun u39 hu39 => ?_)
                  refine K_callVV (As := [.int 8]) (k_X7_popOfType fu hE ha0 hu39) dX7_executeLocal_238 v_X7_88 ha0 rfl rfl rfl rfl (Nat.le_of_ble_eq_true rfl) ⟨Nat.le_of_ble_eq_true rfl, Nat.le_of_ble_eq_true rfl, Nat.le_of_ble_eq_true rfl, Nat.le_of_ble_eq_true rfl⟩ ?_
                  refine K_aload_n dX7_executeLocal_241 rfl rfl ?_
                  refine K_iload_n dX7_executeLocal_242 rfl rfl ?_
                  refine K_bipush (v := 8) dX7_executeLocal_243 (by decide) ?_
                  refine K_bind (fun u40 hu40 => ?_)
                  refine K_callVV (As := [.int x2, .int 8]) (k_X7_store fu hE ha0 hu40) dX7_executeLocal_245 v_X7_91 ha0 rfl rfl rfl rfl (Nat.le_of_ble_eq_true rfl) ⟨Nat.le_of_ble_eq_true rfl, Nat.le_of_ble_eq_true rfl, Nat.le_of_ble_eq_true rfl, Nat.le_of_ble_eq_true rfl⟩ ?_
                  refine K_aload_n dX7_executeLocal_248 rfl rfl ?_
                  refine K_iload_n dX7_executeLocal_249 rfl rfl ?_
                  refine K_iconst (v := 1) dX7_executeLocal_250 (by decide) ?_
                  refine K_iadd dX7_executeLocal_251 ?_
                  refine K_bipush (v := (-3)) dX7_executeLocal_252 (by decide) ?_
                  refine K_bind (fun u41 hu41 => ?_)
                  refine K_callVV (As := [.int (x2 + 1), .int (-3)]) (k_X7_store fu hE ha0 hu41) dX7_executeLocal_254 v_X7_91 ha0 rfl rfl rfl rfl (Nat.le_of_ble_eq_true rfl) ⟨Nat.le_of_ble_eq_true rfl, Nat.le_of_ble_eq_true rfl, Nat.le_of_ble_eq_true rfl, Nat.le_of_ble_eq_true rfl⟩ ?_
                  refine K_goto (tgt := 297) dX7_executeLocal_257 (by decide) ?_
                  exact K_vret dX7_executeLocal_297 hQ rfl (Nat.le_of_ble_eq_true rfl) (Nat.le_of_ble_eq_true rfl)
                · refine K_ite (fun c42 => ?_) (fun c42 => ?_)
                  · refine K_tswIn (tgt := 260) 9 dX7_executeLocal_1 c42 (by decide) (by decide) rfl (by decide) ?_
                    refine K_aload_n dX7_executeLocal_260 rfl rfl ?_
                    refine K_iload_n dX7_executeLocal_261 rfl rfl ?_
                    refine K_aload_n dX7_executeLocal_262 rfl rfl ?_
                    refine K_bind (fun u43 hu43 => ?_)
                    refine K_callVI (As := []) (k_X7_popAnyReference fu hE ha0 hu43) dX7_executeLocal_263 v_X7_94 ha0 rfl rfl rfl rfl (Nat.le_of_ble_eq_true rfl) ⟨Nat.le_of_ble_eq_true rfl, Nat.le_of_ble_eq_true rfl, Nat.le_of_ble_eq_true rfl, Nat.le_of_ble_eq_true rfl⟩ ?_
                    refine K_bind (fun u44 hu44 => ?_)
                    refine K_callVV (As := [.int x2, .int u43.1]) (k_X7_store fu hE ha0 hu44) dX7_executeLocal_266 v_X7_91 ha0 rfl rfl rfl rfl (Nat.le_of_ble_eq_true rfl) ⟨Nat.le_of_ble_eq_true rfl, Nat.le_of_ble_eq_true rfl, Nat.le_of_ble_eq_true rfl, Nat.le_of_ble_eq_true rfl⟩ ?_
                    refine K_goto (tgt := 297) dX7_executeLocal_269 (by decide) ?_
                    exact K_vret dX7_executeLocal_297 hQ rfl (Nat.le_of_ble_eq_true rfl) (Nat.le_of_ble_eq_true rfl)
                  · refine K_ite (fun c45 => ?_) (fun c45 => ?_)
                    · refine K_tswIn (tgt := 272) 21 dX7_executeLocal_1 c45 (by decide) (by decide) rfl (by decide) ?_
                      refine K_aload_n dX7_executeLocal_272 rfl rfl ?_
                      refine K_aload_n dX7_executeLocal_273 rfl rfl ?_
                      refine K_ite (fun h46 => ?_) (fun _ => K_none)
                      refine K_getM hE dX7_executeLocal_274 f_X7_26_6 ha0 rfl h46 ?_
                      refine K_getC hE dX7_executeLocal_277 f_X7_77_2 h46 rfl rfl (fun h47 => ?_)
                      refine K_iload_n dX7_executeLocal_280 rfl rfl ?_
                      refine K_chk (fun h48 => ?_)
                      refine K_iald dX7_executeLocal_281 h47 h48 ?_
                      refine K_if_ne (tgt := 289) dX7_executeLocal_282 (by decide) (fun c51 => ?_) (fun c51 => ?_)
                      · refine K_iconst (v := 0) dX7_executeLocal_289 (by decide) ?_
                        refine K_iconst (v := 5) dX7_executeLocal_290 (by decide) ?_
                        refine K_bind (fun u49 hu49 => ?_)
                        refine K_callVV (As := [.int 0, .int 5]) (k_X7_require fu hE ha0 hu49) dX7_executeLocal_291 v_X7_80 ha0 rfl rfl rfl rfl (Nat.le_of_ble_eq_true rfl) ⟨Nat.le_of_ble_eq_true rfl, Nat.le_of_ble_eq_true rfl, Nat.le_of_ble_eq_true rfl, Nat.le_of_ble_eq_true rfl⟩ ?_
                        refine K_goto (tgt := 297) dX7_executeLocal_294 (by decide) ?_
                        exact K_vret dX7_executeLocal_297 hQ rfl (Nat.le_of_ble_eq_true rfl) (Nat.le_of_ble_eq_true rfl)
                      · refine K_iconst (v := 1) dX7_executeLocal_285 (by decide) ?_
                        refine K_goto (tgt := 290) dX7_executeLocal_286 (by decide) ?_
                        refine K_iconst (v := 5) dX7_executeLocal_290 (by decide) ?_
                        refine K_bind (fun u50 hu50 => ?_)
                        refine K_callVV (As := [.int 1, .int 5]) (k_X7_require fu hE ha0 hu50) dX7_executeLocal_291 v_X7_80 ha0 rfl rfl rfl rfl (Nat.le_of_ble_eq_true rfl) ⟨Nat.le_of_ble_eq_true rfl, Nat.le_of_ble_eq_true rfl, Nat.le_of_ble_eq_true rfl, Nat.le_of_ble_eq_true rfl⟩ ?_
                        refine K_goto (tgt := 297) dX7_executeLocal_294 (by decide) ?_
                        exact K_vret dX7_executeLocal_297 hQ rfl (Nat.le_of_ble_eq_true rfl) (Nat.le_of_ble_eq_true rfl)
                    · refine K_tswD (tgt := 297) [1, 2, 3, 4, 5, 6, 7, 8, 9, 21] dX7_executeLocal_1 (List.forall_mem_cons.mpr ⟨c1, List.forall_mem_cons.mpr ⟨c3, List.forall_mem_cons.mpr ⟨c5, List.forall_mem_cons.mpr ⟨c7, List.forall_mem_cons.mpr ⟨c16, List.forall_mem_cons.mpr ⟨c25, List.forall_mem_cons.mpr ⟨c35, List.forall_mem_cons.mpr ⟨c38, List.forall_mem_cons.mpr ⟨c42, List.forall_mem_cons.mpr ⟨c45, fun _ h => absurd h List.not_mem_nil⟩⟩⟩⟩⟩⟩⟩⟩⟩⟩) (by decide) (by decide) ?_
                      exact K_vret dX7_executeLocal_297 hQ rfl (Nat.le_of_ble_eq_true rfl) (Nat.le_of_ble_eq_true rfl)
def sp_X7_isWhole (fu : Nat) (E : Ev) (S : St) (x0 : Int32) : Option (Int32 × St) :=
  if x0 = 8 then (
    some (0, S)
  ) else (
    if x0 = (-3) then (
      some (0, S)
    ) else (
      some (1, S)
    )
  )
set_option maxRecDepth 100000 in
theorem k_X7_isWhole {l : Launch} (fu : Nat) {E : Ev} (hE : WE E) {x0 : Int32} {S : St} {t : (Int32 × St)} (h : sp_X7_isWhole fu E S x0 = some t) : Cn l mX7_isWhole [.int x0] (hp E S) (PoI E t) := by
  refine Cn.of (by decide) rfl (Nat.le_of_ble_eq_true rfl) (fun X _ _ hQ => ?_)
  refine (?_ : K mX7_isWhole X E 0 [(0, .int x0)] [] S 0 0 (sp_X7_isWhole fu E S x0) t) h
  unfold sp_X7_isWhole
  refine K_iload_n dX7_isWhole_0 rfl rfl ?_
  refine K_bipush (v := 8) dX7_isWhole_1 (by decide) ?_
  refine K_icmp_eq (tgt := 16) dX7_isWhole_3 (by decide) (fun c2 => ?_) (fun c2 => ?_)
  · refine K_iconst (v := 0) dX7_isWhole_16 (by decide) ?_
    exact K_zret dX7_isWhole_17 hQ rfl rfl (Nat.le_of_ble_eq_true rfl) (Nat.le_of_ble_eq_true rfl)
  · refine K_iload_n dX7_isWhole_6 rfl rfl ?_
    refine K_bipush (v := (-3)) dX7_isWhole_7 (by decide) ?_
    refine K_icmp_eq (tgt := 16) dX7_isWhole_9 (by decide) (fun c1 => ?_) (fun c1 => ?_)
    · refine K_iconst (v := 0) dX7_isWhole_16 (by decide) ?_
      exact K_zret dX7_isWhole_17 hQ rfl rfl (Nat.le_of_ble_eq_true rfl) (Nat.le_of_ble_eq_true rfl)
    · refine K_iconst (v := 1) dX7_isWhole_12 (by decide) ?_
      refine K_goto (tgt := 17) dX7_isWhole_13 (by decide) ?_
      exact K_zret dX7_isWhole_17 hQ rfl rfl (Nat.le_of_ble_eq_true rfl) (Nat.le_of_ble_eq_true rfl)
def jb_X7_movePair_36 (fu : Nat) (E : Ev) (a0 b0 : Nat) (x1 : Int32) (x2 : Int32) (x3 : Int32) (y1 : Int32) (S : St) : Option St :=
  (sp_X7_require fu E S b0 y1 4).bind fun u3 =>
  if x1 = 14 then (
    (sp_X7_push fu E u3 a0 x3).bind fun u4 =>
    (sp_X7_push fu E u4 a0 x2).bind fun u5 =>
    (sp_X7_push fu E u5 a0 x3).bind fun u6 =>
    (sp_X7_push fu E u6 a0 x2).bind fun u7 =>
    some u7
  ) else (
    some u3
  )
set_option maxRecDepth 100000 in
theorem kj_X7_movePair_36 {X : Cx} {E : Ev} {t : St} {a0 b0 : Nat} (hQ : EndR mX7_movePair X (PoV E t)) (hE : WE E) (fu : Nat) (ha0 : E.1 a0 = some (0, 6, 0)) (hb0 : E.1 b0 = some (0, 6, 0)) (x1 : Int32) (x2 : Int32) (x3 : Int32) (y1 : Int32) (S : St) : K mX7_movePair X E 36 [(0, .ref a0), (1, .int x1), (2, .int x2), (3, .int x3)] [.int y1, .ref b0] S 0 0 (jb_X7_movePair_36 fu E a0 b0 x1 x2 x3 y1 S) t := by
  unfold jb_X7_movePair_36
  refine K_iconst (v := 4) dX7_movePair_36 (by decide) ?_
  refine K_bind (fun u3 hu3 => ?_)
  refine K_callVV (As := [.int y1, .int 4]) (k_X7_require fu hE hb0 hu3) dX7_movePair_37 v_X7_80 hb0 rfl rfl rfl rfl (Nat.le_of_ble_eq_true rfl) ⟨Nat.le_of_ble_eq_true rfl, Nat.le_of_ble_eq_true rfl, Nat.le_of_ble_eq_true rfl, Nat.le_of_ble_eq_true rfl⟩ ?_
  refine K_iload_n dX7_movePair_40 rfl rfl ?_
  refine K_bipush (v := 14) dX7_movePair_41 (by decide) ?_
  refine K_icmp_ne (tgt := 66) dX7_movePair_43 (by decide) (fun c8 => ?_) (fun c8 => ?_)
  · exact K_vret dX7_movePair_66 hQ rfl (Nat.le_of_ble_eq_true rfl) (Nat.le_of_ble_eq_true rfl)
  · refine K_aload_n dX7_movePair_46 rfl rfl ?_
    refine K_iload_n dX7_movePair_47 rfl rfl ?_
    refine K_bind (fun u4 hu4 => ?_)
    refine K_callVV (As := [.int x3]) (k_X7_push fu hE ha0 hu4) dX7_movePair_48 v_X7_71 ha0 rfl rfl rfl rfl (Nat.le_of_ble_eq_true rfl) ⟨Nat.le_of_ble_eq_true rfl, Nat.le_of_ble_eq_true rfl, Nat.le_of_ble_eq_true rfl, Nat.le_of_ble_eq_true rfl⟩ ?_
    refine K_aload_n dX7_movePair_51 rfl rfl ?_
    refine K_iload_n dX7_movePair_52 rfl rfl ?_
    refine K_bind (fun u5 hu5 => ?_)
    refine K_callVV (As := [.int x2]) (k_X7_push fu hE ha0 hu5) dX7_movePair_53 v_X7_71 ha0 rfl rfl rfl rfl (Nat.le_of_ble_eq_true rfl) ⟨Nat.le_of_ble_eq_true rfl, Nat.le_of_ble_eq_true rfl, Nat.le_of_ble_eq_true rfl, Nat.le_of_ble_eq_true rfl⟩ ?_
    refine K_aload_n dX7_movePair_56 rfl rfl ?_
    refine K_iload_n dX7_movePair_57 rfl rfl ?_
    refine K_bind (fun u6 hu6 => ?_)
    refine K_callVV (As := [.int x3]) (k_X7_push fu hE ha0 hu6) dX7_movePair_58 v_X7_71 ha0 rfl rfl rfl rfl (Nat.le_of_ble_eq_true rfl) ⟨Nat.le_of_ble_eq_true rfl, Nat.le_of_ble_eq_true rfl, Nat.le_of_ble_eq_true rfl, Nat.le_of_ble_eq_true rfl⟩ ?_
    refine K_aload_n dX7_movePair_61 rfl rfl ?_
    refine K_iload_n dX7_movePair_62 rfl rfl ?_
    refine K_bind (fun u7 hu7 => ?_)
    refine K_callVV (As := [.int x2]) (k_X7_push fu hE ha0 hu7) dX7_movePair_63 v_X7_71 ha0 rfl rfl rfl rfl (Nat.le_of_ble_eq_true rfl) ⟨Nat.le_of_ble_eq_true rfl, Nat.le_of_ble_eq_true rfl, Nat.le_of_ble_eq_true rfl, Nat.le_of_ble_eq_true rfl⟩ ?_
    exact K_vret dX7_movePair_66 hQ rfl (Nat.le_of_ble_eq_true rfl) (Nat.le_of_ble_eq_true rfl)
def sp_X7_movePair (fu : Nat) (E : Ev) (S : St) (a0 : Nat) (x1 : Int32) : Option St :=
  (sp_X7_popSlot fu E S a0).bind fun u1 =>
  (sp_X7_popSlot fu E u1.2 a0).bind fun u2 =>
  if u2.1 = 8 then (
    jb_X7_movePair_36 fu E a0 a0 x1 u1.1 u2.1 1 u2.2
  ) else (
    (sp_X7_isWhole fu E u2.2 u2.1).bind fun u9 =>
    if u9.1 = 0 then (
      jb_X7_movePair_36 fu E a0 a0 x1 u1.1 u2.1 0 u9.2
    ) else (
      (sp_X7_isWhole fu E u9.2 u1.1).bind fun u10 =>
      if u10.1 = 0 then (
        jb_X7_movePair_36 fu E a0 a0 x1 u1.1 u2.1 0 u10.2
      ) else (
        jb_X7_movePair_36 fu E a0 a0 x1 u1.1 u2.1 1 u10.2
      )
    )
  )
set_option maxRecDepth 100000 in
theorem k_X7_movePair {l : Launch} (fu : Nat) {E : Ev} (hE : WE E) {a0 : Nat} (ha0 : E.1 a0 = some (0, 6, 0)) {x1 : Int32} {S : St} {t : St} (h : sp_X7_movePair fu E S a0 x1 = some t) : Cn l mX7_movePair [.ref a0, .int x1] (hp E S) (PoV E t) := by
  refine Cn.of (by decide) rfl (Nat.le_of_ble_eq_true rfl) (fun X _ _ hQ => ?_)
  refine (?_ : K mX7_movePair X E 0 [(0, .ref a0), (1, .int x1)] [] S 0 0 (sp_X7_movePair fu E S a0 x1) t) h
  unfold sp_X7_movePair
  refine K_aload_n dX7_movePair_0 rfl rfl ?_
  refine K_bind (fun u1 hu1 => ?_)
  refine K_callVI (As := []) (k_X7_popSlot fu hE ha0 hu1) dX7_movePair_1 v_X7_104 ha0 rfl rfl rfl rfl (Nat.le_of_ble_eq_true rfl) ⟨Nat.le_of_ble_eq_true rfl, Nat.le_of_ble_eq_true rfl, Nat.le_of_ble_eq_true rfl, Nat.le_of_ble_eq_true rfl⟩ ?_
  refine K_istore_n (ls' := [(0, _), (1, _), (2, _)]) dX7_movePair_4 rfl (by decide) rfl ?_
  refine K_aload_n dX7_movePair_5 rfl rfl ?_
  refine K_bind (fun u2 hu2 => ?_)
  refine K_callVI (As := []) (k_X7_popSlot fu hE ha0 hu2) dX7_movePair_6 v_X7_104 ha0 rfl rfl rfl rfl (Nat.le_of_ble_eq_true rfl) ⟨Nat.le_of_ble_eq_true rfl, Nat.le_of_ble_eq_true rfl, Nat.le_of_ble_eq_true rfl, Nat.le_of_ble_eq_true rfl⟩ ?_
  refine K_istore_n (ls' := [(0, _), (1, _), (2, _), (3, _)]) dX7_movePair_9 rfl (by decide) rfl ?_
  refine K_aload_n dX7_movePair_10 rfl rfl ?_
  refine K_iload_n dX7_movePair_11 rfl rfl ?_
  refine K_bipush (v := 8) dX7_movePair_12 (by decide) ?_
  refine K_icmp_eq (tgt := 31) dX7_movePair_14 (by decide) (fun c13 => ?_) (fun c13 => ?_)
  · refine K_iconst (v := 1) dX7_movePair_31 (by decide) ?_
    refine K_goto (tgt := 36) dX7_movePair_32 (by decide) ?_
    refine K.keep [0, 1, 2, 3] ?_
    exact kj_X7_movePair_36 hQ hE fu ha0 ha0 x1 u1.1 u2.1 1 u2.2
  · refine K_iload_n dX7_movePair_17 rfl rfl ?_
    refine K_bind (fun u9 hu9 => ?_)
    refine K_callSI (As := [.int u2.1]) (k_X7_isWhole fu hE hu9) dX7_movePair_18 s_X7_107 rfl rfl (Nat.le_of_ble_eq_true rfl) ⟨Nat.le_of_ble_eq_true rfl, Nat.le_of_ble_eq_true rfl, Nat.le_of_ble_eq_true rfl, Nat.le_of_ble_eq_true rfl⟩ ?_
    refine K_if_eq (tgt := 35) dX7_movePair_21 (by decide) (fun c12 => ?_) (fun c12 => ?_)
    · refine K_iconst (v := 0) dX7_movePair_35 (by decide) ?_
      refine K.keep [0, 1, 2, 3] ?_
      exact kj_X7_movePair_36 hQ hE fu ha0 ha0 x1 u1.1 u2.1 0 u9.2
    · refine K_iload_n dX7_movePair_24 rfl rfl ?_
      refine K_bind (fun u10 hu10 => ?_)
      refine K_callSI (As := [.int u1.1]) (k_X7_isWhole fu hE hu10) dX7_movePair_25 s_X7_107 rfl rfl (Nat.le_of_ble_eq_true rfl) ⟨Nat.le_of_ble_eq_true rfl, Nat.le_of_ble_eq_true rfl, Nat.le_of_ble_eq_true rfl, Nat.le_of_ble_eq_true rfl⟩ ?_
      refine K_if_eq (tgt := 35) dX7_movePair_28 (by decide) (fun c11 => ?_) (fun c11 => ?_)
      · refine K_iconst (v := 0) dX7_movePair_35 (by decide) ?_
        refine K.keep [0, 1, 2, 3] ?_
        exact kj_X7_movePair_36 hQ hE fu ha0 ha0 x1 u1.1 u2.1 0 u10.2
      · refine K_iconst (v := 1) dX7_movePair_31 (by decide) ?_
        refine K_goto (tgt := 36) dX7_movePair_32 (by decide) ?_
        refine K.keep [0, 1, 2, 3] ?_
        exact kj_X7_movePair_36 hQ hE fu ha0 ha0 x1 u1.1 u2.1 1 u10.2
def sp_X7_popWhole (fu : Nat) (E : Ev) (S : St) (a0 : Nat) : Option (Int32 × St) :=
  (sp_X7_popSlot fu E S a0).bind fun u1 =>
  (sp_X7_isWhole fu E u1.2 u1.1).bind fun u2 =>
  (sp_X7_require fu E u2.2 a0 u2.1 4).bind fun u3 =>
  some (u1.1, u3)
set_option maxRecDepth 100000 in
theorem k_X7_popWhole {l : Launch} (fu : Nat) {E : Ev} (hE : WE E) {a0 : Nat} (ha0 : E.1 a0 = some (0, 6, 0)) {S : St} {t : (Int32 × St)} (h : sp_X7_popWhole fu E S a0 = some t) : Cn l mX7_popWhole [.ref a0] (hp E S) (PoI E t) := by
  refine Cn.of (by decide) rfl (Nat.le_of_ble_eq_true rfl) (fun X _ _ hQ => ?_)
  refine (?_ : K mX7_popWhole X E 0 [(0, .ref a0)] [] S 0 0 (sp_X7_popWhole fu E S a0) t) h
  unfold sp_X7_popWhole
  refine K_aload_n dX7_popWhole_0 rfl rfl ?_
  refine K_bind (fun u1 hu1 => ?_)
  refine K_callVI (As := []) (k_X7_popSlot fu hE ha0 hu1) dX7_popWhole_1 v_X7_104 ha0 rfl rfl rfl rfl (Nat.le_of_ble_eq_true rfl) ⟨Nat.le_of_ble_eq_true rfl, Nat.le_of_ble_eq_true rfl, Nat.le_of_ble_eq_true rfl, Nat.le_of_ble_eq_true rfl⟩ ?_
  refine K_istore_n (ls' := [(0, _), (1, _)]) dX7_popWhole_4 rfl (by decide) rfl ?_
  refine K_aload_n dX7_popWhole_5 rfl rfl ?_
  refine K_iload_n dX7_popWhole_6 rfl rfl ?_
  refine K_bind (fun u2 hu2 => ?_)
  refine K_callSI (As := [.int u1.1]) (k_X7_isWhole fu hE hu2) dX7_popWhole_7 s_X7_107 rfl rfl (Nat.le_of_ble_eq_true rfl) ⟨Nat.le_of_ble_eq_true rfl, Nat.le_of_ble_eq_true rfl, Nat.le_of_ble_eq_true rfl, Nat.le_of_ble_eq_true rfl⟩ ?_
  refine K_iconst (v := 4) dX7_popWhole_10 (by decide) ?_
  refine K_bind (fun u3 hu3 => ?_)
  refine K_callVV (As := [.int u2.1, .int 4]) (k_X7_require fu hE ha0 hu3) dX7_popWhole_11 v_X7_80 ha0 rfl rfl rfl rfl (Nat.le_of_ble_eq_true rfl) ⟨Nat.le_of_ble_eq_true rfl, Nat.le_of_ble_eq_true rfl, Nat.le_of_ble_eq_true rfl, Nat.le_of_ble_eq_true rfl⟩ ?_
  refine K_iload_n dX7_popWhole_14 rfl rfl ?_
  exact K_iret dX7_popWhole_15 hQ rfl (Nat.le_of_ble_eq_true rfl) (Nat.le_of_ble_eq_true rfl)
def sp_X7_executeMove (fu : Nat) (E : Ev) (S : St) (a0 : Nat) (x1 : Int32) : Option St :=
  if x1 = 11 then (
    (sp_X7_movePair fu E S a0 x1).bind fun u1 =>
    some u1
  ) else (
    if x1 = 14 then (
      (sp_X7_movePair fu E S a0 x1).bind fun u15 =>
      some u15
    ) else (
      (sp_X7_popWhole fu E S a0).bind fun u2 =>
      if x1 = 12 then (
        (sp_X7_push fu E u2.2 a0 u2.1).bind fun u4 =>
        (sp_X7_push fu E u4 a0 u2.1).bind fun u5 =>
        some u5
      ) else (
        if x1 = 13 then (
          (sp_X7_popWhole fu E u2.2 a0).bind fun u7 =>
          (sp_X7_push fu E u7.2 a0 u2.1).bind fun u8 =>
          (sp_X7_push fu E u8 a0 u7.1).bind fun u9 =>
          (sp_X7_push fu E u9 a0 u2.1).bind fun u10 =>
          some u10
        ) else (
          if x1 = 15 then (
            (sp_X7_popWhole fu E u2.2 a0).bind fun u12 =>
            (sp_X7_push fu E u12.2 a0 u2.1).bind fun u13 =>
            (sp_X7_push fu E u13 a0 u12.1).bind fun u14 =>
            some u14
          ) else (
            some u2.2
          )
        )
      )
    )
  )
set_option maxRecDepth 100000 in
theorem k_X7_executeMove {l : Launch} (fu : Nat) {E : Ev} (hE : WE E) {a0 : Nat} (ha0 : E.1 a0 = some (0, 6, 0)) {x1 : Int32} {S : St} {t : St} (h : sp_X7_executeMove fu E S a0 x1 = some t) : Cn l mX7_executeMove [.ref a0, .int x1] (hp E S) (PoV E t) := by
  refine Cn.of (by decide) rfl (Nat.le_of_ble_eq_true rfl) (fun X _ _ hQ => ?_)
  refine (?_ : K mX7_executeMove X E 0 [(0, .ref a0), (1, .int x1)] [] S 0 0 (sp_X7_executeMove fu E S a0 x1) t) h
  unfold sp_X7_executeMove
  refine K_iload_n dX7_executeMove_0 rfl rfl ?_
  refine K_bipush (v := 11) dX7_executeMove_1 (by decide) ?_
  refine K_icmp_eq (tgt := 12) dX7_executeMove_3 (by decide) (fun c17 => ?_) (fun c17 => ?_)
  · refine K_aload_n dX7_executeMove_12 rfl rfl ?_
    refine K_iload_n dX7_executeMove_13 rfl rfl ?_
    refine K_bind (fun u1 hu1 => ?_)
    refine K_callVV (As := [.int x1]) (k_X7_movePair fu hE ha0 hu1) dX7_executeMove_14 v_X7_98 ha0 rfl rfl rfl rfl (Nat.le_of_ble_eq_true rfl) ⟨Nat.le_of_ble_eq_true rfl, Nat.le_of_ble_eq_true rfl, Nat.le_of_ble_eq_true rfl, Nat.le_of_ble_eq_true rfl⟩ ?_
    exact K_vret dX7_executeMove_17 hQ rfl (Nat.le_of_ble_eq_true rfl) (Nat.le_of_ble_eq_true rfl)
  · refine K_iload_n dX7_executeMove_6 rfl rfl ?_
    refine K_bipush (v := 14) dX7_executeMove_7 (by decide) ?_
    refine K_icmp_ne (tgt := 18) dX7_executeMove_9 (by decide) (fun c16 => ?_) (fun c16 => ?_)
    · refine K_aload_n dX7_executeMove_18 rfl rfl ?_
      refine K_bind (fun u2 hu2 => ?_)
      refine K_callVI (As := []) (k_X7_popWhole fu hE ha0 hu2) dX7_executeMove_19 v_X7_101 ha0 rfl rfl rfl rfl (Nat.le_of_ble_eq_true rfl) ⟨Nat.le_of_ble_eq_true rfl, Nat.le_of_ble_eq_true rfl, Nat.le_of_ble_eq_true rfl, Nat.le_of_ble_eq_true rfl⟩ ?_
      refine K_istore_n (ls' := [(0, _), (1, _), (2, _)]) dX7_executeMove_22 rfl (by decide) rfl ?_
      refine K_iload_n dX7_executeMove_23 rfl rfl ?_
      refine K_ite (fun c3 => ?_) (fun c3 => ?_)
      · refine K_tswIn (tgt := 56) 12 dX7_executeMove_24 c3 (by decide) (by decide) rfl (by decide) ?_
        refine K_aload_n dX7_executeMove_56 rfl rfl ?_
        refine K_iload_n dX7_executeMove_57 rfl rfl ?_
        refine K_bind (fun u4 hu4 => ?_)
        refine K_callVV (As := [.int u2.1]) (k_X7_push fu hE ha0 hu4) dX7_executeMove_58 v_X7_71 ha0 rfl rfl rfl rfl (Nat.le_of_ble_eq_true rfl) ⟨Nat.le_of_ble_eq_true rfl, Nat.le_of_ble_eq_true rfl, Nat.le_of_ble_eq_true rfl, Nat.le_of_ble_eq_true rfl⟩ ?_
        refine K_aload_n dX7_executeMove_61 rfl rfl ?_
        refine K_iload_n dX7_executeMove_62 rfl rfl ?_
        refine K_bind (fun u5 hu5 => ?_)
        refine K_callVV (As := [.int u2.1]) (k_X7_push fu hE ha0 hu5) dX7_executeMove_63 v_X7_71 ha0 rfl rfl rfl rfl (Nat.le_of_ble_eq_true rfl) ⟨Nat.le_of_ble_eq_true rfl, Nat.le_of_ble_eq_true rfl, Nat.le_of_ble_eq_true rfl, Nat.le_of_ble_eq_true rfl⟩ ?_
        refine K_goto (tgt := 112) dX7_executeMove_66 (by decide) ?_
        exact K_vret dX7_executeMove_112 hQ rfl (Nat.le_of_ble_eq_true rfl) (Nat.le_of_ble_eq_true rfl)
      · refine K_ite (fun c6 => ?_) (fun c6 => ?_)
        · refine K_tswIn (tgt := 69) 13 dX7_executeMove_24 c6 (by decide) (by decide) rfl (by decide) ?_
          refine K_aload_n dX7_executeMove_69 rfl rfl ?_
          refine K_bind (fun u7 hu7 => ?_)
          refine K_callVI (As := []) (k_X7_popWhole fu hE ha0 hu7) dX7_executeMove_70 v_X7_101 ha0 rfl rfl rfl rfl (Nat.le_of_ble_eq_true rfl) ⟨Nat.le_of_ble_eq_true rfl, Nat.le_of_ble_eq_true rfl, Nat.le_of_ble_eq_true rfl, Nat.le_of_ble_eq_true rfl⟩ ?_
          refine K_istore_n (ls' := [(0, _), (1, _), (2, _), (3, _)]) dX7_executeMove_73 rfl (by decide) rfl ?_
          refine K_aload_n dX7_executeMove_74 rfl rfl ?_
          refine K_iload_n dX7_executeMove_75 rfl rfl ?_
          refine K_bind (fun u8 hu8 => ?_)
          refine K_callVV (As := [.int u2.1]) (k_X7_push fu hE ha0 hu8) dX7_executeMove_76 v_X7_71 ha0 rfl rfl rfl rfl (Nat.le_of_ble_eq_true rfl) ⟨Nat.le_of_ble_eq_true rfl, Nat.le_of_ble_eq_true rfl, Nat.le_of_ble_eq_true rfl, Nat.le_of_ble_eq_true rfl⟩ ?_
          refine K_aload_n dX7_executeMove_79 rfl rfl ?_
          refine K_iload_n dX7_executeMove_80 rfl rfl ?_
          refine K_bind (fun u9 hu9 => ?_)
          refine K_callVV (As := [.int u7.1]) (k_X7_push fu hE ha0 hu9) dX7_executeMove_81 v_X7_71 ha0 rfl rfl rfl rfl (Nat.le_of_ble_eq_true rfl) ⟨Nat.le_of_ble_eq_true rfl, Nat.le_of_ble_eq_true rfl, Nat.le_of_ble_eq_true rfl, Nat.le_of_ble_eq_true rfl⟩ ?_
          refine K_aload_n dX7_executeMove_84 rfl rfl ?_
          refine K_iload_n dX7_executeMove_85 rfl rfl ?_
          refine K_bind (fun u10 hu10 => ?_)
          refine K_callVV (As := [.int u2.1]) (k_X7_push fu hE ha0 hu10) dX7_executeMove_86 v_X7_71 ha0 rfl rfl rfl rfl (Nat.le_of_ble_eq_true rfl) ⟨Nat.le_of_ble_eq_true rfl, Nat.le_of_ble_eq_true rfl, Nat.le_of_ble_eq_true rfl, Nat.le_of_ble_eq_true rfl⟩ ?_
          refine K_goto (tgt := 112) dX7_executeMove_89 (by decide) ?_
          exact K_vret dX7_executeMove_112 hQ rfl (Nat.le_of_ble_eq_true rfl) (Nat.le_of_ble_eq_true rfl)
        · refine K_ite (fun c11 => ?_) (fun c11 => ?_)
          · refine K_tswIn (tgt := 92) 15 dX7_executeMove_24 c11 (by decide) (by decide) rfl (by decide) ?_
            refine K_aload_n dX7_executeMove_92 rfl rfl ?_
            refine K_bind (fun u12 hu12 => ?_)
            refine K_callVI (As := []) (k_X7_popWhole fu hE ha0 hu12) dX7_executeMove_93 v_X7_101 ha0 rfl rfl rfl rfl (Nat.le_of_ble_eq_true rfl) ⟨Nat.le_of_ble_eq_true rfl, Nat.le_of_ble_eq_true rfl, Nat.le_of_ble_eq_true rfl, Nat.le_of_ble_eq_true rfl⟩ ?_
            refine K_istore (ls' := [(0, _), (1, _), (2, _), (4, _)]) dX7_executeMove_96 (by decide) rfl ?_
            refine K_aload_n dX7_executeMove_98 rfl rfl ?_
            refine K_iload_n dX7_executeMove_99 rfl rfl ?_
            refine K_bind (fun u13 hu13 => ?_)
            refine K_callVV (As := [.int u2.1]) (k_X7_push fu hE ha0 hu13) dX7_executeMove_100 v_X7_71 ha0 rfl rfl rfl rfl (Nat.le_of_ble_eq_true rfl) ⟨Nat.le_of_ble_eq_true rfl, Nat.le_of_ble_eq_true rfl, Nat.le_of_ble_eq_true rfl, Nat.le_of_ble_eq_true rfl⟩ ?_
            refine K_aload_n dX7_executeMove_103 rfl rfl ?_
            refine K_iload dX7_executeMove_104 rfl ?_
            refine K_bind (fun u14 hu14 => ?_)
            refine K_callVV (As := [.int u12.1]) (k_X7_push fu hE ha0 hu14) dX7_executeMove_106 v_X7_71 ha0 rfl rfl rfl rfl (Nat.le_of_ble_eq_true rfl) ⟨Nat.le_of_ble_eq_true rfl, Nat.le_of_ble_eq_true rfl, Nat.le_of_ble_eq_true rfl, Nat.le_of_ble_eq_true rfl⟩ ?_
            refine K_goto (tgt := 112) dX7_executeMove_109 (by decide) ?_
            exact K_vret dX7_executeMove_112 hQ rfl (Nat.le_of_ble_eq_true rfl) (Nat.le_of_ble_eq_true rfl)
          · refine K_tswD (tgt := 112) [12, 13, 15] dX7_executeMove_24 (List.forall_mem_cons.mpr ⟨c3, List.forall_mem_cons.mpr ⟨c6, List.forall_mem_cons.mpr ⟨c11, fun _ h => absurd h List.not_mem_nil⟩⟩⟩) (by decide) (by decide) ?_
            exact K_vret dX7_executeMove_112 hQ rfl (Nat.le_of_ble_eq_true rfl) (Nat.le_of_ble_eq_true rfl)
    · refine K_aload_n dX7_executeMove_12 rfl rfl ?_
      refine K_iload_n dX7_executeMove_13 rfl rfl ?_
      refine K_bind (fun u15 hu15 => ?_)
      refine K_callVV (As := [.int x1]) (k_X7_movePair fu hE ha0 hu15) dX7_executeMove_14 v_X7_98 ha0 rfl rfl rfl rfl (Nat.le_of_ble_eq_true rfl) ⟨Nat.le_of_ble_eq_true rfl, Nat.le_of_ble_eq_true rfl, Nat.le_of_ble_eq_true rfl, Nat.le_of_ble_eq_true rfl⟩ ?_
      exact K_vret dX7_executeMove_17 hQ rfl (Nat.le_of_ble_eq_true rfl) (Nat.le_of_ble_eq_true rfl)
def sp_X7_executeNumber (fu : Nat) (E : Ev) (S : St) (a0 : Nat) (x1 : Int32) : Option St :=
  if x1 = 16 then (
    (sp_X7_popOfType fu E S a0 0).bind fun u2 =>
    (sp_X7_popOfType fu E u2 a0 0).bind fun u3 =>
    (sp_X7_push fu E u3 a0 0).bind fun u4 =>
    some u4
  ) else (
    if x1 = 17 then (
      (sp_X7_popOfType fu E S a0 8).bind fun u6 =>
      (sp_X7_popOfType fu E u6 a0 8).bind fun u7 =>
      (sp_X7_pushOfType fu E u7 a0 8).bind fun u8 =>
      some u8
    ) else (
      if x1 = 18 then (
        (sp_X7_popOfType fu E S a0 0).bind fun u10 =>
        (sp_X7_pushOfType fu E u10 a0 8).bind fun u11 =>
        some u11
      ) else (
        if x1 = 19 then (
          (sp_X7_popOfType fu E S a0 8).bind fun u13 =>
          (sp_X7_push fu E u13 a0 0).bind fun u14 =>
          some u14
        ) else (
          if x1 = 20 then (
            (sp_X7_popOfType fu E S a0 8).bind fun u16 =>
            (sp_X7_popOfType fu E u16 a0 8).bind fun u17 =>
            (sp_X7_push fu E u17 a0 0).bind fun u18 =>
            some u18
          ) else (
            if x1 = 23 then (
              (sp_X7_popOfType fu E S a0 0).bind fun u20 =>
              some u20
            ) else (
              if x1 = 24 then (
                (sp_X7_popOfType fu E S a0 0).bind fun u22 =>
                (sp_X7_popOfType fu E u22 a0 0).bind fun u23 =>
                some u23
              ) else (
                if x1 = 25 then (
                  (sp_X7_popAnyReference fu E S a0).bind fun u25 =>
                  some u25.2
                ) else (
                  if x1 = 26 then (
                    (sp_X7_popAnyReference fu E S a0).bind fun u27 =>
                    (sp_X7_popAnyReference fu E u27.2 a0).bind fun u28 =>
                    some u28.2
                  ) else (
                    some S
                  )
                )
              )
            )
          )
        )
      )
    )
  )
set_option maxRecDepth 100000 in
theorem k_X7_executeNumber {l : Launch} (fu : Nat) {E : Ev} (hE : WE E) {a0 : Nat} (ha0 : E.1 a0 = some (0, 6, 0)) {x1 : Int32} {S : St} {t : St} (h : sp_X7_executeNumber fu E S a0 x1 = some t) : Cn l mX7_executeNumber [.ref a0, .int x1] (hp E S) (PoV E t) := by
  refine Cn.of (by decide) rfl (Nat.le_of_ble_eq_true rfl) (fun X _ _ hQ => ?_)
  refine (?_ : K mX7_executeNumber X E 0 [(0, .ref a0), (1, .int x1)] [] S 0 0 (sp_X7_executeNumber fu E S a0 x1) t) h
  unfold sp_X7_executeNumber
  refine K_iload_n dX7_executeNumber_0 rfl rfl ?_
  refine K_ite (fun c1 => ?_) (fun c1 => ?_)
  · refine K_tswIn (tgt := 60) 16 dX7_executeNumber_1 c1 (by decide) (by decide) rfl (by decide) ?_
    refine K_aload_n dX7_executeNumber_60 rfl rfl ?_
    refine K_iconst (v := 0) dX7_executeNumber_61 (by decide) ?_
    refine K_bind (fun u2 hu2 => ?_)
    refine K_callVV (As := [.int 0]) (k_X7_popOfType fu hE ha0 hu2) dX7_executeNumber_62 v_X7_88 ha0 rfl rfl rfl rfl (Nat.le_of_ble_eq_true rfl) ⟨Nat.le_of_ble_eq_true rfl, Nat.le_of_ble_eq_true rfl, Nat.le_of_ble_eq_true rfl, Nat.le_of_ble_eq_true rfl⟩ ?_
    refine K_aload_n dX7_executeNumber_65 rfl rfl ?_
    refine K_iconst (v := 0) dX7_executeNumber_66 (by decide) ?_
    refine K_bind (fun u3 hu3 => ?_)
    refine K_callVV (As := [.int 0]) (k_X7_popOfType fu hE ha0 hu3) dX7_executeNumber_67 v_X7_88 ha0 rfl rfl rfl rfl (Nat.le_of_ble_eq_true rfl) ⟨Nat.le_of_ble_eq_true rfl, Nat.le_of_ble_eq_true rfl, Nat.le_of_ble_eq_true rfl, Nat.le_of_ble_eq_true rfl⟩ ?_
    refine K_aload_n dX7_executeNumber_70 rfl rfl ?_
    refine K_iconst (v := 0) dX7_executeNumber_71 (by decide) ?_
    refine K_bind (fun u4 hu4 => ?_)
    refine K_callVV (As := [.int 0]) (k_X7_push fu hE ha0 hu4) dX7_executeNumber_72 v_X7_71 ha0 rfl rfl rfl rfl (Nat.le_of_ble_eq_true rfl) ⟨Nat.le_of_ble_eq_true rfl, Nat.le_of_ble_eq_true rfl, Nat.le_of_ble_eq_true rfl, Nat.le_of_ble_eq_true rfl⟩ ?_
    refine K_goto (tgt := 189) dX7_executeNumber_75 (by decide) ?_
    exact K_vret dX7_executeNumber_189 hQ rfl (Nat.le_of_ble_eq_true rfl) (Nat.le_of_ble_eq_true rfl)
  · refine K_ite (fun c5 => ?_) (fun c5 => ?_)
    · refine K_tswIn (tgt := 78) 17 dX7_executeNumber_1 c5 (by decide) (by decide) rfl (by decide) ?_
      refine K_aload_n dX7_executeNumber_78 rfl rfl ?_
      refine K_bipush (v := 8) dX7_executeNumber_79 (by decide) ?_
      refine K_bind (fun u6 hu6 => ?_)
      refine K_callVV (As := [.int 8]) (k_X7_popOfType fu hE ha0 hu6) dX7_executeNumber_81 v_X7_88 ha0 rfl rfl rfl rfl (Nat.le_of_ble_eq_true rfl) ⟨Nat.le_of_ble_eq_true rfl, Nat.le_of_ble_eq_true rfl, Nat.le_of_ble_eq_true rfl, Nat.le_of_ble_eq_true rfl⟩ ?_
      refine K_aload_n dX7_executeNumber_84 rfl rfl ?_
      refine K_bipush (v := 8) dX7_executeNumber_85 (by decide) ?_
      refine K_bind (fun u7 hu7 => ?_)
      refine K_callVV (As := [.int 8]) (k_X7_popOfType fu hE ha0 hu7) dX7_executeNumber_87 v_X7_88 ha0 rfl rfl rfl rfl (Nat.le_of_ble_eq_true rfl) ⟨Nat.le_of_ble_eq_true rfl, Nat.le_of_ble_eq_true rfl, Nat.le_of_ble_eq_true rfl, Nat.le_of_ble_eq_true rfl⟩ ?_
      refine K_aload_n dX7_executeNumber_90 rfl rfl ?_
      refine K_bipush (v := 8) dX7_executeNumber_91 (by decide) ?_
      refine K_bind (fun u8 hu8 => ?_)
      refine K_callVV (As := [.int 8]) (k_X7_pushOfType fu hE ha0 hu8) dX7_executeNumber_93 v_X7_74 ha0 rfl rfl rfl rfl (Nat.le_of_ble_eq_true rfl) ⟨Nat.le_of_ble_eq_true rfl, Nat.le_of_ble_eq_true rfl, Nat.le_of_ble_eq_true rfl, Nat.le_of_ble_eq_true rfl⟩ ?_
      refine K_goto (tgt := 189) dX7_executeNumber_96 (by decide) ?_
      exact K_vret dX7_executeNumber_189 hQ rfl (Nat.le_of_ble_eq_true rfl) (Nat.le_of_ble_eq_true rfl)
    · refine K_ite (fun c9 => ?_) (fun c9 => ?_)
      · refine K_tswIn (tgt := 99) 18 dX7_executeNumber_1 c9 (by decide) (by decide) rfl (by decide) ?_
        refine K_aload_n dX7_executeNumber_99 rfl rfl ?_
        refine K_iconst (v := 0) dX7_executeNumber_100 (by decide) ?_
        refine K_bind (fun u10 hu10 => ?_)
        refine K_callVV (As := [.int 0]) (k_X7_popOfType fu hE ha0 hu10) dX7_executeNumber_101 v_X7_88 ha0 rfl rfl rfl rfl (Nat.le_of_ble_eq_true rfl) ⟨Nat.le_of_ble_eq_true rfl, Nat.le_of_ble_eq_true rfl, Nat.le_of_ble_eq_true rfl, Nat.le_of_ble_eq_true rfl⟩ ?_
        refine K_aload_n dX7_executeNumber_104 rfl rfl ?_
        refine K_bipush (v := 8) dX7_executeNumber_105 (by decide) ?_
        refine K_bind (fun u11 hu11 => ?_)
        refine K_callVV (As := [.int 8]) (k_X7_pushOfType fu hE ha0 hu11) dX7_executeNumber_107 v_X7_74 ha0 rfl rfl rfl rfl (Nat.le_of_ble_eq_true rfl) ⟨Nat.le_of_ble_eq_true rfl, Nat.le_of_ble_eq_true rfl, Nat.le_of_ble_eq_true rfl, Nat.le_of_ble_eq_true rfl⟩ ?_
        refine K_goto (tgt := 189) dX7_executeNumber_110 (by decide) ?_
        exact K_vret dX7_executeNumber_189 hQ rfl (Nat.le_of_ble_eq_true rfl) (Nat.le_of_ble_eq_true rfl)
      · refine K_ite (fun c12 => ?_) (fun c12 => ?_)
        · refine K_tswIn (tgt := 113) 19 dX7_executeNumber_1 c12 (by decide) (by decide) rfl (by decide) ?_
          refine K_aload_n dX7_executeNumber_113 rfl rfl ?_
          refine K_bipush (v := 8) dX7_executeNumber_114 (by decide) ?_
          refine K_bind (fun u13 hu13 => ?_)
          refine K_callVV (As := [.int 8]) (k_X7_popOfType fu hE ha0 hu13) dX7_executeNumber_116 v_X7_88 ha0 rfl rfl rfl rfl (Nat.le_of_ble_eq_true rfl) ⟨Nat.le_of_ble_eq_true rfl, Nat.le_of_ble_eq_true rfl, Nat.le_of_ble_eq_true rfl, Nat.le_of_ble_eq_true rfl⟩ ?_
          refine K_aload_n dX7_executeNumber_119 rfl rfl ?_
          refine K_iconst (v := 0) dX7_executeNumber_120 (by decide) ?_
          refine K_bind (fun u14 hu14 => ?_)
          refine K_callVV (As := [.int 0]) (k_X7_push fu hE ha0 hu14) dX7_executeNumber_121 v_X7_71 ha0 rfl rfl rfl rfl (Nat.le_of_ble_eq_true rfl) ⟨Nat.le_of_ble_eq_true rfl, Nat.le_of_ble_eq_true rfl, Nat.le_of_ble_eq_true rfl, Nat.le_of_ble_eq_true rfl⟩ ?_
          refine K_goto (tgt := 189) dX7_executeNumber_124 (by decide) ?_
          exact K_vret dX7_executeNumber_189 hQ rfl (Nat.le_of_ble_eq_true rfl) (Nat.le_of_ble_eq_true rfl)
        · refine K_ite (fun c15 => ?_) (fun c15 => ?_)
          · refine K_tswIn (tgt := 127) 20 dX7_executeNumber_1 c15 (by decide) (by decide) rfl (by decide) ?_
            refine K_aload_n dX7_executeNumber_127 rfl rfl ?_
            refine K_bipush (v := 8) dX7_executeNumber_128 (by decide) ?_
            refine K_bind (fun u16 hu16 => ?_)
            refine K_callVV (As := [.int 8]) (k_X7_popOfType fu hE ha0 hu16) dX7_executeNumber_130 v_X7_88 ha0 rfl rfl rfl rfl (Nat.le_of_ble_eq_true rfl) ⟨Nat.le_of_ble_eq_true rfl, Nat.le_of_ble_eq_true rfl, Nat.le_of_ble_eq_true rfl, Nat.le_of_ble_eq_true rfl⟩ ?_
            refine K_aload_n dX7_executeNumber_133 rfl rfl ?_
            refine K_bipush (v := 8) dX7_executeNumber_134 (by decide) ?_
            refine K_bind (fun u17 hu17 => ?_)
            refine K_callVV (As := [.int 8]) (k_X7_popOfType fu hE ha0 hu17) dX7_executeNumber_136 v_X7_88 ha0 rfl rfl rfl rfl (Nat.le_of_ble_eq_true rfl) ⟨Nat.le_of_ble_eq_true rfl, Nat.le_of_ble_eq_true rfl, Nat.le_of_ble_eq_true rfl, Nat.le_of_ble_eq_true rfl⟩ ?_
            refine K_aload_n dX7_executeNumber_139 rfl rfl ?_
            refine K_iconst (v := 0) dX7_executeNumber_140 (by decide) ?_
            refine K_bind (fun u18 hu18 => ?_)
            refine K_callVV (As := [.int 0]) (k_X7_push fu hE ha0 hu18) dX7_executeNumber_141 v_X7_71 ha0 rfl rfl rfl rfl (Nat.le_of_ble_eq_true rfl) ⟨Nat.le_of_ble_eq_true rfl, Nat.le_of_ble_eq_true rfl, Nat.le_of_ble_eq_true rfl, Nat.le_of_ble_eq_true rfl⟩ ?_
            refine K_goto (tgt := 189) dX7_executeNumber_144 (by decide) ?_
            exact K_vret dX7_executeNumber_189 hQ rfl (Nat.le_of_ble_eq_true rfl) (Nat.le_of_ble_eq_true rfl)
          · refine K_ite (fun c19 => ?_) (fun c19 => ?_)
            · refine K_tswIn (tgt := 147) 23 dX7_executeNumber_1 c19 (by decide) (by decide) rfl (by decide) ?_
              refine K_aload_n dX7_executeNumber_147 rfl rfl ?_
              refine K_iconst (v := 0) dX7_executeNumber_148 (by decide) ?_
              refine K_bind (fun u20 hu20 => ?_)
              refine K_callVV (As := [.int 0]) (k_X7_popOfType fu hE ha0 hu20) dX7_executeNumber_149 v_X7_88 ha0 rfl rfl rfl rfl (Nat.le_of_ble_eq_true rfl) ⟨Nat.le_of_ble_eq_true rfl, Nat.le_of_ble_eq_true rfl, Nat.le_of_ble_eq_true rfl, Nat.le_of_ble_eq_true rfl⟩ ?_
              refine K_goto (tgt := 189) dX7_executeNumber_152 (by decide) ?_
              exact K_vret dX7_executeNumber_189 hQ rfl (Nat.le_of_ble_eq_true rfl) (Nat.le_of_ble_eq_true rfl)
            · refine K_ite (fun c21 => ?_) (fun c21 => ?_)
              · refine K_tswIn (tgt := 155) 24 dX7_executeNumber_1 c21 (by decide) (by decide) rfl (by decide) ?_
                refine K_aload_n dX7_executeNumber_155 rfl rfl ?_
                refine K_iconst (v := 0) dX7_executeNumber_156 (by decide) ?_
                refine K_bind (fun u22 hu22 => ?_)
                refine K_callVV (As := [.int 0]) (k_X7_popOfType fu hE ha0 hu22) dX7_executeNumber_157 v_X7_88 ha0 rfl rfl rfl rfl (Nat.le_of_ble_eq_true rfl) ⟨Nat.le_of_ble_eq_true rfl, Nat.le_of_ble_eq_true rfl, Nat.le_of_ble_eq_true rfl, Nat.le_of_ble_eq_true rfl⟩ ?_
                refine K_aload_n dX7_executeNumber_160 rfl rfl ?_
                refine K_iconst (v := 0) dX7_executeNumber_161 (by decide) ?_
                refine K_bind (fun u23 hu23 => ?_)
                refine K_callVV (As := [.int 0]) (k_X7_popOfType fu hE ha0 hu23) dX7_executeNumber_162 v_X7_88 ha0 rfl rfl rfl rfl (Nat.le_of_ble_eq_true rfl) ⟨Nat.le_of_ble_eq_true rfl, Nat.le_of_ble_eq_true rfl, Nat.le_of_ble_eq_true rfl, Nat.le_of_ble_eq_true rfl⟩ ?_
                refine K_goto (tgt := 189) dX7_executeNumber_165 (by decide) ?_
                exact K_vret dX7_executeNumber_189 hQ rfl (Nat.le_of_ble_eq_true rfl) (Nat.le_of_ble_eq_true rfl)
              · refine K_ite (fun c24 => ?_) (fun c24 => ?_)
                · refine K_tswIn (tgt := 168) 25 dX7_executeNumber_1 c24 (by decide) (by decide) rfl (by decide) ?_
                  refine K_aload_n dX7_executeNumber_168 rfl rfl ?_
                  refine K_bind (fun u25 hu25 => ?_)
                  refine K_callVI (As := []) (k_X7_popAnyReference fu hE ha0 hu25) dX7_executeNumber_169 v_X7_94 ha0 rfl rfl rfl rfl (Nat.le_of_ble_eq_true rfl) ⟨Nat.le_of_ble_eq_true rfl, Nat.le_of_ble_eq_true rfl, Nat.le_of_ble_eq_true rfl, Nat.le_of_ble_eq_true rfl⟩ ?_
                  refine K_pop dX7_executeNumber_172 rfl ?_
                  refine K_goto (tgt := 189) dX7_executeNumber_173 (by decide) ?_
                  exact K_vret dX7_executeNumber_189 hQ rfl (Nat.le_of_ble_eq_true rfl) (Nat.le_of_ble_eq_true rfl)
                · refine K_ite (fun c26 => ?_) (fun c26 => ?_)
                  · refine K_tswIn (tgt := 176) 26 dX7_executeNumber_1 c26 (by decide) (by decide) rfl (by decide) ?_
                    refine K_aload_n dX7_executeNumber_176 rfl rfl ?_
                    refine K_bind (fun u27 hu27 => ?_)
                    refine K_callVI (As := []) (k_X7_popAnyReference fu hE ha0 hu27) dX7_executeNumber_177 v_X7_94 ha0 rfl rfl rfl rfl (Nat.le_of_ble_eq_true rfl) ⟨Nat.le_of_ble_eq_true rfl, Nat.le_of_ble_eq_true rfl, Nat.le_of_ble_eq_true rfl, Nat.le_of_ble_eq_true rfl⟩ ?_
                    refine K_pop dX7_executeNumber_180 rfl ?_
                    refine K_aload_n dX7_executeNumber_181 rfl rfl ?_
                    refine K_bind (fun u28 hu28 => ?_)
                    refine K_callVI (As := []) (k_X7_popAnyReference fu hE ha0 hu28) dX7_executeNumber_182 v_X7_94 ha0 rfl rfl rfl rfl (Nat.le_of_ble_eq_true rfl) ⟨Nat.le_of_ble_eq_true rfl, Nat.le_of_ble_eq_true rfl, Nat.le_of_ble_eq_true rfl, Nat.le_of_ble_eq_true rfl⟩ ?_
                    refine K_pop dX7_executeNumber_185 rfl ?_
                    refine K_goto (tgt := 189) dX7_executeNumber_186 (by decide) ?_
                    exact K_vret dX7_executeNumber_189 hQ rfl (Nat.le_of_ble_eq_true rfl) (Nat.le_of_ble_eq_true rfl)
                  · refine K_tswD (tgt := 189) [16, 17, 18, 19, 20, 23, 24, 25, 26] dX7_executeNumber_1 (List.forall_mem_cons.mpr ⟨c1, List.forall_mem_cons.mpr ⟨c5, List.forall_mem_cons.mpr ⟨c9, List.forall_mem_cons.mpr ⟨c12, List.forall_mem_cons.mpr ⟨c15, List.forall_mem_cons.mpr ⟨c19, List.forall_mem_cons.mpr ⟨c21, List.forall_mem_cons.mpr ⟨c24, List.forall_mem_cons.mpr ⟨c26, fun _ h => absurd h List.not_mem_nil⟩⟩⟩⟩⟩⟩⟩⟩⟩) (by decide) (by decide) ?_
                    exact K_vret dX7_executeNumber_189 hQ rfl (Nat.le_of_ble_eq_true rfl) (Nat.le_of_ble_eq_true rfl)
def jb_X7_popFieldObject_35 (fu : Nat) (E : Ev) (a0 : Nat) (x1 : Int32) (x2 : Int32) (y0 : Int32) (S : St) : Option St :=
  if y0 = 0 then (
    (sp_X10_fits fu E S (E.2 a0 0) x2 (8 * x1)).bind fun u4 =>
    if u4.1 = 0 then (
      (sp_X7_require fu E u4.2 a0 0 4).bind fun u5 =>
      some u5
    ) else (
      (sp_X7_require fu E u4.2 a0 1 4).bind fun u6 =>
      some u6
    )
  ) else (
    (sp_X7_require fu E S a0 1 4).bind fun u2 =>
    some u2
  )
set_option maxRecDepth 100000 in
theorem kj_X7_popFieldObject_35 {X : Cx} {E : Ev} {t : St} {a0 : Nat} (hQ : EndR mX7_popFieldObject X (PoV E t)) (hE : WE E) (fu : Nat) (ha0 : E.1 a0 = some (0, 6, 0)) (x1 : Int32) (x2 : Int32) (y0 : Int32) (S : St) : K mX7_popFieldObject X E 35 [(0, .ref a0), (1, .int x1), (2, .int x2)] [.int y0] S 0 0 (jb_X7_popFieldObject_35 fu E a0 x1 x2 y0 S) t := by
  unfold jb_X7_popFieldObject_35
  refine K_istore_n (ls' := [(0, _), (1, _), (2, _), (3, _)]) dX7_popFieldObject_35 rfl (by decide) rfl ?_
  refine K_aload_n dX7_popFieldObject_36 rfl rfl ?_
  refine K_iload_n dX7_popFieldObject_37 rfl rfl ?_
  refine K_if_ne (tgt := 56) dX7_popFieldObject_38 (by decide) (fun c8 => ?_) (fun c8 => ?_)
  · refine K_iconst (v := 1) dX7_popFieldObject_56 (by decide) ?_
    refine K_goto (tgt := 61) dX7_popFieldObject_57 (by decide) ?_
    refine K_iconst (v := 4) dX7_popFieldObject_61 (by decide) ?_
    refine K_bind (fun u2 hu2 => ?_)
    refine K_callVV (As := [.int 1, .int 4]) (k_X7_require fu hE ha0 hu2) dX7_popFieldObject_62 v_X7_80 ha0 rfl rfl rfl rfl (Nat.le_of_ble_eq_true rfl) ⟨Nat.le_of_ble_eq_true rfl, Nat.le_of_ble_eq_true rfl, Nat.le_of_ble_eq_true rfl, Nat.le_of_ble_eq_true rfl⟩ ?_
    exact K_vret dX7_popFieldObject_65 hQ rfl (Nat.le_of_ble_eq_true rfl) (Nat.le_of_ble_eq_true rfl)
  · refine K_aload_n dX7_popFieldObject_41 rfl rfl ?_
    refine K_getC hE dX7_popFieldObject_42 f_X7_9_6 ha0 rfl rfl (fun h3 => ?_)
    refine K_iload_n dX7_popFieldObject_45 rfl rfl ?_
    refine K_bipush (v := 8) dX7_popFieldObject_46 (by decide) ?_
    refine K_iload_n dX7_popFieldObject_48 rfl rfl ?_
    refine K_imul dX7_popFieldObject_49 ?_
    refine K_bind (fun u4 hu4 => ?_)
    refine K_callVI (As := [.int x2, .int (8 * x1)]) (k_X10_fits fu hE h3 hu4) dX7_popFieldObject_50 v_X7_124 h3 rfl rfl rfl rfl (Nat.le_of_ble_eq_true rfl) ⟨Nat.le_of_ble_eq_true rfl, Nat.le_of_ble_eq_true rfl, Nat.le_of_ble_eq_true rfl, Nat.le_of_ble_eq_true rfl⟩ ?_
    refine K_if_eq (tgt := 60) dX7_popFieldObject_53 (by decide) (fun c7 => ?_) (fun c7 => ?_)
    · refine K_iconst (v := 0) dX7_popFieldObject_60 (by decide) ?_
      refine K_iconst (v := 4) dX7_popFieldObject_61 (by decide) ?_
      refine K_bind (fun u5 hu5 => ?_)
      refine K_callVV (As := [.int 0, .int 4]) (k_X7_require fu hE ha0 hu5) dX7_popFieldObject_62 v_X7_80 ha0 rfl rfl rfl rfl (Nat.le_of_ble_eq_true rfl) ⟨Nat.le_of_ble_eq_true rfl, Nat.le_of_ble_eq_true rfl, Nat.le_of_ble_eq_true rfl, Nat.le_of_ble_eq_true rfl⟩ ?_
      exact K_vret dX7_popFieldObject_65 hQ rfl (Nat.le_of_ble_eq_true rfl) (Nat.le_of_ble_eq_true rfl)
    · refine K_iconst (v := 1) dX7_popFieldObject_56 (by decide) ?_
      refine K_goto (tgt := 61) dX7_popFieldObject_57 (by decide) ?_
      refine K_iconst (v := 4) dX7_popFieldObject_61 (by decide) ?_
      refine K_bind (fun u6 hu6 => ?_)
      refine K_callVV (As := [.int 1, .int 4]) (k_X7_require fu hE ha0 hu6) dX7_popFieldObject_62 v_X7_80 ha0 rfl rfl rfl rfl (Nat.le_of_ble_eq_true rfl) ⟨Nat.le_of_ble_eq_true rfl, Nat.le_of_ble_eq_true rfl, Nat.le_of_ble_eq_true rfl, Nat.le_of_ble_eq_true rfl⟩ ?_
      exact K_vret dX7_popFieldObject_65 hQ rfl (Nat.le_of_ble_eq_true rfl) (Nat.le_of_ble_eq_true rfl)
def sp_X7_popFieldObject (fu : Nat) (E : Ev) (S : St) (a0 : Nat) (x1 : Int32) : Option St :=
  (sp_X7_popSlot fu E S a0).bind fun u1 =>
  if u1.1 = (-4) then (
    if inb (u1.2.1 (E.2 a0 2) 1) 30 = true then
      (
      if x1 = (u1.2.2.1 (E.2 (E.2 a0 1) 3) (u1.2.1 (E.2 a0 2) 1).toNatClampNeg) then (
        jb_X7_popFieldObject_35 fu E a0 x1 u1.1 1 u1.2
      ) else (
        jb_X7_popFieldObject_35 fu E a0 x1 u1.1 0 u1.2
      )
      )
    else none
  ) else (
    jb_X7_popFieldObject_35 fu E a0 x1 u1.1 0 u1.2
  )
set_option maxRecDepth 100000 in
theorem k_X7_popFieldObject {l : Launch} (fu : Nat) {E : Ev} (hE : WE E) {a0 : Nat} (ha0 : E.1 a0 = some (0, 6, 0)) {x1 : Int32} {S : St} {t : St} (h : sp_X7_popFieldObject fu E S a0 x1 = some t) : Cn l mX7_popFieldObject [.ref a0, .int x1] (hp E S) (PoV E t) := by
  refine Cn.of (by decide) rfl (Nat.le_of_ble_eq_true rfl) (fun X _ _ hQ => ?_)
  refine (?_ : K mX7_popFieldObject X E 0 [(0, .ref a0), (1, .int x1)] [] S 0 0 (sp_X7_popFieldObject fu E S a0 x1) t) h
  unfold sp_X7_popFieldObject
  refine K_aload_n dX7_popFieldObject_0 rfl rfl ?_
  refine K_bind (fun u1 hu1 => ?_)
  refine K_callVI (As := []) (k_X7_popSlot fu hE ha0 hu1) dX7_popFieldObject_1 v_X7_104 ha0 rfl rfl rfl rfl (Nat.le_of_ble_eq_true rfl) ⟨Nat.le_of_ble_eq_true rfl, Nat.le_of_ble_eq_true rfl, Nat.le_of_ble_eq_true rfl, Nat.le_of_ble_eq_true rfl⟩ ?_
  refine K_istore_n (ls' := [(0, _), (1, _), (2, _)]) dX7_popFieldObject_4 rfl (by decide) rfl ?_
  refine K_iload_n dX7_popFieldObject_5 rfl rfl ?_
  refine K_bipush (v := (-4)) dX7_popFieldObject_6 (by decide) ?_
  refine K_icmp_ne (tgt := 34) dX7_popFieldObject_8 (by decide) (fun c14 => ?_) (fun c14 => ?_)
  · refine K_iconst (v := 0) dX7_popFieldObject_34 (by decide) ?_
    refine K.keep [0, 1, 2] ?_
    exact kj_X7_popFieldObject_35 hQ hE fu ha0 x1 u1.1 0 u1.2
  · refine K_iload_n dX7_popFieldObject_11 rfl rfl ?_
    refine K_aload_n dX7_popFieldObject_12 rfl rfl ?_
    refine K_getC hE dX7_popFieldObject_13 f_X7_15_6 ha0 rfl rfl (fun h9 => ?_)
    refine K_getC hE dX7_popFieldObject_16 f_X7_162_7 h9 rfl rfl (fun h10 => ?_)
    refine K_aload_n dX7_popFieldObject_19 rfl rfl ?_
    refine K_getC hE dX7_popFieldObject_20 f_X7_19_6 ha0 rfl rfl (fun h11 => ?_)
    refine K_getI dX7_popFieldObject_23 f_X7_115_0 h11 rfl ?_
    refine K_chk (fun h12 => ?_)
    refine K_iald dX7_popFieldObject_26 h10 h12 ?_
    refine K_icmp_ne (tgt := 34) dX7_popFieldObject_27 (by decide) (fun c13 => ?_) (fun c13 => ?_)
    · refine K_iconst (v := 0) dX7_popFieldObject_34 (by decide) ?_
      refine K.keep [0, 1, 2] ?_
      exact kj_X7_popFieldObject_35 hQ hE fu ha0 x1 u1.1 0 u1.2
    · refine K_iconst (v := 1) dX7_popFieldObject_30 (by decide) ?_
      refine K_goto (tgt := 35) dX7_popFieldObject_31 (by decide) ?_
      refine K.keep [0, 1, 2] ?_
      exact kj_X7_popFieldObject_35 hQ hE fu ha0 x1 u1.1 1 u1.2
def sp_X7_executeObject (fu : Nat) (E : Ev) (S : St) (a0 : Nat) (x1 : Int32) (x2 : Int32) : Option St :=
  if x1 = 32 then (
    if inb x2 30 = true then
      (
      (sp_X7_popOfType fu E S a0 (8 * (S.2.1 (E.2 (E.2 a0 1) 0) x2.toNatClampNeg))).bind fun u5 =>
      if inb x2 30 = true then
        (
        (sp_X7_pushOfType fu E u5 a0 (u5.2.1 (E.2 (E.2 a0 1) 1) x2.toNatClampNeg)).bind fun u9 =>
        some u9
        )
      else none
      )
    else none
  ) else (
    if x1 = 33 then (
      if inb x2 30 = true then
        (
        (sp_X7_popOfType fu E S a0 (S.2.1 (E.2 (E.2 a0 1) 1) x2.toNatClampNeg)).bind fun u14 =>
        if inb x2 30 = true then
          (
          (sp_X7_popFieldObject fu E u14 a0 (u14.2.1 (E.2 (E.2 a0 1) 0) x2.toNatClampNeg)).bind fun u18 =>
          some u18
          )
        else none
        )
      else none
    ) else (
      if x1 = 44 then (
        (sp_X7_popReference fu E S a0).bind fun u20 =>
        (sp_X7_push fu E u20.2 a0 x2).bind fun u21 =>
        some u21
      ) else (
        (sp_X7_popReference fu E S a0).bind fun u22 =>
        (sp_X7_push fu E u22.2 a0 0).bind fun u23 =>
        some u23
      )
    )
  )
set_option maxRecDepth 100000 in
theorem k_X7_executeObject {l : Launch} (fu : Nat) {E : Ev} (hE : WE E) {a0 : Nat} (ha0 : E.1 a0 = some (0, 6, 0)) {x1 : Int32} {x2 : Int32} {S : St} {t : St} (h : sp_X7_executeObject fu E S a0 x1 x2 = some t) : Cn l mX7_executeObject [.ref a0, .int x1, .int x2] (hp E S) (PoV E t) := by
  refine Cn.of (by decide) rfl (Nat.le_of_ble_eq_true rfl) (fun X _ _ hQ => ?_)
  refine (?_ : K mX7_executeObject X E 0 [(0, .ref a0), (1, .int x1), (2, .int x2)] [] S 0 0 (sp_X7_executeObject fu E S a0 x1 x2) t) h
  unfold sp_X7_executeObject
  refine K_iload_n dX7_executeObject_0 rfl rfl ?_
  refine K_ite (fun c1 => ?_) (fun c1 => ?_)
  · refine K_lsw (tgt := 36) (off := 35) dX7_executeObject_1 (by decide) (by rw [c1]; rfl) (by decide) ?_
    refine K_aload_n dX7_executeObject_36 rfl rfl ?_
    refine K_bipush (v := 8) dX7_executeObject_37 (by decide) ?_
    refine K_aload_n dX7_executeObject_39 rfl rfl ?_
    refine K_getC hE dX7_executeObject_40 f_X7_15_6 ha0 rfl rfl (fun h2 => ?_)
    refine K_getC hE dX7_executeObject_43 f_X7_134_7 h2 rfl rfl (fun h3 => ?_)
    refine K_iload_n dX7_executeObject_46 rfl rfl ?_
    refine K_chk (fun h4 => ?_)
    refine K_iald dX7_executeObject_47 h3 h4 ?_
    refine K_imul dX7_executeObject_48 ?_
    refine K_bind (fun u5 hu5 => ?_)
    refine K_callVV (As := [.int (8 * (S.2.1 (E.2 (E.2 a0 1) 0) x2.toNatClampNeg))]) (k_X7_popOfType fu hE ha0 hu5) dX7_executeObject_49 v_X7_88 ha0 rfl rfl rfl rfl (Nat.le_of_ble_eq_true rfl) ⟨Nat.le_of_ble_eq_true rfl, Nat.le_of_ble_eq_true rfl, Nat.le_of_ble_eq_true rfl, Nat.le_of_ble_eq_true rfl⟩ ?_
    refine K_aload_n dX7_executeObject_52 rfl rfl ?_
    refine K_aload_n dX7_executeObject_53 rfl rfl ?_
    refine K_getC hE dX7_executeObject_54 f_X7_15_6 ha0 rfl rfl (fun h6 => ?_)
    refine K_getC hE dX7_executeObject_57 f_X7_137_7 h6 rfl rfl (fun h7 => ?_)
    refine K_iload_n dX7_executeObject_60 rfl rfl ?_
    refine K_chk (fun h8 => ?_)
    refine K_iald dX7_executeObject_61 h7 h8 ?_
    refine K_bind (fun u9 hu9 => ?_)
    refine K_callVV (As := [.int (u5.2.1 (E.2 (E.2 a0 1) 1) x2.toNatClampNeg)]) (k_X7_pushOfType fu hE ha0 hu9) dX7_executeObject_62 v_X7_74 ha0 rfl rfl rfl rfl (Nat.le_of_ble_eq_true rfl) ⟨Nat.le_of_ble_eq_true rfl, Nat.le_of_ble_eq_true rfl, Nat.le_of_ble_eq_true rfl, Nat.le_of_ble_eq_true rfl⟩ ?_
    refine K_goto (tgt := 120) dX7_executeObject_65 (by decide) ?_
    exact K_vret dX7_executeObject_120 hQ rfl (Nat.le_of_ble_eq_true rfl) (Nat.le_of_ble_eq_true rfl)
  · refine K_ite (fun c10 => ?_) (fun c10 => ?_)
    · refine K_lsw (tgt := 68) (off := 67) dX7_executeObject_1 (by decide) (by rw [c10]; rfl) (by decide) ?_
      refine K_aload_n dX7_executeObject_68 rfl rfl ?_
      refine K_aload_n dX7_executeObject_69 rfl rfl ?_
      refine K_getC hE dX7_executeObject_70 f_X7_15_6 ha0 rfl rfl (fun h11 => ?_)
      refine K_getC hE dX7_executeObject_73 f_X7_137_7 h11 rfl rfl (fun h12 => ?_)
      refine K_iload_n dX7_executeObject_76 rfl rfl ?_
      refine K_chk (fun h13 => ?_)
      refine K_iald dX7_executeObject_77 h12 h13 ?_
      refine K_bind (fun u14 hu14 => ?_)
      refine K_callVV (As := [.int (S.2.1 (E.2 (E.2 a0 1) 1) x2.toNatClampNeg)]) (k_X7_popOfType fu hE ha0 hu14) dX7_executeObject_78 v_X7_88 ha0 rfl rfl rfl rfl (Nat.le_of_ble_eq_true rfl) ⟨Nat.le_of_ble_eq_true rfl, Nat.le_of_ble_eq_true rfl, Nat.le_of_ble_eq_true rfl, Nat.le_of_ble_eq_true rfl⟩ ?_
      refine K_aload_n dX7_executeObject_81 rfl rfl ?_
      refine K_aload_n dX7_executeObject_82 rfl rfl ?_
      refine K_getC hE dX7_executeObject_83 f_X7_15_6 ha0 rfl rfl (fun h15 => ?_)
      refine K_getC hE dX7_executeObject_86 f_X7_134_7 h15 rfl rfl (fun h16 => ?_)
      refine K_iload_n dX7_executeObject_89 rfl rfl ?_
      refine K_chk (fun h17 => ?_)
      refine K_iald dX7_executeObject_90 h16 h17 ?_
      refine K_bind (fun u18 hu18 => ?_)
      refine K_callVV (As := [.int (u14.2.1 (E.2 (E.2 a0 1) 0) x2.toNatClampNeg)]) (k_X7_popFieldObject fu hE ha0 hu18) dX7_executeObject_91 v_X7_140 ha0 rfl rfl rfl rfl (Nat.le_of_ble_eq_true rfl) ⟨Nat.le_of_ble_eq_true rfl, Nat.le_of_ble_eq_true rfl, Nat.le_of_ble_eq_true rfl, Nat.le_of_ble_eq_true rfl⟩ ?_
      refine K_goto (tgt := 120) dX7_executeObject_94 (by decide) ?_
      exact K_vret dX7_executeObject_120 hQ rfl (Nat.le_of_ble_eq_true rfl) (Nat.le_of_ble_eq_true rfl)
    · refine K_ite (fun c19 => ?_) (fun c19 => ?_)
      · refine K_lsw (tgt := 97) (off := 96) dX7_executeObject_1 (by decide) (by rw [c19]; rfl) (by decide) ?_
        refine K_aload_n dX7_executeObject_97 rfl rfl ?_
        refine K_bind (fun u20 hu20 => ?_)
        refine K_callVI (As := []) (k_X7_popReference fu hE ha0 hu20) dX7_executeObject_98 v_X7_118 ha0 rfl rfl rfl rfl (Nat.le_of_ble_eq_true rfl) ⟨Nat.le_of_ble_eq_true rfl, Nat.le_of_ble_eq_true rfl, Nat.le_of_ble_eq_true rfl, Nat.le_of_ble_eq_true rfl⟩ ?_
        refine K_pop dX7_executeObject_101 rfl ?_
        refine K_aload_n dX7_executeObject_102 rfl rfl ?_
        refine K_iload_n dX7_executeObject_103 rfl rfl ?_
        refine K_bind (fun u21 hu21 => ?_)
        refine K_callVV (As := [.int x2]) (k_X7_push fu hE ha0 hu21) dX7_executeObject_104 v_X7_71 ha0 rfl rfl rfl rfl (Nat.le_of_ble_eq_true rfl) ⟨Nat.le_of_ble_eq_true rfl, Nat.le_of_ble_eq_true rfl, Nat.le_of_ble_eq_true rfl, Nat.le_of_ble_eq_true rfl⟩ ?_
        refine K_goto (tgt := 120) dX7_executeObject_107 (by decide) ?_
        exact K_vret dX7_executeObject_120 hQ rfl (Nat.le_of_ble_eq_true rfl) (Nat.le_of_ble_eq_true rfl)
      · refine K_lsw (tgt := 110) (off := 109) dX7_executeObject_1 (by decide) (j_ls3 (fun z => c1 (Int32.toInt_inj.mp z)) (fun z => c10 (Int32.toInt_inj.mp z)) (fun z => c19 (Int32.toInt_inj.mp z))) (by decide) ?_
        refine K_aload_n dX7_executeObject_110 rfl rfl ?_
        refine K_bind (fun u22 hu22 => ?_)
        refine K_callVI (As := []) (k_X7_popReference fu hE ha0 hu22) dX7_executeObject_111 v_X7_118 ha0 rfl rfl rfl rfl (Nat.le_of_ble_eq_true rfl) ⟨Nat.le_of_ble_eq_true rfl, Nat.le_of_ble_eq_true rfl, Nat.le_of_ble_eq_true rfl, Nat.le_of_ble_eq_true rfl⟩ ?_
        refine K_pop dX7_executeObject_114 rfl ?_
        refine K_aload_n dX7_executeObject_115 rfl rfl ?_
        refine K_iconst (v := 0) dX7_executeObject_116 (by decide) ?_
        refine K_bind (fun u23 hu23 => ?_)
        refine K_callVV (As := [.int 0]) (k_X7_push fu hE ha0 hu23) dX7_executeObject_117 v_X7_71 ha0 rfl rfl rfl rfl (Nat.le_of_ble_eq_true rfl) ⟨Nat.le_of_ble_eq_true rfl, Nat.le_of_ble_eq_true rfl, Nat.le_of_ble_eq_true rfl, Nat.le_of_ble_eq_true rfl⟩ ?_
        exact K_vret dX7_executeObject_120 hQ rfl (Nat.le_of_ble_eq_true rfl) (Nat.le_of_ble_eq_true rfl)
def jb_X7_execute_43 (fu : Nat) (E : Ev) (a0 : Nat) (x3 : Int32) (x4 : Int32) (S : St) : Option (Int32 × St) :=
  (sp_X7_executeLocal fu E S a0 x3 x4).bind fun u11 =>
  some (u11.1 a0 4, u11)
set_option maxRecDepth 100000 in
theorem kj_X7_execute_43 {X : Cx} {E : Ev} {t : (Int32 × St)} {a0 : Nat} (hQ : EndR mX7_execute X (PoI E t)) (hE : WE E) (fu : Nat) (ha0 : E.1 a0 = some (0, 6, 0)) (x3 : Int32) (x4 : Int32) (S : St) : K mX7_execute X E 43 [(0, .ref a0), (3, .int x3), (4, .int x4)] [] S 0 0 (jb_X7_execute_43 fu E a0 x3 x4 S) t := by
  unfold jb_X7_execute_43
  refine K_aload_n dX7_execute_43 rfl rfl ?_
  refine K_iload_n dX7_execute_44 rfl rfl ?_
  refine K_iload dX7_execute_45 rfl ?_
  refine K_bind (fun u11 hu11 => ?_)
  refine K_callVV (As := [.int x3, .int x4]) (k_X7_executeLocal fu hE ha0 hu11) dX7_execute_47 v_X7_45 ha0 rfl rfl rfl rfl (Nat.le_of_ble_eq_true rfl) ⟨Nat.le_of_ble_eq_true rfl, Nat.le_of_ble_eq_true rfl, Nat.le_of_ble_eq_true rfl, Nat.le_of_ble_eq_true rfl⟩ ?_
  refine K_goto (tgt := 163) dX7_execute_50 (by decide) ?_
  refine K_aload_n dX7_execute_163 rfl rfl ?_
  refine K_getI dX7_execute_164 f_X7_30_6 ha0 rfl ?_
  exact K_iret dX7_execute_167 hQ rfl (Nat.le_of_ble_eq_true rfl) (Nat.le_of_ble_eq_true rfl)
def jb_X7_execute_134 (fu : Nat) (E : Ev) (a0 : Nat) (x3 : Int32) (x4 : Int32) (S : St) : Option (Int32 × St) :=
  if x3 < 38 then (
    (sp_X7_executeObject fu E S a0 x3 x4).bind fun u12 =>
    some (u12.1 a0 4, u12)
  ) else (
    if 43 < x3 then (
      (sp_X7_executeObject fu E S a0 x3 x4).bind fun u13 =>
      some (u13.1 a0 4, u13)
    ) else (
      (sp_X7_executeArray fu E S a0 x3 x4).bind fun u14 =>
      some (u14.1 a0 4, u14)
    )
  )
set_option maxRecDepth 100000 in
theorem kj_X7_execute_134 {X : Cx} {E : Ev} {t : (Int32 × St)} {a0 : Nat} (hQ : EndR mX7_execute X (PoI E t)) (hE : WE E) (fu : Nat) (ha0 : E.1 a0 = some (0, 6, 0)) (x3 : Int32) (x4 : Int32) (S : St) : K mX7_execute X E 134 [(0, .ref a0), (3, .int x3), (4, .int x4)] [] S 0 0 (jb_X7_execute_134 fu E a0 x3 x4 S) t := by
  unfold jb_X7_execute_134
  refine K_iload_n dX7_execute_134 rfl rfl ?_
  refine K_bipush (v := 38) dX7_execute_135 (by decide) ?_
  refine K_icmp_lt (tgt := 156) dX7_execute_137 (by decide) (fun c16 => ?_) (fun c16 => ?_)
  · refine K_aload_n dX7_execute_156 rfl rfl ?_
    refine K_iload_n dX7_execute_157 rfl rfl ?_
    refine K_iload dX7_execute_158 rfl ?_
    refine K_bind (fun u12 hu12 => ?_)
    refine K_callVV (As := [.int x3, .int x4]) (k_X7_executeObject fu hE ha0 hu12) dX7_execute_160 v_X7_68 ha0 rfl rfl rfl rfl (Nat.le_of_ble_eq_true rfl) ⟨Nat.le_of_ble_eq_true rfl, Nat.le_of_ble_eq_true rfl, Nat.le_of_ble_eq_true rfl, Nat.le_of_ble_eq_true rfl⟩ ?_
    refine K_aload_n dX7_execute_163 rfl rfl ?_
    refine K_getI dX7_execute_164 f_X7_30_6 ha0 rfl ?_
    exact K_iret dX7_execute_167 hQ rfl (Nat.le_of_ble_eq_true rfl) (Nat.le_of_ble_eq_true rfl)
  · refine K_iload_n dX7_execute_140 rfl rfl ?_
    refine K_bipush (v := 43) dX7_execute_141 (by decide) ?_
    refine K_icmp_gt (tgt := 156) dX7_execute_143 (by decide) (fun c15 => ?_) (fun c15 => ?_)
    · refine K_aload_n dX7_execute_156 rfl rfl ?_
      refine K_iload_n dX7_execute_157 rfl rfl ?_
      refine K_iload dX7_execute_158 rfl ?_
      refine K_bind (fun u13 hu13 => ?_)
      refine K_callVV (As := [.int x3, .int x4]) (k_X7_executeObject fu hE ha0 hu13) dX7_execute_160 v_X7_68 ha0 rfl rfl rfl rfl (Nat.le_of_ble_eq_true rfl) ⟨Nat.le_of_ble_eq_true rfl, Nat.le_of_ble_eq_true rfl, Nat.le_of_ble_eq_true rfl, Nat.le_of_ble_eq_true rfl⟩ ?_
      refine K_aload_n dX7_execute_163 rfl rfl ?_
      refine K_getI dX7_execute_164 f_X7_30_6 ha0 rfl ?_
      exact K_iret dX7_execute_167 hQ rfl (Nat.le_of_ble_eq_true rfl) (Nat.le_of_ble_eq_true rfl)
    · refine K_aload_n dX7_execute_146 rfl rfl ?_
      refine K_iload_n dX7_execute_147 rfl rfl ?_
      refine K_iload dX7_execute_148 rfl ?_
      refine K_bind (fun u14 hu14 => ?_)
      refine K_callVV (As := [.int x3, .int x4]) (k_X7_executeArray fu hE ha0 hu14) dX7_execute_150 v_X7_65 ha0 rfl rfl rfl rfl (Nat.le_of_ble_eq_true rfl) ⟨Nat.le_of_ble_eq_true rfl, Nat.le_of_ble_eq_true rfl, Nat.le_of_ble_eq_true rfl, Nat.le_of_ble_eq_true rfl⟩ ?_
      refine K_goto (tgt := 163) dX7_execute_153 (by decide) ?_
      refine K_aload_n dX7_execute_163 rfl rfl ?_
      refine K_getI dX7_execute_164 f_X7_30_6 ha0 rfl ?_
      exact K_iret dX7_execute_167 hQ rfl (Nat.le_of_ble_eq_true rfl) (Nat.le_of_ble_eq_true rfl)
def sp_X7_execute (fu : Nat) (E : Ev) (S : St) (a0 : Nat) (x1 : Int32) (a2 : Nat) : Option (Int32 × St) :=
  bnd (sR S a0 3 a2) fun S1 =>
  bnd (sF S1 a0 4 0) fun S2 =>
  if inb x1 100 = true then
    (
    bnd (S2.2.1 (E.2 (E.2 a0 2) 4) x1.toNatClampNeg) fun v6 =>
    if inb x1 100 = true then
      (
      bnd (S2.2.1 (E.2 (E.2 a0 2) 5) x1.toNatClampNeg) fun v10 =>
      if v6 ≤ 9 then (
        jb_X7_execute_43 fu E a0 v6 v10 S2
      ) else (
        if v6 = 21 then (
          jb_X7_execute_43 fu E a0 v6 v10 S2
        ) else (
          if 15 < v6 then (
            if 26 < v6 then (
              if 31 < v6 then (
                if v6 = 34 then (
                  (sp_X7_create fu E S2 a0 ((-10) - x1)).bind fun u20 =>
                  some (u20.1 a0 4, u20)
                ) else (
                  if v6 < 35 then (
                    jb_X7_execute_134 fu E a0 v6 v10 S2
                  ) else (
                    if 37 < v6 then (
                      jb_X7_execute_134 fu E a0 v6 v10 S2
                    ) else (
                      (sp_X7_call fu E S2 a0 v6 v10).bind fun u17 =>
                      some (u17.1 a0 4, u17)
                    )
                  )
                )
              ) else (
                (sp_X7_executeEnd fu E S2 a0 v6).bind fun u22 =>
                some (u22.1 a0 4, u22)
              )
            ) else (
              (sp_X7_executeNumber fu E S2 a0 v6).bind fun u24 =>
              some (u24.1 a0 4, u24)
            )
          ) else (
            (sp_X7_executeMove fu E S2 a0 v6).bind fun u26 =>
            some (u26.1 a0 4, u26)
          )
        )
      )
      )
    else none
    )
  else none
set_option maxRecDepth 100000 in
theorem k_X7_execute {l : Launch} (fu : Nat) {E : Ev} (hE : WE E) {a0 : Nat} (ha0 : E.1 a0 = some (0, 6, 0)) {a2 : Nat} (ha2 : E.1 a2 = some (0, 2, 0)) {x1 : Int32} {S : St} {t : (Int32 × St)} (h : sp_X7_execute fu E S a0 x1 a2 = some t) : Cn l mX7_execute [.ref a0, .int x1, .ref a2] (hp E S) (PoI E t) := by
  refine Cn.of (by decide) rfl (Nat.le_of_ble_eq_true rfl) (fun X _ _ hQ => ?_)
  refine (?_ : K mX7_execute X E 0 [(0, .ref a0), (1, .int x1), (2, .ref a2)] [] S 0 0 (sp_X7_execute fu E S a0 x1 a2) t) h
  unfold sp_X7_execute
  refine K_aload_n dX7_execute_0 rfl rfl ?_
  refine K_aload_n dX7_execute_1 rfl rfl ?_
  refine K_putM (hE.nz ha2) dX7_execute_2 p_X7_26_6 ha0 rfl ?_
  refine K_nmS (fun S1 => ?_)
  refine K_aload_n dX7_execute_5 rfl rfl ?_
  refine K_iconst (v := 0) dX7_execute_6 (by decide) ?_
  refine K_putI dX7_execute_7 p_X7_30_6 ha0 rfl ?_
  refine K_nmS (fun S2 => ?_)
  refine K_aload_n dX7_execute_10 rfl rfl ?_
  refine K_getC hE dX7_execute_11 f_X7_19_6 ha0 rfl rfl (fun h3 => ?_)
  refine K_getC hE dX7_execute_14 f_X7_34_0 h3 rfl rfl (fun h4 => ?_)
  refine K_iload_n dX7_execute_17 rfl rfl ?_
  refine K_chk (fun h5 => ?_)
  refine K_iald dX7_execute_18 h4 h5 ?_
  refine K_nmI (fun v6 => ?_)
  refine K_istore_n (ls' := [(0, _), (1, _), (2, _), (3, _)]) dX7_execute_19 rfl (by decide) rfl ?_
  refine K_aload_n dX7_execute_20 rfl rfl ?_
  refine K_getC hE dX7_execute_21 f_X7_19_6 ha0 rfl rfl (fun h7 => ?_)
  refine K_getC hE dX7_execute_24 f_X7_40_0 h7 rfl rfl (fun h8 => ?_)
  refine K_iload_n dX7_execute_27 rfl rfl ?_
  refine K_chk (fun h9 => ?_)
  refine K_iald dX7_execute_28 h8 h9 ?_
  refine K_nmI (fun v10 => ?_)
  refine K_istore (ls' := [(0, _), (1, _), (2, _), (3, _), (4, _)]) dX7_execute_29 (by decide) rfl ?_
  refine K_iload_n dX7_execute_31 rfl rfl ?_
  refine K_bipush (v := 9) dX7_execute_32 (by decide) ?_
  refine K_icmp_le (tgt := 43) dX7_execute_34 (by decide) (fun c29 => ?_) (fun c29 => ?_)
  · refine K.keep [0, 3, 4] ?_
    exact kj_X7_execute_43 hQ hE fu ha0 v6 v10 S2
  · refine K_iload_n dX7_execute_37 rfl rfl ?_
    refine K_bipush (v := 21) dX7_execute_38 (by decide) ?_
    refine K_icmp_ne (tgt := 53) dX7_execute_40 (by decide) (fun c28 => ?_) (fun c28 => ?_)
    · refine K_iload_n dX7_execute_53 rfl rfl ?_
      refine K_bipush (v := 15) dX7_execute_54 (by decide) ?_
      refine K_icmp_gt (tgt := 67) dX7_execute_56 (by decide) (fun c27 => ?_) (fun c27 => ?_)
      · refine K_iload_n dX7_execute_67 rfl rfl ?_
        refine K_bipush (v := 26) dX7_execute_68 (by decide) ?_
        refine K_icmp_gt (tgt := 81) dX7_execute_70 (by decide) (fun c25 => ?_) (fun c25 => ?_)
        · refine K_iload_n dX7_execute_81 rfl rfl ?_
          refine K_bipush (v := 31) dX7_execute_82 (by decide) ?_
          refine K_icmp_gt (tgt := 95) dX7_execute_84 (by decide) (fun c23 => ?_) (fun c23 => ?_)
          · refine K_iload_n dX7_execute_95 rfl rfl ?_
            refine K_bipush (v := 34) dX7_execute_96 (by decide) ?_
            refine K_icmp_ne (tgt := 112) dX7_execute_98 (by decide) (fun c21 => ?_) (fun c21 => ?_)
            · refine K_iload_n dX7_execute_112 rfl rfl ?_
              refine K_bipush (v := 35) dX7_execute_113 (by decide) ?_
              refine K_icmp_lt (tgt := 134) dX7_execute_115 (by decide) (fun c19 => ?_) (fun c19 => ?_)
              · refine K.keep [0, 3, 4] ?_
                exact kj_X7_execute_134 hQ hE fu ha0 v6 v10 S2
              · refine K_iload_n dX7_execute_118 rfl rfl ?_
                refine K_bipush (v := 37) dX7_execute_119 (by decide) ?_
                refine K_icmp_gt (tgt := 134) dX7_execute_121 (by decide) (fun c18 => ?_) (fun c18 => ?_)
                · refine K.keep [0, 3, 4] ?_
                  exact kj_X7_execute_134 hQ hE fu ha0 v6 v10 S2
                · refine K_aload_n dX7_execute_124 rfl rfl ?_
                  refine K_iload_n dX7_execute_125 rfl rfl ?_
                  refine K_iload dX7_execute_126 rfl ?_
                  refine K_bind (fun u17 hu17 => ?_)
                  refine K_callVV (As := [.int v6, .int v10]) (k_X7_call fu hE ha0 hu17) dX7_execute_128 v_X7_62 ha0 rfl rfl rfl rfl (Nat.le_of_ble_eq_true rfl) ⟨Nat.le_of_ble_eq_true rfl, Nat.le_of_ble_eq_true rfl, Nat.le_of_ble_eq_true rfl, Nat.le_of_ble_eq_true rfl⟩ ?_
                  refine K_goto (tgt := 163) dX7_execute_131 (by decide) ?_
                  refine K_aload_n dX7_execute_163 rfl rfl ?_
                  refine K_getI dX7_execute_164 f_X7_30_6 ha0 rfl ?_
                  exact K_iret dX7_execute_167 hQ rfl (Nat.le_of_ble_eq_true rfl) (Nat.le_of_ble_eq_true rfl)
            · refine K_aload_n dX7_execute_101 rfl rfl ?_
              refine K_bipush (v := (-10)) dX7_execute_102 (by decide) ?_
              refine K_iload_n dX7_execute_104 rfl rfl ?_
              refine K_isub dX7_execute_105 ?_
              refine K_bind (fun u20 hu20 => ?_)
              refine K_callVV (As := [.int ((-10) - x1)]) (k_X7_create fu hE ha0 hu20) dX7_execute_106 v_X7_59 ha0 rfl rfl rfl rfl (Nat.le_of_ble_eq_true rfl) ⟨Nat.le_of_ble_eq_true rfl, Nat.le_of_ble_eq_true rfl, Nat.le_of_ble_eq_true rfl, Nat.le_of_ble_eq_true rfl⟩ ?_
              refine K_goto (tgt := 163) dX7_execute_109 (by decide) ?_
              refine K_aload_n dX7_execute_163 rfl rfl ?_
              refine K_getI dX7_execute_164 f_X7_30_6 ha0 rfl ?_
              exact K_iret dX7_execute_167 hQ rfl (Nat.le_of_ble_eq_true rfl) (Nat.le_of_ble_eq_true rfl)
          · refine K_aload_n dX7_execute_87 rfl rfl ?_
            refine K_iload_n dX7_execute_88 rfl rfl ?_
            refine K_bind (fun u22 hu22 => ?_)
            refine K_callVV (As := [.int v6]) (k_X7_executeEnd fu hE ha0 hu22) dX7_execute_89 v_X7_56 ha0 rfl rfl rfl rfl (Nat.le_of_ble_eq_true rfl) ⟨Nat.le_of_ble_eq_true rfl, Nat.le_of_ble_eq_true rfl, Nat.le_of_ble_eq_true rfl, Nat.le_of_ble_eq_true rfl⟩ ?_
            refine K_goto (tgt := 163) dX7_execute_92 (by decide) ?_
            refine K_aload_n dX7_execute_163 rfl rfl ?_
            refine K_getI dX7_execute_164 f_X7_30_6 ha0 rfl ?_
            exact K_iret dX7_execute_167 hQ rfl (Nat.le_of_ble_eq_true rfl) (Nat.le_of_ble_eq_true rfl)
        · refine K_aload_n dX7_execute_73 rfl rfl ?_
          refine K_iload_n dX7_execute_74 rfl rfl ?_
          refine K_bind (fun u24 hu24 => ?_)
          refine K_callVV (As := [.int v6]) (k_X7_executeNumber fu hE ha0 hu24) dX7_execute_75 v_X7_53 ha0 rfl rfl rfl rfl (Nat.le_of_ble_eq_true rfl) ⟨Nat.le_of_ble_eq_true rfl, Nat.le_of_ble_eq_true rfl, Nat.le_of_ble_eq_true rfl, Nat.le_of_ble_eq_true rfl⟩ ?_
          refine K_goto (tgt := 163) dX7_execute_78 (by decide) ?_
          refine K_aload_n dX7_execute_163 rfl rfl ?_
          refine K_getI dX7_execute_164 f_X7_30_6 ha0 rfl ?_
          exact K_iret dX7_execute_167 hQ rfl (Nat.le_of_ble_eq_true rfl) (Nat.le_of_ble_eq_true rfl)
      · refine K_aload_n dX7_execute_59 rfl rfl ?_
        refine K_iload_n dX7_execute_60 rfl rfl ?_
        refine K_bind (fun u26 hu26 => ?_)
        refine K_callVV (As := [.int v6]) (k_X7_executeMove fu hE ha0 hu26) dX7_execute_61 v_X7_49 ha0 rfl rfl rfl rfl (Nat.le_of_ble_eq_true rfl) ⟨Nat.le_of_ble_eq_true rfl, Nat.le_of_ble_eq_true rfl, Nat.le_of_ble_eq_true rfl, Nat.le_of_ble_eq_true rfl⟩ ?_
        refine K_goto (tgt := 163) dX7_execute_64 (by decide) ?_
        refine K_aload_n dX7_execute_163 rfl rfl ?_
        refine K_getI dX7_execute_164 f_X7_30_6 ha0 rfl ?_
        exact K_iret dX7_execute_167 hQ rfl (Nat.le_of_ble_eq_true rfl) (Nat.le_of_ble_eq_true rfl)
    · refine K.keep [0, 3, 4] ?_
      exact kj_X7_execute_43 hQ hE fu ha0 v6 v10 S2
def jb_X0_process_4_43 (fu : Nat) (E : Ev) (a0 : Nat) (x1 : Int32) (x2 : Int32) (S : St) : Option (Int32 × St) :=
  if x2 = 0 then (
    some (x2, S)
  ) else (
    bnd (sF S a0 3 x1) fun S3 =>
    some (x2, S3)
  )
set_option maxRecDepth 100000 in
theorem kj_X0_process_4_43 {X : Cx} {E : Ev} {t : (Int32 × St)} {a0 : Nat} (hQ : EndR mX0_process X (PoI E t)) (hE : WE E) (fu : Nat) (ha0 : E.1 a0 = some (0, 4, 0)) (x1 : Int32) (x2 : Int32) (S : St) : K mX0_process X E 43 [(0, .ref a0), (1, .int x1), (2, .int x2)] [] S 0 0 (jb_X0_process_4_43 fu E a0 x1 x2 S) t := by
  unfold jb_X0_process_4_43
  refine K_iload_n dX0_process_43 rfl rfl ?_
  refine K_if_eq (tgt := 52) dX0_process_44 (by decide) (fun c4 => ?_) (fun c4 => ?_)
  · refine K_iload_n dX0_process_52 rfl rfl ?_
    exact K_iret dX0_process_53 hQ rfl (Nat.le_of_ble_eq_true rfl) (Nat.le_of_ble_eq_true rfl)
  · refine K_aload_n dX0_process_47 rfl rfl ?_
    refine K_iload_n dX0_process_48 rfl rfl ?_
    refine K_putI dX0_process_49 p_X0_49_4 ha0 rfl ?_
    refine K_nmS (fun S3 => ?_)
    refine K_iload_n dX0_process_52 rfl rfl ?_
    exact K_iret dX0_process_53 hQ rfl (Nat.le_of_ble_eq_true rfl) (Nat.le_of_ble_eq_true rfl)
def jb_X0_process_4_33 (fu : Nat) (E : Ev) (a0 : Nat) (x1 : Int32) (x2 : Int32) (S : St) : Option (Int32 × St) :=
  if x2 = 0 then (
    (sp_X0_flowToSuccessors_4 fu E S a0 x1).bind fun u5 =>
    jb_X0_process_4_43 fu E a0 x1 u5.1 u5.2
  ) else (
    jb_X0_process_4_43 fu E a0 x1 x2 S
  )
set_option maxRecDepth 100000 in
theorem kj_X0_process_4_33 {X : Cx} {E : Ev} {t : (Int32 × St)} {a0 : Nat} (hQ : EndR mX0_process X (PoI E t)) (hE : WE E) (fu : Nat) (ha0 : E.1 a0 = some (0, 4, 0)) (x1 : Int32) (x2 : Int32) (S : St) : K mX0_process X E 33 [(0, .ref a0), (1, .int x1), (2, .int x2)] [] S 0 0 (jb_X0_process_4_33 fu E a0 x1 x2 S) t := by
  unfold jb_X0_process_4_33
  refine K_iload_n dX0_process_33 rfl rfl ?_
  refine K_if_ne (tgt := 43) dX0_process_34 (by decide) (fun c6 => ?_) (fun c6 => ?_)
  · refine K.keep [0, 1, 2] ?_
    exact kj_X0_process_4_43 hQ hE fu ha0 x1 x2 S
  · refine K_aload_n dX0_process_37 rfl rfl ?_
    refine K_iload_n dX0_process_38 rfl rfl ?_
    refine K_bind (fun u5 hu5 => ?_)
    refine K_callUI (r := (RX5, TX5, 11)) (As := [.int x1]) (k_X0_flowToSuccessors_4 fu hE ha0 hu5) dX0_process_39 u_X0_103_4 ha0 rfl rfl rfl (Nat.le_of_ble_eq_true rfl) ⟨Nat.le_of_ble_eq_true rfl, Nat.le_of_ble_eq_true rfl, Nat.le_of_ble_eq_true rfl, Nat.le_of_ble_eq_true rfl⟩ ?_
    refine K_istore_n (ls' := [(0, _), (1, _), (2, _)]) dX0_process_42 rfl (by decide) rfl ?_
    refine K.keep [0, 1, 2] ?_
    exact kj_X0_process_4_43 hQ hE fu ha0 x1 u5.1 u5.2
def sp_X0_process_4 (fu : Nat) (E : Ev) (S : St) (a0 : Nat) (x1 : Int32) : Option (Int32 × St) :=
  bnd (sF S a0 4 ((S.1 a0 4) + 1)) fun S1 =>
  (sp_X0_flowToHandlers_4 fu E S1 a0 x1).bind fun u2 =>
  if u2.1 = 0 then (
    (sp_X7_execute fu E u2.2 (E.2 a0 7) x1 (E.2 a0 2)).bind fun u9 =>
    jb_X0_process_4_33 fu E a0 x1 u9.1 u9.2
  ) else (
    jb_X0_process_4_33 fu E a0 x1 u2.1 u2.2
  )
set_option maxRecDepth 100000 in
theorem k_X0_process_4 {l : Launch} (fu : Nat) {E : Ev} (hE : WE E) {a0 : Nat} (ha0 : E.1 a0 = some (0, 4, 0)) {x1 : Int32} {S : St} {t : (Int32 × St)} (h : sp_X0_process_4 fu E S a0 x1 = some t) : Cn l mX0_process [.ref a0, .int x1] (hp E S) (PoI E t) := by
  refine Cn.of (by decide) rfl (Nat.le_of_ble_eq_true rfl) (fun X _ _ hQ => ?_)
  refine (?_ : K mX0_process X E 0 [(0, .ref a0), (1, .int x1)] [] S 0 0 (sp_X0_process_4 fu E S a0 x1) t) h
  unfold sp_X0_process_4
  refine K_aload_n dX0_process_0 rfl rfl ?_
  refine K_dup dX0_process_1 rfl ?_
  refine K_getI dX0_process_2 f_X0_53_4 ha0 rfl ?_
  refine K_iconst (v := 1) dX0_process_5 (by decide) ?_
  refine K_iadd dX0_process_6 ?_
  refine K_putI dX0_process_7 p_X0_53_4 ha0 rfl ?_
  refine K_nmS (fun S1 => ?_)
  refine K_aload_n dX0_process_10 rfl rfl ?_
  refine K_iload_n dX0_process_11 rfl rfl ?_
  refine K_bind (fun u2 hu2 => ?_)
  refine K_callUI (r := (RX5, TX5, 11)) (As := [.int x1]) (k_X0_flowToHandlers_4 fu hE ha0 hu2) dX0_process_12 u_X0_96_4 ha0 rfl rfl rfl (Nat.le_of_ble_eq_true rfl) ⟨Nat.le_of_ble_eq_true rfl, Nat.le_of_ble_eq_true rfl, Nat.le_of_ble_eq_true rfl, Nat.le_of_ble_eq_true rfl⟩ ?_
  refine K_istore_n (ls' := [(0, _), (1, _), (2, _)]) dX0_process_15 rfl (by decide) rfl ?_
  refine K_iload_n dX0_process_16 rfl rfl ?_
  refine K_if_ne (tgt := 33) dX0_process_17 (by decide) (fun c10 => ?_) (fun c10 => ?_)
  · refine K.keep [0, 1, 2] ?_
    exact kj_X0_process_4_33 hQ hE fu ha0 x1 u2.1 u2.2
  · refine K_aload_n dX0_process_20 rfl rfl ?_
    refine K_getC hE dX0_process_21 f_X0_45_4 ha0 rfl rfl (fun h7 => ?_)
    refine K_iload_n dX0_process_24 rfl rfl ?_
    refine K_aload_n dX0_process_25 rfl rfl ?_
    refine K_getC hE dX0_process_26 f_X0_12_4 ha0 rfl rfl (fun h8 => ?_)
    refine K_bind (fun u9 hu9 => ?_)
    refine K_callVI (As := [.int x1, .ref (E.2 a0 2)]) (k_X7_execute fu hE h7 h8 hu9) dX0_process_29 v_X0_99 h7 rfl rfl rfl rfl (Nat.le_of_ble_eq_true rfl) ⟨Nat.le_of_ble_eq_true rfl, Nat.le_of_ble_eq_true rfl, Nat.le_of_ble_eq_true rfl, Nat.le_of_ble_eq_true rfl⟩ ?_
    refine K_istore_n (ls' := [(0, _), (1, _), (2, _)]) dX0_process_32 rfl (by decide) rfl ?_
    refine K.keep [0, 1, 2] ?_
    exact kj_X0_process_4_33 hQ hE fu ha0 x1 u9.1 u9.2
def sp_X11_slotsOf (fu : Nat) (E : Ev) (S : St) (x0 : Int32) : Option (Int32 × St) :=
  if x0 = 8 then (
    some (2, S)
  ) else (
    some (1, S)
  )
set_option maxRecDepth 100000 in
theorem k_X11_slotsOf {l : Launch} (fu : Nat) {E : Ev} (hE : WE E) {x0 : Int32} {S : St} {t : (Int32 × St)} (h : sp_X11_slotsOf fu E S x0 = some t) : Cn l mX11_slotsOf [.int x0] (hp E S) (PoI E t) := by
  refine Cn.of (by decide) rfl (Nat.le_of_ble_eq_true rfl) (fun X _ _ hQ => ?_)
  refine (?_ : K mX11_slotsOf X E 0 [(0, .int x0)] [] S 0 0 (sp_X11_slotsOf fu E S x0) t) h
  unfold sp_X11_slotsOf
  refine K_iload_n dX11_slotsOf_0 rfl rfl ?_
  refine K_bipush (v := 8) dX11_slotsOf_1 (by decide) ?_
  refine K_icmp_ne (tgt := 10) dX11_slotsOf_3 (by decide) (fun c1 => ?_) (fun c1 => ?_)
  · refine K_iconst (v := 1) dX11_slotsOf_10 (by decide) ?_
    exact K_iret dX11_slotsOf_11 hQ rfl (Nat.le_of_ble_eq_true rfl) (Nat.le_of_ble_eq_true rfl)
  · refine K_iconst (v := 2) dX11_slotsOf_6 (by decide) ?_
    refine K_goto (tgt := 11) dX11_slotsOf_7 (by decide) ?_
    exact K_iret dX11_slotsOf_11 hQ rfl (Nat.le_of_ble_eq_true rfl) (Nat.le_of_ble_eq_true rfl)
def jb_X0_makeFirstFrame_4_148 (fu : Nat) (E : Ev) (a0 a1 : Nat) (rc95 : Int32 → Int32 → Int32 → St → Option St) (x2 : Int32) (x4 : Int32) (x5 : Int32) (x6 : Int32) (S : St) : Option St :=
  (sp_X11_slotsOf fu E S x6).bind fun u19 =>
  bnd (x4 + u19.1) fun v20 =>
  rc95 x2 v20 (x5 + 1) u19.2
set_option maxRecDepth 100000 in
theorem kj_X0_makeFirstFrame_4_148 {X : Cx} {E : Ev} {t : St} {a0 a1 : Nat} {rc95 : Int32 → Int32 → Int32 → St → Option St} (hQ : EndR mX0_makeFirstFrame X (PoV E t)) (hE : WE E) (fu : Nat) (ha0 : E.1 a0 = some (0, 4, 0)) (ha1 : E.1 a1 = some (0, 2, 0)) (hrc95 : ∀ (x2 : Int32) (x4 : Int32) (x5 : Int32) (S : St), K mX0_makeFirstFrame X E 95 [(0, .ref a0), (1, .ref a1), (2, .int x2), (4, .int x4), (5, .int x5)] [] S 0 0 (rc95 x2 x4 x5 S) t) (x2 : Int32) (x4 : Int32) (x5 : Int32) (x6 : Int32) (S : St) : K mX0_makeFirstFrame X E 148 [(0, .ref a0), (1, .ref a1), (2, .int x2), (4, .int x4), (5, .int x5), (6, .int x6)] [] S 0 0 (jb_X0_makeFirstFrame_4_148 fu E a0 a1 rc95 x2 x4 x5 x6 S) t := by
  unfold jb_X0_makeFirstFrame_4_148
  refine K_iload dX0_makeFirstFrame_148 rfl ?_
  refine K_iload dX0_makeFirstFrame_150 rfl ?_
  refine K_bind (fun u19 hu19 => ?_)
  refine K_callSI (As := [.int x6]) (k_X11_slotsOf fu hE hu19) dX0_makeFirstFrame_152 s_X0_92 rfl rfl (Nat.le_of_ble_eq_true rfl) ⟨Nat.le_of_ble_eq_true rfl, Nat.le_of_ble_eq_true rfl, Nat.le_of_ble_eq_true rfl, Nat.le_of_ble_eq_true rfl⟩ ?_
  refine K_iadd dX0_makeFirstFrame_155 ?_
  refine K_nmI (fun v20 => ?_)
  refine K_istore (ls' := [(0, _), (1, _), (2, _), (4, _), (5, _), (6, _)]) dX0_makeFirstFrame_156 (by decide) rfl ?_
  refine K_iinc (v := (x5 + 1)) (ls' := [(0, _), (1, _), (2, _), (4, _), (5, _), (6, _)]) dX0_makeFirstFrame_158 rfl rfl (by decide) rfl ?_
  refine K_goto (tgt := 95) dX0_makeFirstFrame_161 (by decide) ?_
  refine K.keep [0, 1, 2, 4, 5] ?_
  exact hrc95 x2 v20 (x5 + 1) u19.2
def bd_X0_makeFirstFrame_4_95 (fu : Nat) (E : Ev) (a0 a1 : Nat) (rc95 : Int32 → Int32 → Int32 → St → Option St) (x2 : Int32) (x4 : Int32) (x5 : Int32) (S : St) : Option St :=
  if inb x2 30 = true then
    (
    if (S.2.1 (E.2 (E.2 a0 5) 6) x2.toNatClampNeg) ≤ x5 then (
      some S
    ) else (
      (sp_X8_parameterType fu E S (E.2 a0 5) x2 x5).bind fun u15 =>
      if inb x4 12 = true then (
        bnd (sG u15.2 (E.2 a1 0) (x4.toNatClampNeg) u15.1) fun S18 =>
        if u15.1 = 8 then (
          if inb (x4 + 1) 12 = true then (
            bnd (sG S18 (E.2 a1 0) ((x4 + 1).toNatClampNeg) (-3)) fun S23 =>
            jb_X0_makeFirstFrame_4_148 fu E a0 a1 rc95 x2 x4 x5 u15.1 S23
          ) else none
        ) else (
          jb_X0_makeFirstFrame_4_148 fu E a0 a1 rc95 x2 x4 x5 u15.1 S18
        )
      ) else none
    )
    )
  else none
def lp_X0_makeFirstFrame_4_95 (fu : Nat) (E : Ev) (a0 a1 : Nat) : Nat → Int32 → Int32 → Int32 → St → Option St
  | 0, _, _, _, _ => none
  | f + 1, x2, x4, x5, S => bd_X0_makeFirstFrame_4_95 fu E a0 a1 (lp_X0_makeFirstFrame_4_95 fu E a0 a1 f) x2 x4 x5 S
set_option maxRecDepth 100000 in
theorem kl_X0_makeFirstFrame_4_95 {X : Cx} {E : Ev} {t : St} {a0 a1 : Nat} (hQ : EndR mX0_makeFirstFrame X (PoV E t)) (hE : WE E) (fu : Nat) (ha0 : E.1 a0 = some (0, 4, 0)) (ha1 : E.1 a1 = some (0, 2, 0)) : ∀ (f : Nat) (x2 : Int32) (x4 : Int32) (x5 : Int32) (S : St), K mX0_makeFirstFrame X E 95 [(0, .ref a0), (1, .ref a1), (2, .int x2), (4, .int x4), (5, .int x5)] [] S 0 0 (lp_X0_makeFirstFrame_4_95 fu E a0 a1 f x2 x4 x5 S) t := by
  intro f
  induction f with
  | zero => intro x2 x4 x5 S; exact K_none
  | succ f hrc95 =>
    intro x2 x4 x5 S
    show K _ _ _ _ _ _ _ _ _ (bd_X0_makeFirstFrame_4_95 fu E a0 a1 (lp_X0_makeFirstFrame_4_95 fu E a0 a1 f) x2 x4 x5 S) t
    unfold bd_X0_makeFirstFrame_4_95
    refine K_iload dX0_makeFirstFrame_95 rfl ?_
    refine K_aload_n dX0_makeFirstFrame_97 rfl rfl ?_
    refine K_getC hE dX0_makeFirstFrame_98 f_X0_25_4 ha0 rfl rfl (fun h11 => ?_)
    refine K_getC hE dX0_makeFirstFrame_101 f_X0_85_7 h11 rfl rfl (fun h12 => ?_)
    refine K_iload_n dX0_makeFirstFrame_104 rfl rfl ?_
    refine K_chk (fun h13 => ?_)
    refine K_iald dX0_makeFirstFrame_105 h12 h13 ?_
    refine K_icmp_ge (tgt := 164) dX0_makeFirstFrame_106 (by decide) (fun c25 => ?_) (fun c25 => ?_)
    · exact K_vret dX0_makeFirstFrame_164 hQ rfl (Nat.le_of_ble_eq_true rfl) (Nat.le_of_ble_eq_true rfl)
    · refine K_aload_n dX0_makeFirstFrame_109 rfl rfl ?_
      refine K_getC hE dX0_makeFirstFrame_110 f_X0_25_4 ha0 rfl rfl (fun h14 => ?_)
      refine K_iload_n dX0_makeFirstFrame_113 rfl rfl ?_
      refine K_iload dX0_makeFirstFrame_114 rfl ?_
      refine K_bind (fun u15 hu15 => ?_)
      refine K_callVI (As := [.int x2, .int x5]) (k_X8_parameterType fu hE h14 hu15) dX0_makeFirstFrame_116 v_X0_88 h14 rfl rfl rfl rfl (Nat.le_of_ble_eq_true rfl) ⟨Nat.le_of_ble_eq_true rfl, Nat.le_of_ble_eq_true rfl, Nat.le_of_ble_eq_true rfl, Nat.le_of_ble_eq_true rfl⟩ ?_
      refine K_istore (ls' := [(0, _), (1, _), (2, _), (4, _), (5, _), (6, _)]) dX0_makeFirstFrame_119 (by decide) rfl ?_
      refine K_aload_n dX0_makeFirstFrame_121 rfl rfl ?_
      refine K_getC hE dX0_makeFirstFrame_122 f_X0_78_2 ha1 rfl rfl (fun h16 => ?_)
      refine K_iload dX0_makeFirstFrame_125 rfl ?_
      refine K_iload dX0_makeFirstFrame_127 rfl ?_
      refine K_chk (fun h17 => ?_)
      refine K_iast dX0_makeFirstFrame_129 h16 h17 ?_
      refine K_nmS (fun S18 => ?_)
      refine K_iload dX0_makeFirstFrame_130 rfl ?_
      refine K_bipush (v := 8) dX0_makeFirstFrame_132 (by decide) ?_
      refine K_icmp_ne (tgt := 148) dX0_makeFirstFrame_134 (by decide) (fun c24 => ?_) (fun c24 => ?_)
      · refine K.keep [0, 1, 2, 4, 5, 6] ?_
        exact kj_X0_makeFirstFrame_4_148 hQ hE fu ha0 ha1 hrc95 x2 x4 x5 u15.1 S18
      · refine K_aload_n dX0_makeFirstFrame_137 rfl rfl ?_
        refine K_getC hE dX0_makeFirstFrame_138 f_X0_78_2 ha1 rfl rfl (fun h21 => ?_)
        refine K_iload dX0_makeFirstFrame_141 rfl ?_
        refine K_iconst (v := 1) dX0_makeFirstFrame_143 (by decide) ?_
        refine K_iadd dX0_makeFirstFrame_144 ?_
        refine K_bipush (v := (-3)) dX0_makeFirstFrame_145 (by decide) ?_
        refine K_chk (fun h22 => ?_)
        refine K_iast dX0_makeFirstFrame_147 h21 h22 ?_
        refine K_nmS (fun S23 => ?_)
        refine K.keep [0, 1, 2, 4, 5, 6] ?_
        exact kj_X0_makeFirstFrame_4_148 hQ hE fu ha0 ha1 hrc95 x2 x4 x5 u15.1 S23
def jb_X0_makeFirstFrame_4_82 (fu : Nat) (E : Ev) (a0 a1 b0 : Nat) (x2 : Int32) (x5 : Int32) (y1 : Int32) (y2 : Int32) (S : St) : Option St :=
  if inb y1 12 = true then (
    bnd (sG S b0 (y1.toNatClampNeg) y2) fun S31 =>
    if isB x5 = true then
      (
      bnd (sF S31 a1 3 x5) fun S32 =>
      lp_X0_makeFirstFrame_4_95 fu E a0 a1 fu x2 1 0 S32
      )
    else none
  ) else none
set_option maxRecDepth 100000 in
theorem kj_X0_makeFirstFrame_4_82 {X : Cx} {E : Ev} {t : St} {a0 a1 b0 : Nat} (hQ : EndR mX0_makeFirstFrame X (PoV E t)) (hE : WE E) (fu : Nat) (ha0 : E.1 a0 = some (0, 4, 0)) (ha1 : E.1 a1 = some (0, 2, 0)) (hb0 : E.1 b0 = some (1, 0, 12)) (x2 : Int32) (x5 : Int32) (y1 : Int32) (y2 : Int32) (S : St) : K mX0_makeFirstFrame X E 82 [(0, .ref a0), (1, .ref a1), (2, .int x2), (5, .int x5)] [.int y2, .int y1, .ref b0] S 0 0 (jb_X0_makeFirstFrame_4_82 fu E a0 a1 b0 x2 x5 y1 y2 S) t := by
  unfold jb_X0_makeFirstFrame_4_82
  refine K_chk (fun h30 => ?_)
  refine K_iast dX0_makeFirstFrame_82 hb0 h30 ?_
  refine K_nmS (fun S31 => ?_)
  refine K_aload_n dX0_makeFirstFrame_83 rfl rfl ?_
  refine K_iload dX0_makeFirstFrame_84 rfl ?_
  refine K_chk (fun h33 => ?_)
  refine K_putZ dX0_makeFirstFrame_86 p_X0_81_2 ha1 rfl h33 ?_
  refine K_nmS (fun S32 => ?_)
  refine K_iconst (v := 1) dX0_makeFirstFrame_89 (by decide) ?_
  refine K_istore (ls' := [(0, _), (1, _), (2, _), (5, _), (4, _)]) dX0_makeFirstFrame_90 (by decide) rfl ?_
  refine K_iconst (v := 0) dX0_makeFirstFrame_92 (by decide) ?_
  refine K_istore (ls' := [(0, _), (1, _), (2, _), (5, _), (4, _)]) dX0_makeFirstFrame_93 (by decide) rfl ?_
  refine K.keep [0, 1, 2, 4, 5] ?_
  exact kl_X0_makeFirstFrame_4_95 hQ hE fu ha0 ha1 fu x2 1 0 S32
def jb_X0_makeFirstFrame_4_61 (fu : Nat) (E : Ev) (a0 a1 : Nat) (x2 : Int32) (x3 : Int32) (y0 : Int32) (S : St) : Option St :=
  if y0 = 0 then (
    jb_X0_makeFirstFrame_4_82 fu E a0 a1 (E.2 a1 0) x2 y0 0 (8 * x3) S
  ) else (
    jb_X0_makeFirstFrame_4_82 fu E a0 a1 (E.2 a1 0) x2 y0 0 (-4) S
  )
set_option maxRecDepth 100000 in
theorem kj_X0_makeFirstFrame_4_61 {X : Cx} {E : Ev} {t : St} {a0 a1 : Nat} (hQ : EndR mX0_makeFirstFrame X (PoV E t)) (hE : WE E) (fu : Nat) (ha0 : E.1 a0 = some (0, 4, 0)) (ha1 : E.1 a1 = some (0, 2, 0)) (x2 : Int32) (x3 : Int32) (y0 : Int32) (S : St) : K mX0_makeFirstFrame X E 61 [(0, .ref a0), (1, .ref a1), (2, .int x2), (3, .int x3)] [.int y0] S 0 0 (jb_X0_makeFirstFrame_4_61 fu E a0 a1 x2 x3 y0 S) t := by
  unfold jb_X0_makeFirstFrame_4_61
  refine K_istore (ls' := [(0, _), (1, _), (2, _), (3, _), (5, _)]) dX0_makeFirstFrame_61 (by decide) rfl ?_
  refine K_aload_n dX0_makeFirstFrame_63 rfl rfl ?_
  refine K_getC hE dX0_makeFirstFrame_64 f_X0_78_2 ha1 rfl rfl (fun h29 => ?_)
  refine K_iconst (v := 0) dX0_makeFirstFrame_67 (by decide) ?_
  refine K_iload dX0_makeFirstFrame_68 rfl ?_
  refine K_if_eq (tgt := 78) dX0_makeFirstFrame_70 (by decide) (fun c34 => ?_) (fun c34 => ?_)
  · refine K_bipush (v := 8) dX0_makeFirstFrame_78 (by decide) ?_
    refine K_iload_n dX0_makeFirstFrame_80 rfl rfl ?_
    refine K_imul dX0_makeFirstFrame_81 ?_
    refine K.keep [0, 1, 2, 5] ?_
    exact kj_X0_makeFirstFrame_4_82 hQ hE fu ha0 ha1 h29 x2 y0 0 (8 * x3) S
  · refine K_bipush (v := (-4)) dX0_makeFirstFrame_73 (by decide) ?_
    refine K_goto (tgt := 82) dX0_makeFirstFrame_75 (by decide) ?_
    refine K.keep [0, 1, 2, 5] ?_
    exact kj_X0_makeFirstFrame_4_82 hQ hE fu ha0 ha1 h29 x2 y0 0 (-4) S
def sp_X0_makeFirstFrame_4 (fu : Nat) (E : Ev) (S : St) (a0 : Nat) (a1 : Nat) : Option St :=
  (sp_X3_clear fu E S a1).bind fun u1 =>
  bnd (u1.1 (E.2 a0 0) 1) fun v3 =>
  if inb v3 30 = true then
    (
    bnd (u1.2.1 (E.2 (E.2 a0 5) 3) v3.toNatClampNeg) fun v7 =>
    if inb v3 30 = true then
      (
      if (u1.2.1 (E.2 (E.2 a0 5) 4) v3.toNatClampNeg) = 1 then (
        lp_X0_makeFirstFrame_4_95 fu E a0 a1 fu v3 0 0 u1
      ) else (
        if inb v3 30 = true then
          (
          if (u1.2.1 (E.2 (E.2 a0 5) 4) v3.toNatClampNeg) = 2 then (
            if v7 = 2 then (
              jb_X0_makeFirstFrame_4_61 fu E a0 a1 v3 v7 0 u1
            ) else (
              jb_X0_makeFirstFrame_4_61 fu E a0 a1 v3 v7 1 u1
            )
          ) else (
            jb_X0_makeFirstFrame_4_61 fu E a0 a1 v3 v7 0 u1
          )
          )
        else none
      )
      )
    else none
    )
  else none
set_option maxRecDepth 100000 in
theorem k_X0_makeFirstFrame_4 {l : Launch} (fu : Nat) {E : Ev} (hE : WE E) {a0 : Nat} (ha0 : E.1 a0 = some (0, 4, 0)) {a1 : Nat} (ha1 : E.1 a1 = some (0, 2, 0)) {S : St} {t : St} (h : sp_X0_makeFirstFrame_4 fu E S a0 a1 = some t) : Cn l mX0_makeFirstFrame [.ref a0, .ref a1] (hp E S) (PoV E t) := by
  refine Cn.of (by decide) rfl (Nat.le_of_ble_eq_true rfl) (fun X _ _ hQ => ?_)
  refine (?_ : K mX0_makeFirstFrame X E 0 [(0, .ref a0), (1, .ref a1)] [] S 0 0 (sp_X0_makeFirstFrame_4 fu E S a0 a1) t) h
  unfold sp_X0_makeFirstFrame_4
  refine K_aload_n dX0_makeFirstFrame_0 rfl rfl ?_
  refine K_bind (fun u1 hu1 => ?_)
  refine K_callVV (As := []) (k_X3_clear fu hE ha1 hu1) dX0_makeFirstFrame_1 v_X0_61 ha1 rfl rfl rfl rfl (Nat.le_of_ble_eq_true rfl) ⟨Nat.le_of_ble_eq_true rfl, Nat.le_of_ble_eq_true rfl, Nat.le_of_ble_eq_true rfl, Nat.le_of_ble_eq_true rfl⟩ ?_
  refine K_aload_n dX0_makeFirstFrame_4 rfl rfl ?_
  refine K_getC hE dX0_makeFirstFrame_5 f_X0_29_4 ha0 rfl rfl (fun h2 => ?_)
  refine K_getI dX0_makeFirstFrame_8 f_X0_64_0 h2 rfl ?_
  refine K_nmI (fun v3 => ?_)
  refine K_istore_n (ls' := [(0, _), (1, _), (2, _)]) dX0_makeFirstFrame_11 rfl (by decide) rfl ?_
  refine K_aload_n dX0_makeFirstFrame_12 rfl rfl ?_
  refine K_getC hE dX0_makeFirstFrame_13 f_X0_25_4 ha0 rfl rfl (fun h4 => ?_)
  refine K_getC hE dX0_makeFirstFrame_16 f_X0_69_7 h4 rfl rfl (fun h5 => ?_)
  refine K_iload_n dX0_makeFirstFrame_19 rfl rfl ?_
  refine K_chk (fun h6 => ?_)
  refine K_iald dX0_makeFirstFrame_20 h5 h6 ?_
  refine K_nmI (fun v7 => ?_)
  refine K_istore_n (ls' := [(0, _), (1, _), (2, _), (3, _)]) dX0_makeFirstFrame_21 rfl (by decide) rfl ?_
  refine K_iconst (v := 0) dX0_makeFirstFrame_22 (by decide) ?_
  refine K_istore (ls' := [(0, _), (1, _), (2, _), (3, _), (4, _)]) dX0_makeFirstFrame_23 (by decide) rfl ?_
  refine K_aload_n dX0_makeFirstFrame_25 rfl rfl ?_
  refine K_getC hE dX0_makeFirstFrame_26 f_X0_25_4 ha0 rfl rfl (fun h8 => ?_)
  refine K_getC hE dX0_makeFirstFrame_29 f_X0_75_7 h8 rfl rfl (fun h9 => ?_)
  refine K_iload_n dX0_makeFirstFrame_32 rfl rfl ?_
  refine K_chk (fun h10 => ?_)
  refine K_iald dX0_makeFirstFrame_33 h9 h10 ?_
  refine K_iconst (v := 1) dX0_makeFirstFrame_34 (by decide) ?_
  refine K_icmp_eq (tgt := 92) dX0_makeFirstFrame_35 (by decide) (fun c37 => ?_) (fun c37 => ?_)
  · refine K_iconst (v := 0) dX0_makeFirstFrame_92 (by decide) ?_
    refine K_istore (ls' := [(0, _), (1, _), (2, _), (3, _), (4, _), (5, _)]) dX0_makeFirstFrame_93 (by decide) rfl ?_
    refine K.keep [0, 1, 2, 4, 5] ?_
    exact kl_X0_makeFirstFrame_4_95 hQ hE fu ha0 ha1 fu v3 0 0 u1
  · refine K_aload_n dX0_makeFirstFrame_38 rfl rfl ?_
    refine K_getC hE dX0_makeFirstFrame_39 f_X0_25_4 ha0 rfl rfl (fun h26 => ?_)
    refine K_getC hE dX0_makeFirstFrame_42 f_X0_75_7 h26 rfl rfl (fun h27 => ?_)
    refine K_iload_n dX0_makeFirstFrame_45 rfl rfl ?_
    refine K_chk (fun h28 => ?_)
    refine K_iald dX0_makeFirstFrame_46 h27 h28 ?_
    refine K_iconst (v := 2) dX0_makeFirstFrame_47 (by decide) ?_
    refine K_icmp_ne (tgt := 60) dX0_makeFirstFrame_48 (by decide) (fun c36 => ?_) (fun c36 => ?_)
    · refine K_iconst (v := 0) dX0_makeFirstFrame_60 (by decide) ?_
      refine K.keep [0, 1, 2, 3] ?_
      exact kj_X0_makeFirstFrame_4_61 hQ hE fu ha0 ha1 v3 v7 0 u1
    · refine K_iload_n dX0_makeFirstFrame_51 rfl rfl ?_
      refine K_iconst (v := 2) dX0_makeFirstFrame_52 (by decide) ?_
      refine K_icmp_eq (tgt := 60) dX0_makeFirstFrame_53 (by decide) (fun c35 => ?_) (fun c35 => ?_)
      · refine K_iconst (v := 0) dX0_makeFirstFrame_60 (by decide) ?_
        refine K.keep [0, 1, 2, 3] ?_
        exact kj_X0_makeFirstFrame_4_61 hQ hE fu ha0 ha1 v3 v7 0 u1
      · refine K_iconst (v := 1) dX0_makeFirstFrame_56 (by decide) ?_
        refine K_goto (tgt := 61) dX0_makeFirstFrame_57 (by decide) ?_
        refine K.keep [0, 1, 2, 3] ?_
        exact kj_X0_makeFirstFrame_4_61 hQ hE fu ha0 ha1 v3 v7 1 u1
