/-! the constructors -/
section CT
variable {E0 E E1 E2 : Ev} {S0 S S1 S2 : St} {L : List Nat} {q a b : Nat} {t : Tp}
theorem ext_none (hx : Ext E0 E) (hq : E.1 q = none) : E0.1 q = none := by
  cases h : E0.1 q with
  | none => rfl
  | some u => rw [hx _ _ h] at hq; cases hq
theorem ne_new (h : E.1 a = some t) (hq : E.1 q = none) : a ≠ q := fun e => by rw [e, hq] at h; cases h
theorem ne_ty {t1 t2 : Tp} (h1 : E.1 a = some t1) (h2 : E.1 b = some t2) (h : t1 ≠ t2) : a ≠ b := fun e => by
  subst e
  exact h (Option.some.inj (h1.symm.trans h2))
theorem nz0 (hb : Bs E) (h : E.1 b = some t) : b ≠ 0 := fun e => by rw [e, hb.1] at h; cases h
/-- what a step keeps of all objects but a -/
def Tr (E : Ev) (S : St) (E1 : Ev) (S1 : St) (P : Nat → Prop) : Prop := Ext E E1 ∧ (∀ ci x l li, P x → Obj ci x l li E S → Obj ci x l li E1 S1) ∧ (∀ z N, E.1 z = some (1, 0, N) → S1.2.1 z = S.2.1 z) ∧ ∀ z N, E.1 z = some (1, 3, N) → E1.2 z = E.2 z
theorem iv_arr {N : Nat} (h : Iv E0 S0 L E S) (ha : E0.1 a = none) (ht : E.1 a = some (1, 0, N)) (h1 : S1.1 = S.1) (h2 : S1.2.2 = S.2.2) (h3 : ∀ z, z ≠ a → S1.2.1 z = S.2.1 z) : Iv E0 S0 L E S1 := by
  obtain ⟨hb, hx, hk, hf, hu⟩ := h
  have sm : ∀ z, z ≠ a → sameS S1 S z := fun z hz => ⟨by rw [h1], h3 z hz, by rw [h2], by rw [h2]⟩
  refine ⟨hb, hx, fun z u h1 h2 => ⟨(hk z u h1 h2).1, sameS_trans (sm z (fun e => by rw [e, ha] at h1; cases h1)) (hk z u h1 h2).2⟩, fun z u h1 h2 h3 => ?_, hu⟩
  by_cases e : z = a
  · subst e
    cases h1.symm.trans ht
    exact ⟨fun h => (by cases h), fun _ h => (by cases h), fun _ h => (by cases h)⟩
  · exact ful_ext (E := E) (fun _ _ h => h) rfl (sm z e) (hf z u h1 h2 h3)
theorem ob_S {ci : Nat} {l : List (Nat × Nat)} {li : List (Nat × Int32)} (h : Obj ci a l li E S) (h1 : S1.1 = S.1) : Obj ci a l li E S1 := ⟨h.1, h.2.1, by rw [h1]; exact h.2.2.1, h.2.2.2⟩
/-- behind a constructor's call: the new object is whole -/
theorem ac (I : Iv E0 S0 L E S) (hq : E.1 q = none) (h0 : q ≠ 0) (g : Iv (eN E q t) (sN S q) [q] E2 S2) (hf : Ful E2 S2 q t) : Iv E0 S0 L E2 S2 ∧ Unown E2 q ∧ E2.1 q = some t ∧ Tr E S E2 S2 (fun _ => True) ∧ E0.1 q = none := by
  obtain ⟨I1, U1⟩ := iv_new (t := t) I hq h0
  have hq0 := ext_none I.2.1 hq
  refine ⟨iv_drop (iv_call I1 g List.mem_cons_self) (g.2.1 _ _ eN1s) hq0 hf, g.2.2.2.2 q _ eN1s U1, g.2.1 _ _ eN1s, ⟨fun z u h => g.2.1 _ _ (Ext_eN hq _ _ h), fun ci x l li _ ho => ob_call (ob_new ho hq) g (ne_new ho.1 hq), fun z N h => ?_, fun z N h => ?_⟩, hq0⟩
  · have hz : z ≠ q := ne_new h hq
    rw [(g.2.2.1 z _ (Ext_eN hq _ _ h) (fun e => hz (List.mem_singleton.mp e))).2.2.1, sN2n hz]
  · have hz : z ≠ q := ne_new h hq
    rw [(g.2.2.1 z _ (Ext_eN hq _ _ h) (fun e => hz (List.mem_singleton.mp e))).1, eN2n hz]
theorem osl_o {ci j : Nat} {u : Tp} (hf : (ftab ci)[j]? = some (some u)) : osl (some (0, ci, 0)) j = (u.1 == 1 || u == (0, 2, 0)) := by simp [osl, hf]
variable {M : Mt} {X : Cx} {pc : Nat} {ls ls' : List (Nat × Value)} {st : List Value} {k n : Nat} {ci : Nat} {l : List (Nat × Nat)} {li : List (Nat × Int32)}
theorem jn_farr {fin : Bool} {j kd N i : Nat} {ty : FieldType} {at' : ArrayType} {v : Int32} (I : Iv E0 S0 L E S) (O : Obj ci a l li E S) (haL : a ∈ L) (hj : vl l j = 0) (hf : (ftab ci)[j]? = some (some (1, kd, N))) (hc : (ctab ci)[j]? = some 2) (hd : decode M.2.1 pc = .ok (.newarray at', 2)) (hty : newarray.typeOf at' = ty) (hkd : (kd = 0 ∧ ty = .int) ∨ (kd = 1 ∧ ty = .boolean)) (hg : Cond.arrayClass ty ∈ GW) (hv : ¬ v < 0) (hN : v.toNatClampNeg = N) (hsm : N ≤ 10000) (hk : k + 1 ≤ M.2.2.2.2.2.cells) (hn : n + N ≤ M.2.2.2.2.2.slots) (hd2 : decode M.2.1 (pc + 2) = .ok (.putfield i, 3)) (hF : PL fin M.1.cls i ci j (.array ty)) (hin : M.1.name = "<init>")
    (kk : ∀ (E1 : Ev) (S1 : St) (q : Nat), Iv E0 S0 L E1 S1 → Obj ci a ((j, q) :: l) li E1 S1 → Tr E S E1 S1 (fun x => x ≠ a) → E.1 q = none → E1.1 q = some (1, kd, N) → J M X (pc + 2 + 3) ls st (hp E1 S1) (k + 1) (n + N)) : J M X pc ls (.int v :: .ref a :: st) (hp E S) k n := by
  refine JN_arr (kd := kd) (N := N) hd hty (by rcases hkd with h | h; exact Or.inl h; exact Or.inr (Or.inl h)) hg hv hN hsm hk hn (Or.inl ⟨a, _, hp_o O.1⟩) (fun q hq h0 => ?_)
  obtain ⟨I1, U1⟩ := iv_new (t := (1, kd, N)) I hq h0
  have hq0 := ext_none I.2.1 hq
  have I2 : Iv E0 S0 L (eN E q (1, kd, N)) (sN S q) := iv_drop I1 eN1s hq0 ⟨fun h => (by cases h), fun _ h => by
    have h' : kd = 3 := h
    rcases hkd with ⟨e, -⟩ | ⟨e, -⟩ <;> omega, fun _ _ => sN2s⟩
  have O1 := ob_new (t := (1, kd, N)) O hq
  refine JN_putC hd2 hF hin O1.1 hc h0 rfl rfl ?_
  have P := iv_putC (j := j) I2 haL O1.1 (by rw [O1.2.1]; exact hj) h0 (by rw [eN1s]; exact fun h => by cases h) (fun _ => ⟨U1, hq0⟩)
  exact kk _ _ q P.1 (ob_put O1 hf eN1s) ⟨fun z u hz => Ext_eN hq z u hz, fun ci' a' l' li' ha' ho => ob_putO (ob_new ho hq) (Ne.symm ha'), fun z N h => sN2n (ne_new h hq), fun z N h => by
    funext i
    exact (up2_n _ _ (fun e => absurd e.1 (ne_ty h O.1 (by simp)))).trans (congrFun (eN2n (ne_new h hq)) i)⟩ hq eN1s
theorem jn_fput {fin : Bool} {j i : Nat} {u : Tp} {C : String} (I : Iv E0 S0 L E S) (O : Obj ci a l li E S) (haL : a ∈ L) (hj : vl l j = 0) (hf : (ftab ci)[j]? = some (some u)) (hc : (ctab ci)[j]? = some 2) (hb : E.1 b = some u) (ho : (u.1 == 1 || u == (0, 2, 0)) = true → Unown E b ∧ E0.1 b = none) (hd : decode M.2.1 pc = .ok (.putfield i, 3)) (hF : PL fin M.1.cls i ci j (.object C)) (hin : M.1.name = "<init>")
    (kk : ∀ (E1 : Ev), Iv E0 S0 L E1 S → Obj ci a ((j, b) :: l) li E1 S → Tr E S E1 S (fun x => x ≠ a) → J M X (pc + 3) ls st (hp E1 S) k n) : J M X pc ls (.ref b :: .ref a :: st) (hp E S) k n := by
  have hb0 := nz0 I.1 hb
  refine JN_putC hd hF hin O.1 hc hb0 rfl rfl ?_
  have P := iv_putC (j := j) I haL O.1 (by rw [O.2.1]; exact hj) hb0 (by rw [hb]; exact fun h => by cases h) (fun h => ho (by rw [← osl_o hf]; exact h))
  exact kk _ P.1 (ob_put O hf hb) ⟨fun z u hz => hz, fun ci' a' l' li' ha' ho => ob_putO ho (Ne.symm ha'), fun z N h => rfl, fun z N h => by funext i; exact up2_n _ _ (fun e => absurd e.1 (ne_ty h O.1 (by simp)))⟩
theorem jn_fint {j i : Nat} {x : Int32} (I : Iv E0 S0 L E S) (O : Obj ci a l li E S) (haL : a ∈ L) (hc : (ctab ci)[j]? = some 0) (hd : decode M.2.1 pc = .ok (.putfield i, 3)) (hF : PL false M.1.cls i ci j .int)
    (kk : ∀ (S1 : St), Iv E0 S0 L E S1 → Obj ci a l ((j, x) :: li) E S1 → Tr E S E S1 (fun x => x ≠ a) → J M X (pc + 3) ls st (hp E S1) k n) : J M X pc ls (.int x :: .ref a :: st) (hp E S) k n := by
  refine JN_putI hd hF O.1 hc ?_
  refine kk _ (iv_sF I haL) (ob_sF O) ⟨fun z u hz => hz, fun ci' a' l' li' ha' ho => ⟨ho.1, ho.2.1, ?_, ho.2.2.2⟩, fun z N h => rfl, fun z N h => rfl⟩
  rw [← ho.2.2.1]
  funext z
  exact up2_n _ _ (fun e => ha' e.1)
theorem jn_fM {j i : Nat} {C : String} (I : Iv E0 S0 L E S) (O : Obj ci a l li E S) (haL : a ∈ L) (hc : (ctab ci)[j]? = some 1) (hb : b ≠ 0) (hd : decode M.2.1 pc = .ok (.putfield i, 3)) (hF : PL false M.1.cls i ci j (.object C))
    (kk : ∀ (S1 : St), Iv E0 S0 L E S1 → Obj ci a l li E S1 → Tr E S E S1 (fun _ => True) → J M X (pc + 3) ls st (hp E S1) k n) : J M X pc ls (.ref b :: .ref a :: st) (hp E S) k n := by
  refine JN_putM hb hd hF O.1 hc ?_
  exact kk _ (iv_sR I haL) (ob_sR O) ⟨fun z u hz => hz, fun ci' a' l' li' _ ho => ho, fun z N h => rfl, fun z N h => rfl⟩
end CT
abbrev mX1_init : Mt := (yX1_init, cX1_init, 1, none, [], { frames := 1, cells := 6, slots := 240, locals := 20 })
abbrev mX2_init : Mt := (yX2_init, cX2_init, 4, none, [], { frames := 1, cells := 0, slots := 0, locals := 20 })
abbrev mX3_init : Mt := (yX3_init, cX3_init, 1, none, [], { frames := 1, cells := 2, slots := 24, locals := 20 })
abbrev mX4_init : Mt := (yX4_init, cX4_init, 2, none, [], { frames := 2, cells := 302, slots := 3000, locals := 40 })
abbrev mX7_init : Mt := (yX7_init, cX7_init, 4, none, [], { frames := 2, cells := 3, slots := 28, locals := 40 })
abbrev mX0_init : Mt := (yX0_init, cX0_init, 4, none, [], { frames := 3, cells := 11, slots := 93, locals := 63 })
abbrev mX5_init : Mt := (yX5_init, cX5_init, 5, none, [], { frames := 4, cells := 12, slots := 193, locals := 86 })
abbrev mX6_init : Mt := (yX6_init, cX6_init, 5, none, [], { frames := 4, cells := 11, slots := 93, locals := 86 })
abbrev mX8_init : Mt := (yX8_init, cX8_init, 1, none, [], { frames := 1, cells := 9, slots := 396, locals := 20 })
abbrev mX10_init : Mt := (yX10_init, cX10_init, 2, none, [], { frames := 1, cells := 2, slots := 40, locals := 20 })
abbrev mX11_init : Mt := (yX11_init, cX11_init, 1, none, [], { frames := 5, cells := 654, slots := 7045, locals := 110 })
theorem cl_X4_9 : Cond.classLink RX4 9 "CodeVerifier$Frame" ∈ GW := gw (i := 271) (by decide +kernel) (by decide +kernel)
theorem cl_X3_init : CL mX3_init 0 := ⟨rfl, gw (i := 228) (by decide +kernel) (by decide +kernel), gw (i := 48) (by decide +kernel) (by decide +kernel), by decide +kernel, by decide +kernel⟩
theorem cl_X2_init : CL mX2_init 3 := ⟨rfl, gw (i := 303) (by decide +kernel) (by decide +kernel), gw (i := 52) (by decide +kernel) (by decide +kernel), by decide +kernel, by decide +kernel⟩
theorem cl_X7_init : CL mX7_init 3 := ⟨rfl, gw (i := 323) (by decide +kernel) (by decide +kernel), gw (i := 53) (by decide +kernel) (by decide +kernel), by decide +kernel, by decide +kernel⟩
theorem cl_X0_init : CL mX0_init 3 := ⟨rfl, gw (i := 295) (by decide +kernel) (by decide +kernel), gw (i := 50) (by decide +kernel) (by decide +kernel), by decide +kernel, by decide +kernel⟩
theorem cl_X10_init : CL mX10_init 0 := ⟨rfl, gw (i := 77) (by decide +kernel) (by decide +kernel), gw (i := 45) (by decide +kernel) (by decide +kernel), by decide +kernel, by decide +kernel⟩
theorem cl_X8_init : CL mX8_init 0 := ⟨rfl, gw (i := 97) (by decide +kernel) (by decide +kernel), gw (i := 46) (by decide +kernel) (by decide +kernel), by decide +kernel, by decide +kernel⟩
theorem cl_X1_init : CL mX1_init 0 := ⟨rfl, gw (i := 155) (by decide +kernel) (by decide +kernel), gw (i := 47) (by decide +kernel) (by decide +kernel), by decide +kernel, by decide +kernel⟩
theorem cl_X4_init : CL mX4_init 0 := ⟨rfl, gw (i := 269) (by decide +kernel) (by decide +kernel), gw (i := 49) (by decide +kernel) (by decide +kernel), by decide +kernel, by decide +kernel⟩
theorem cl_X5_init : CL mX5_init 4 := ⟨rfl, gw (i := 292) (by decide +kernel) (by decide +kernel), gw (i := 51) (by decide +kernel) (by decide +kernel), by decide +kernel, by decide +kernel⟩
theorem cl_X6_init : CL mX6_init 4 := ⟨rfl, gw (i := 402) (by decide +kernel) (by decide +kernel), gw (i := 54) (by decide +kernel) (by decide +kernel), by decide +kernel, by decide +kernel⟩
theorem cl_X11_init : CL mX11_init 0 := ⟨rfl, gw (i := 69) (by decide +kernel) (by decide +kernel), gw (i := 44) (by decide +kernel) (by decide +kernel), by decide +kernel, by decide +kernel⟩
theorem ol_X1_3 : OL RX1 3 := ⟨gw (i := 156) (by decide +kernel) (by decide +kernel), gw (i := 71) (by decide +kernel) (by decide +kernel), gw (i := 72) (by decide +kernel) (by decide +kernel)⟩
theorem p_X1_9_0 : PL true RX1 9 0 4 ((.array .int)) := ⟨RX1, TX1, 12, "CodeVerifier$Code", tyX1, rfl, by decide, ig_X1, gw (i := 169) (by decide +kernel) (by decide +kernel), Or.inl rfl, rfl, by decide +kernel, tyX1_ok, nmX1, fun _ => rfl⟩
theorem p_X1_15_0 : PL true RX1 15 0 5 ((.array .int)) := ⟨RX1, TX1, 12, "CodeVerifier$Code", tyX1, rfl, by decide, ig_X1, gw (i := 175) (by decide +kernel) (by decide +kernel), Or.inl rfl, rfl, by decide +kernel, tyX1_ok, nmX1, fun _ => rfl⟩
theorem p_X1_18_0 : PL true RX1 18 0 7 ((.array .int)) := ⟨RX1, TX1, 12, "CodeVerifier$Code", tyX1, rfl, by decide, ig_X1, gw (i := 185) (by decide +kernel) (by decide +kernel), Or.inl rfl, rfl, by decide +kernel, tyX1_ok, nmX1, fun _ => rfl⟩
theorem p_X1_21_0 : PL true RX1 21 0 8 ((.array .int)) := ⟨RX1, TX1, 12, "CodeVerifier$Code", tyX1, rfl, by decide, ig_X1, gw (i := 187) (by decide +kernel) (by decide +kernel), Or.inl rfl, rfl, by decide +kernel, tyX1_ok, nmX1, fun _ => rfl⟩
theorem p_X1_24_0 : PL true RX1 24 0 9 ((.array .int)) := ⟨RX1, TX1, 12, "CodeVerifier$Code", tyX1, rfl, by decide, ig_X1, gw (i := 189) (by decide +kernel) (by decide +kernel), Or.inl rfl, rfl, by decide +kernel, tyX1_ok, nmX1, fun _ => rfl⟩
theorem p_X1_27_0 : PL true RX1 27 0 10 ((.array .int)) := ⟨RX1, TX1, 12, "CodeVerifier$Code", tyX1, rfl, by decide, ig_X1, gw (i := 193) (by decide +kernel) (by decide +kernel), Or.inl rfl, rfl, by decide +kernel, tyX1_ok, nmX1, fun _ => rfl⟩
theorem ol_X2_3 : OL RX2 3 := ⟨gw (i := 304) (by decide +kernel) (by decide +kernel), gw (i := 71) (by decide +kernel) (by decide +kernel), gw (i := 72) (by decide +kernel) (by decide +kernel)⟩
theorem p_X2_9_1 : PL true RX2 9 1 0 (.object "CodeVerifier$Types") := ⟨RX2, TX2, 4, "CodeVerifier$Examination", tyX2, rfl, by decide, ig_X2, gw (i := 305) (by decide +kernel) (by decide +kernel), Or.inl rfl, rfl, by decide +kernel, tyX2_ok, nmX2, fun _ => rfl⟩
theorem p_X2_15_1 : PL true RX2 15 1 1 (.object "CodeVerifier$Members") := ⟨RX2, TX2, 4, "CodeVerifier$Examination", tyX2, rfl, by decide, ig_X2, gw (i := 306) (by decide +kernel) (by decide +kernel), Or.inl rfl, rfl, by decide +kernel, tyX2_ok, nmX2, fun _ => rfl⟩
theorem p_X2_19_1 : PL true RX2 19 1 2 (.object "CodeVerifier$Code") := ⟨RX2, TX2, 4, "CodeVerifier$Examination", tyX2, rfl, by decide, ig_X2, gw (i := 307) (by decide +kernel) (by decide +kernel), Or.inl rfl, rfl, by decide +kernel, tyX2_ok, nmX2, fun _ => rfl⟩
theorem ol_X3_3 : OL RX3 3 := ⟨gw (i := 229) (by decide +kernel) (by decide +kernel), gw (i := 71) (by decide +kernel) (by decide +kernel), gw (i := 72) (by decide +kernel) (by decide +kernel)⟩
theorem p_X3_9_2 : PL true RX3 9 2 0 ((.array .int)) := ⟨RX3, TX3, 4, "CodeVerifier$Frame", tyX3, rfl, by decide, ig_X3, gw (i := 230) (by decide +kernel) (by decide +kernel), Or.inl rfl, rfl, by decide +kernel, tyX3_ok, nmX3, fun _ => rfl⟩
theorem p_X3_15_2 : PL true RX3 15 2 1 ((.array .int)) := ⟨RX3, TX3, 4, "CodeVerifier$Frame", tyX3, rfl, by decide, ig_X3, gw (i := 236) (by decide +kernel) (by decide +kernel), Or.inl rfl, rfl, by decide +kernel, tyX3_ok, nmX3, fun _ => rfl⟩
theorem p_X4_11_3 : PL true RX4 11 3 0 ((.array (.object "CodeVerifier$Frame"))) := ⟨RX4, TX4, 3, "CodeVerifier$FrameTable", tyX4, rfl, by decide, ig_X4, gw (i := 274) (by decide +kernel) (by decide +kernel), Or.inl rfl, rfl, by decide +kernel, tyX4_ok, nmX4, fun _ => rfl⟩
theorem p_X4_17_3 : PL true RX4 17 3 1 ((.array .boolean)) := ⟨RX4, TX4, 3, "CodeVerifier$FrameTable", tyX4, rfl, by decide, ig_X4, gw (i := 278) (by decide +kernel) (by decide +kernel), Or.inl rfl, rfl, by decide +kernel, tyX4_ok, nmX4, fun _ => rfl⟩
theorem nl_X4_9 : NL RX4 9 2 (dfl (ctab 2)) := ⟨RX3, TX3, 4, tyX3, rfl, ig_X3, tyX3_ok, gw (i := 271) (by decide +kernel) (by decide +kernel), gw (i := 225) (by decide +kernel) (by decide +kernel), gw (i := 48) (by decide +kernel) (by decide +kernel), by decide +kernel, rfl⟩
theorem i_X4_21 : IL RX4 21 mX3_init 0 := ⟨cl_X3_init, Or.inr ⟨"CodeVerifier", List.mem_filter.mpr ⟨List.mem_of_getElem? (i := 269) (by decide +kernel), rfl⟩⟩, gw (i := 227) (by decide +kernel) (by decide +kernel), rfl, rfl⟩
theorem ol_X4_3 : OL RX4 3 := ⟨gw (i := 270) (by decide +kernel) (by decide +kernel), gw (i := 71) (by decide +kernel) (by decide +kernel), gw (i := 72) (by decide +kernel) (by decide +kernel)⟩
theorem ol_X7_3 : OL RX7 3 := ⟨gw (i := 324) (by decide +kernel) (by decide +kernel), gw (i := 71) (by decide +kernel) (by decide +kernel), gw (i := 72) (by decide +kernel) (by decide +kernel)⟩
theorem p_X7_9_6 : PL true RX7 9 6 0 (.object "CodeVerifier$Types") := ⟨RX7, TX7, 5, "CodeVerifier$Machine", tyX7, rfl, by decide, ig_X7, gw (i := 327) (by decide +kernel) (by decide +kernel), Or.inl rfl, rfl, by decide +kernel, tyX7_ok, nmX7, fun _ => rfl⟩
theorem p_X7_15_6 : PL true RX7 15 6 1 (.object "CodeVerifier$Members") := ⟨RX7, TX7, 5, "CodeVerifier$Machine", tyX7, rfl, by decide, ig_X7, gw (i := 328) (by decide +kernel) (by decide +kernel), Or.inl rfl, rfl, by decide +kernel, tyX7_ok, nmX7, fun _ => rfl⟩
theorem p_X7_19_6 : PL true RX7 19 6 2 (.object "CodeVerifier$Code") := ⟨RX7, TX7, 5, "CodeVerifier$Machine", tyX7, rfl, by decide, ig_X7, gw (i := 329) (by decide +kernel) (by decide +kernel), Or.inl rfl, rfl, by decide +kernel, tyX7_ok, nmX7, fun _ => rfl⟩
theorem nl_X7_23 : NL RX7 23 2 (dfl (ctab 2)) := ⟨RX3, TX3, 4, tyX3, rfl, ig_X3, tyX3_ok, gw (i := 325) (by decide +kernel) (by decide +kernel), gw (i := 225) (by decide +kernel) (by decide +kernel), gw (i := 48) (by decide +kernel) (by decide +kernel), by decide +kernel, rfl⟩
theorem i_X7_25 : IL RX7 25 mX3_init 0 := ⟨cl_X3_init, Or.inr ⟨"CodeVerifier", List.mem_filter.mpr ⟨List.mem_of_getElem? (i := 322) (by decide +kernel), rfl⟩⟩, gw (i := 227) (by decide +kernel) (by decide +kernel), rfl, rfl⟩
theorem ol_X0_3 : OL RX0 3 := ⟨gw (i := 296) (by decide +kernel) (by decide +kernel), gw (i := 71) (by decide +kernel) (by decide +kernel), gw (i := 72) (by decide +kernel) (by decide +kernel)⟩
theorem nl_X0_9 : NL RX0 9 2 (dfl (ctab 2)) := ⟨RX3, TX3, 4, tyX3, rfl, ig_X3, tyX3_ok, gw (i := 297) (by decide +kernel) (by decide +kernel), gw (i := 225) (by decide +kernel) (by decide +kernel), gw (i := 48) (by decide +kernel) (by decide +kernel), by decide +kernel, rfl⟩
theorem i_X0_11 : IL RX0 11 mX3_init 0 := ⟨cl_X3_init, Or.inr ⟨"CodeVerifier", List.mem_filter.mpr ⟨List.mem_of_getElem? (i := 294) (by decide +kernel), rfl⟩⟩, gw (i := 227) (by decide +kernel) (by decide +kernel), rfl, rfl⟩
theorem p_X0_12_4 : PL true RX0 12 4 2 (.object "CodeVerifier$Frame") := ⟨RX5, TX5, 11, "CodeVerifier$Analysis", tyX5, rfl, by decide, ig_X5, gw (i := 355) (by decide +kernel) (by decide +kernel), Or.inl rfl, rfl, by decide +kernel, tyX5_ok, nmX5, fun _ => rfl⟩
theorem p_X0_18_4 : PL true RX0 18 4 8 (.object "CodeVerifier$Frame") := ⟨RX5, TX5, 11, "CodeVerifier$Analysis", tyX5, rfl, by decide, ig_X5, gw (i := 374) (by decide +kernel) (by decide +kernel), Or.inl rfl, rfl, by decide +kernel, tyX5_ok, nmX5, fun _ => rfl⟩
theorem p_X0_21_4 : PL true RX0 21 4 1 (.object "CodeVerifier$Types") := ⟨RX5, TX5, 11, "CodeVerifier$Analysis", tyX5, rfl, by decide, ig_X5, gw (i := 350) (by decide +kernel) (by decide +kernel), Or.inl rfl, rfl, by decide +kernel, tyX5_ok, nmX5, fun _ => rfl⟩
theorem p_X0_25_4 : PL true RX0 25 4 5 (.object "CodeVerifier$Members") := ⟨RX5, TX5, 11, "CodeVerifier$Analysis", tyX5, rfl, by decide, ig_X5, gw (i := 371) (by decide +kernel) (by decide +kernel), Or.inl rfl, rfl, by decide +kernel, tyX5_ok, nmX5, fun _ => rfl⟩
theorem p_X0_29_4 : PL true RX0 29 4 0 (.object "CodeVerifier$Code") := ⟨RX5, TX5, 11, "CodeVerifier$Analysis", tyX5, rfl, by decide, ig_X5, gw (i := 345) (by decide +kernel) (by decide +kernel), Or.inl rfl, rfl, by decide +kernel, tyX5_ok, nmX5, fun _ => rfl⟩
theorem nl_X0_33 : NL RX0 33 1 (dfl (ctab 1)) := ⟨RX2, TX2, 4, tyX2, rfl, ig_X2, tyX2_ok, gw (i := 299) (by decide +kernel) (by decide +kernel), gw (i := 300) (by decide +kernel) (by decide +kernel), gw (i := 52) (by decide +kernel) (by decide +kernel), by decide +kernel, rfl⟩
theorem i_X0_35 : IL RX0 35 mX2_init 3 := ⟨cl_X2_init, Or.inl (gw (i := 301) (by decide +kernel) (by decide +kernel)), gw (i := 302) (by decide +kernel) (by decide +kernel), rfl, rfl⟩
theorem p_X0_38_4 : PL true RX0 38 4 6 (.object "CodeVerifier$Examination") := ⟨RX5, TX5, 11, "CodeVerifier$Analysis", tyX5, rfl, by decide, ig_X5, gw (i := 372) (by decide +kernel) (by decide +kernel), Or.inl rfl, rfl, by decide +kernel, tyX5_ok, nmX5, fun _ => rfl⟩
theorem nl_X0_42 : NL RX0 42 6 (dfl (ctab 6)) := ⟨RX7, TX7, 5, tyX7, rfl, ig_X7, tyX7_ok, gw (i := 319) (by decide +kernel) (by decide +kernel), gw (i := 320) (by decide +kernel) (by decide +kernel), gw (i := 53) (by decide +kernel) (by decide +kernel), by decide +kernel, rfl⟩
theorem i_X0_44 : IL RX0 44 mX7_init 3 := ⟨cl_X7_init, Or.inl (gw (i := 321) (by decide +kernel) (by decide +kernel)), gw (i := 322) (by decide +kernel) (by decide +kernel), rfl, rfl⟩
theorem p_X0_45_4 : PL true RX0 45 4 7 (.object "CodeVerifier$Machine") := ⟨RX5, TX5, 11, "CodeVerifier$Analysis", tyX5, rfl, by decide, ig_X5, gw (i := 373) (by decide +kernel) (by decide +kernel), Or.inl rfl, rfl, by decide +kernel, tyX5_ok, nmX5, fun _ => rfl⟩
theorem p_X0_12_5 : PL true RX0 12 5 2 (.object "CodeVerifier$Frame") := ⟨RX6, TX6, 10, "CodeVerifier$Analysis", tyX6, rfl, by decide, ig_X6, gw (i := 355) (by decide +kernel) (by decide +kernel), Or.inl rfl, rfl, by decide +kernel, tyX6_ok, nmX6, fun _ => rfl⟩
theorem p_X0_18_5 : PL true RX0 18 5 8 (.object "CodeVerifier$Frame") := ⟨RX6, TX6, 10, "CodeVerifier$Analysis", tyX6, rfl, by decide, ig_X6, gw (i := 374) (by decide +kernel) (by decide +kernel), Or.inl rfl, rfl, by decide +kernel, tyX6_ok, nmX6, fun _ => rfl⟩
theorem p_X0_21_5 : PL true RX0 21 5 1 (.object "CodeVerifier$Types") := ⟨RX6, TX6, 10, "CodeVerifier$Analysis", tyX6, rfl, by decide, ig_X6, gw (i := 350) (by decide +kernel) (by decide +kernel), Or.inl rfl, rfl, by decide +kernel, tyX6_ok, nmX6, fun _ => rfl⟩
theorem p_X0_25_5 : PL true RX0 25 5 5 (.object "CodeVerifier$Members") := ⟨RX6, TX6, 10, "CodeVerifier$Analysis", tyX6, rfl, by decide, ig_X6, gw (i := 371) (by decide +kernel) (by decide +kernel), Or.inl rfl, rfl, by decide +kernel, tyX6_ok, nmX6, fun _ => rfl⟩
theorem p_X0_29_5 : PL true RX0 29 5 0 (.object "CodeVerifier$Code") := ⟨RX6, TX6, 10, "CodeVerifier$Analysis", tyX6, rfl, by decide, ig_X6, gw (i := 345) (by decide +kernel) (by decide +kernel), Or.inl rfl, rfl, by decide +kernel, tyX6_ok, nmX6, fun _ => rfl⟩
theorem p_X0_38_5 : PL true RX0 38 5 6 (.object "CodeVerifier$Examination") := ⟨RX6, TX6, 10, "CodeVerifier$Analysis", tyX6, rfl, by decide, ig_X6, gw (i := 372) (by decide +kernel) (by decide +kernel), Or.inl rfl, rfl, by decide +kernel, tyX6_ok, nmX6, fun _ => rfl⟩
theorem p_X0_45_5 : PL true RX0 45 5 7 (.object "CodeVerifier$Machine") := ⟨RX6, TX6, 10, "CodeVerifier$Analysis", tyX6, rfl, by decide, ig_X6, gw (i := 373) (by decide +kernel) (by decide +kernel), Or.inl rfl, rfl, by decide +kernel, tyX6_ok, nmX6, fun _ => rfl⟩
theorem i_X5_3 : IL RX5 3 mX0_init 3 := ⟨cl_X0_init, Or.inl (gw (i := 293) (by decide +kernel) (by decide +kernel)), gw (i := 294) (by decide +kernel) (by decide +kernel), rfl, rfl⟩
theorem p_X5_9_4 : PL true RX5 9 4 10 ((.array .boolean)) := ⟨RX5, TX5, 11, "CodeVerifier$Inference", tyX5, rfl, by decide, ig_X5, gw (i := 344) (by decide +kernel) (by decide +kernel), Or.inl rfl, rfl, by decide +kernel, tyX5_ok, nmX5, fun _ => rfl⟩
theorem p_X5_15_4 : PL true RX5 15 4 9 (.object "CodeVerifier$FrameTable") := ⟨RX5, TX5, 11, "CodeVerifier$Inference", tyX5, rfl, by decide, ig_X5, gw (i := 343) (by decide +kernel) (by decide +kernel), Or.inl rfl, rfl, by decide +kernel, tyX5_ok, nmX5, fun _ => rfl⟩
theorem i_X6_3 : IL RX6 3 mX0_init 3 := ⟨cl_X0_init, Or.inl (gw (i := 403) (by decide +kernel) (by decide +kernel)), gw (i := 294) (by decide +kernel) (by decide +kernel), rfl, rfl⟩
theorem p_X6_9_5 : PL true RX6 9 5 9 (.object "CodeVerifier$FrameTable") := ⟨RX6, TX6, 10, "CodeVerifier$LinearCheck", tyX6, rfl, by decide, ig_X6, gw (i := 404) (by decide +kernel) (by decide +kernel), Or.inl rfl, rfl, by decide +kernel, tyX6_ok, nmX6, fun _ => rfl⟩
theorem ol_X8_3 : OL RX8 3 := ⟨gw (i := 98) (by decide +kernel) (by decide +kernel), gw (i := 71) (by decide +kernel) (by decide +kernel), gw (i := 72) (by decide +kernel) (by decide +kernel)⟩
theorem p_X8_9_7 : PL true RX8 9 7 0 ((.array .int)) := ⟨RX8, TX8, 13, "CodeVerifier$Members", tyX8, rfl, by decide, ig_X8, gw (i := 99) (by decide +kernel) (by decide +kernel), Or.inl rfl, rfl, by decide +kernel, tyX8_ok, nmX8, fun _ => rfl⟩
theorem p_X8_15_7 : PL true RX8 15 7 1 ((.array .int)) := ⟨RX8, TX8, 13, "CodeVerifier$Members", tyX8, rfl, by decide, ig_X8, gw (i := 101) (by decide +kernel) (by decide +kernel), Or.inl rfl, rfl, by decide +kernel, tyX8_ok, nmX8, fun _ => rfl⟩
theorem p_X8_18_7 : PL true RX8 18 7 3 ((.array .int)) := ⟨RX8, TX8, 13, "CodeVerifier$Members", tyX8, rfl, by decide, ig_X8, gw (i := 105) (by decide +kernel) (by decide +kernel), Or.inl rfl, rfl, by decide +kernel, tyX8_ok, nmX8, fun _ => rfl⟩
theorem p_X8_21_7 : PL true RX8 21 7 4 ((.array .int)) := ⟨RX8, TX8, 13, "CodeVerifier$Members", tyX8, rfl, by decide, ig_X8, gw (i := 109) (by decide +kernel) (by decide +kernel), Or.inl rfl, rfl, by decide +kernel, tyX8_ok, nmX8, fun _ => rfl⟩
theorem p_X8_24_7 : PL true RX8 24 7 5 ((.array .int)) := ⟨RX8, TX8, 13, "CodeVerifier$Members", tyX8, rfl, by decide, ig_X8, gw (i := 111) (by decide +kernel) (by decide +kernel), Or.inl rfl, rfl, by decide +kernel, tyX8_ok, nmX8, fun _ => rfl⟩
theorem p_X8_27_7 : PL true RX8 27 7 6 ((.array .int)) := ⟨RX8, TX8, 13, "CodeVerifier$Members", tyX8, rfl, by decide, ig_X8, gw (i := 113) (by decide +kernel) (by decide +kernel), Or.inl rfl, rfl, by decide +kernel, tyX8_ok, nmX8, fun _ => rfl⟩
theorem p_X8_30_7 : PL true RX8 30 7 7 ((.array .int)) := ⟨RX8, TX8, 13, "CodeVerifier$Members", tyX8, rfl, by decide, ig_X8, gw (i := 116) (by decide +kernel) (by decide +kernel), Or.inl rfl, rfl, by decide +kernel, tyX8_ok, nmX8, fun _ => rfl⟩
theorem p_X8_33_7 : PL true RX8 33 7 8 ((.array .int)) := ⟨RX8, TX8, 13, "CodeVerifier$Members", tyX8, rfl, by decide, ig_X8, gw (i := 117) (by decide +kernel) (by decide +kernel), Or.inl rfl, rfl, by decide +kernel, tyX8_ok, nmX8, fun _ => rfl⟩
theorem p_X8_36_7 : PL true RX8 36 7 10 ((.array .int)) := ⟨RX8, TX8, 13, "CodeVerifier$Members", tyX8, rfl, by decide, ig_X8, gw (i := 120) (by decide +kernel) (by decide +kernel), Or.inl rfl, rfl, by decide +kernel, tyX8_ok, nmX8, fun _ => rfl⟩
theorem ol_X10_3 : OL RX10 3 := ⟨gw (i := 78) (by decide +kernel) (by decide +kernel), gw (i := 71) (by decide +kernel) (by decide +kernel), gw (i := 72) (by decide +kernel) (by decide +kernel)⟩
theorem p_X10_9_8 : PL true RX10 9 8 0 ((.array .int)) := ⟨RX10, TX10, 3, "CodeVerifier$Types", tyX10, rfl, by decide, ig_X10, gw (i := 79) (by decide +kernel) (by decide +kernel), Or.inl rfl, rfl, by decide +kernel, tyX10_ok, nmX10, fun _ => rfl⟩
theorem p_X10_15_8 : PL true RX10 15 8 1 ((.array .boolean)) := ⟨RX10, TX10, 3, "CodeVerifier$Types", tyX10, rfl, by decide, ig_X10, gw (i := 81) (by decide +kernel) (by decide +kernel), Or.inl rfl, rfl, by decide +kernel, tyX10_ok, nmX10, fun _ => rfl⟩
theorem ol_X11_1 : OL RX11 1 := ⟨gw (i := 70) (by decide +kernel) (by decide +kernel), gw (i := 71) (by decide +kernel) (by decide +kernel), gw (i := 72) (by decide +kernel) (by decide +kernel)⟩
theorem nl_X11_7 : NL RX11 7 8 (dfl (ctab 8)) := ⟨RX10, TX10, 3, tyX10, rfl, ig_X10, tyX10_ok, gw (i := 73) (by decide +kernel) (by decide +kernel), gw (i := 74) (by decide +kernel) (by decide +kernel), gw (i := 45) (by decide +kernel) (by decide +kernel), by decide +kernel, rfl⟩
theorem i_X11_9 : IL RX11 9 mX10_init 0 := ⟨cl_X10_init, Or.inl (gw (i := 75) (by decide +kernel) (by decide +kernel)), gw (i := 76) (by decide +kernel) (by decide +kernel), rfl, rfl⟩
theorem p_X11_10_9 : PL true RX11 10 9 0 (.object "CodeVerifier$Types") := ⟨RX11, TX11, 11, "CodeVerifier", tyX11, rfl, by decide, ig_X11, gw (i := 417) (by decide +kernel) (by decide +kernel), Or.inl rfl, rfl, by decide +kernel, tyX11_ok, nmX11, fun _ => rfl⟩
theorem nl_X11_16 : NL RX11 16 7 (dfl (ctab 7)) := ⟨RX8, TX8, 13, tyX8, rfl, ig_X8, tyX8_ok, gw (i := 93) (by decide +kernel) (by decide +kernel), gw (i := 94) (by decide +kernel) (by decide +kernel), gw (i := 46) (by decide +kernel) (by decide +kernel), by decide +kernel, rfl⟩
theorem i_X11_18 : IL RX11 18 mX8_init 0 := ⟨cl_X8_init, Or.inr ⟨"CodeVerifier", List.mem_filter.mpr ⟨List.mem_of_getElem? (i := 91) (by decide +kernel), rfl⟩⟩, gw (i := 96) (by decide +kernel) (by decide +kernel), rfl, rfl⟩
theorem p_X11_19_9 : PL true RX11 19 9 1 (.object "CodeVerifier$Members") := ⟨RX11, TX11, 11, "CodeVerifier", tyX11, rfl, by decide, ig_X11, gw (i := 418) (by decide +kernel) (by decide +kernel), Or.inl rfl, rfl, by decide +kernel, tyX11_ok, nmX11, fun _ => rfl⟩
theorem nl_X11_23 : NL RX11 23 0 (dfl (ctab 0)) := ⟨RX1, TX1, 12, tyX1, rfl, ig_X1, tyX1_ok, gw (i := 151) (by decide +kernel) (by decide +kernel), gw (i := 152) (by decide +kernel) (by decide +kernel), gw (i := 47) (by decide +kernel) (by decide +kernel), by decide +kernel, rfl⟩
theorem i_X11_25 : IL RX11 25 mX1_init 0 := ⟨cl_X1_init, Or.inr ⟨"CodeVerifier", List.mem_filter.mpr ⟨List.mem_of_getElem? (i := 149) (by decide +kernel), rfl⟩⟩, gw (i := 154) (by decide +kernel) (by decide +kernel), rfl, rfl⟩
theorem p_X11_26_9 : PL true RX11 26 9 2 (.object "CodeVerifier$Code") := ⟨RX11, TX11, 11, "CodeVerifier", tyX11, rfl, by decide, ig_X11, gw (i := 419) (by decide +kernel) (by decide +kernel), Or.inl rfl, rfl, by decide +kernel, tyX11_ok, nmX11, fun _ => rfl⟩
theorem nl_X11_30 : NL RX11 30 2 (dfl (ctab 2)) := ⟨RX3, TX3, 4, tyX3, rfl, ig_X3, tyX3_ok, gw (i := 224) (by decide +kernel) (by decide +kernel), gw (i := 225) (by decide +kernel) (by decide +kernel), gw (i := 48) (by decide +kernel) (by decide +kernel), by decide +kernel, rfl⟩
theorem i_X11_32 : IL RX11 32 mX3_init 0 := ⟨cl_X3_init, Or.inr ⟨"CodeVerifier", List.mem_filter.mpr ⟨List.mem_of_getElem? (i := 222) (by decide +kernel), rfl⟩⟩, gw (i := 227) (by decide +kernel) (by decide +kernel), rfl, rfl⟩
theorem p_X11_33_9 : PL true RX11 33 9 3 (.object "CodeVerifier$Frame") := ⟨RX11, TX11, 11, "CodeVerifier", tyX11, rfl, by decide, ig_X11, gw (i := 420) (by decide +kernel) (by decide +kernel), Or.inl rfl, rfl, by decide +kernel, tyX11_ok, nmX11, fun _ => rfl⟩
theorem f_X11_33_9 : FL RX11 33 9 3 := ⟨RX11, TX11, 11, "CodeVerifier", rfl, by decide, ig_X11, gw (i := 420) (by decide +kernel) (by decide +kernel), Or.inl rfl⟩
theorem v_X11_37 : VL RX11 37 mX3_clear 0 := ⟨cl_X3_clear, gw (i := 261) (by decide +kernel) (by decide +kernel), gw (i := 262) (by decide +kernel) (by decide +kernel), gw (i := 263) (by decide +kernel) (by decide +kernel)⟩
theorem p_X11_40_9 : PL false RX11 40 9 4 (.int) := ⟨RX11, TX11, 11, "CodeVerifier", tyX11, rfl, by decide, ig_X11, gw (i := 421) (by decide +kernel) (by decide +kernel), Or.inl rfl, rfl, by decide +kernel, tyX11_ok, nmX11, fun h => by cases h⟩
theorem nl_X11_44 : NL RX11 44 3 (dfl (ctab 3)) := ⟨RX4, TX4, 3, tyX4, rfl, ig_X4, tyX4_ok, gw (i := 265) (by decide +kernel) (by decide +kernel), gw (i := 266) (by decide +kernel) (by decide +kernel), gw (i := 49) (by decide +kernel) (by decide +kernel), by decide +kernel, rfl⟩
theorem i_X11_46 : IL RX11 46 mX4_init 0 := ⟨cl_X4_init, Or.inl (gw (i := 267) (by decide +kernel) (by decide +kernel)), gw (i := 268) (by decide +kernel) (by decide +kernel), rfl, rfl⟩
theorem p_X11_47_9 : PL true RX11 47 9 5 (.object "CodeVerifier$FrameTable") := ⟨RX11, TX11, 11, "CodeVerifier", tyX11, rfl, by decide, ig_X11, gw (i := 422) (by decide +kernel) (by decide +kernel), Or.inl rfl, rfl, by decide +kernel, tyX11_ok, nmX11, fun _ => rfl⟩
theorem p_X11_51_9 : PL true RX11 51 9 6 (.object "CodeVerifier$FrameTable") := ⟨RX11, TX11, 11, "CodeVerifier", tyX11, rfl, by decide, ig_X11, gw (i := 423) (by decide +kernel) (by decide +kernel), Or.inl rfl, rfl, by decide +kernel, tyX11_ok, nmX11, fun _ => rfl⟩
theorem nl_X11_54 : NL RX11 54 4 (dfl (ctab 4)) := ⟨RX5, TX5, 11, tyX5, rfl, ig_X5, tyX5_ok, gw (i := 288) (by decide +kernel) (by decide +kernel), gw (i := 289) (by decide +kernel) (by decide +kernel), gw (i := 51) (by decide +kernel) (by decide +kernel), by decide +kernel, rfl⟩
theorem i_X11_56 : IL RX11 56 mX5_init 4 := ⟨cl_X5_init, Or.inl (gw (i := 290) (by decide +kernel) (by decide +kernel)), gw (i := 291) (by decide +kernel) (by decide +kernel), rfl, rfl⟩
theorem p_X11_59_9 : PL true RX11 59 9 7 (.object "CodeVerifier$Inference") := ⟨RX11, TX11, 11, "CodeVerifier", tyX11, rfl, by decide, ig_X11, gw (i := 424) (by decide +kernel) (by decide +kernel), Or.inl rfl, rfl, by decide +kernel, tyX11_ok, nmX11, fun _ => rfl⟩
theorem nl_X11_63 : NL RX11 63 5 (dfl (ctab 5)) := ⟨RX6, TX6, 10, tyX6, rfl, ig_X6, tyX6_ok, gw (i := 398) (by decide +kernel) (by decide +kernel), gw (i := 399) (by decide +kernel) (by decide +kernel), gw (i := 54) (by decide +kernel) (by decide +kernel), by decide +kernel, rfl⟩
theorem i_X11_65 : IL RX11 65 mX6_init 4 := ⟨cl_X6_init, Or.inl (gw (i := 400) (by decide +kernel) (by decide +kernel)), gw (i := 401) (by decide +kernel) (by decide +kernel), rfl, rfl⟩
theorem p_X11_66_9 : PL true RX11 66 9 8 (.object "CodeVerifier$LinearCheck") := ⟨RX11, TX11, 11, "CodeVerifier", tyX11, rfl, by decide, ig_X11, gw (i := 425) (by decide +kernel) (by decide +kernel), Or.inl rfl, rfl, by decide +kernel, tyX11_ok, nmX11, fun _ => rfl⟩
theorem ac_i : Cond.arrayClass .int ∈ GW := gw (i := 91) (by decide +kernel) (by decide +kernel)
theorem ac_z : Cond.arrayClass .boolean ∈ GW := gw (i := 92) (by decide +kernel) (by decide +kernel)
theorem nl_L_16 : NL RL 16 9 (dfl (ctab 9)) := ⟨RX11, TX11, 11, tyX11, rfl, ig_X11, tyX11_ok, gw (i := 65) (by decide +kernel) (by decide +kernel), gw (i := 66) (by decide +kernel) (by decide +kernel), gw (i := 44) (by decide +kernel) (by decide +kernel), by decide +kernel, rfl⟩
theorem i_L_30 : IL RL 30 mX11_init 0 := ⟨cl_X11_init, Or.inl (gw (i := 67) (by decide +kernel) (by decide +kernel)), gw (i := 68) (by decide +kernel) (by decide +kernel), rfl, rfl⟩
set_option maxRecDepth 100000 in
theorem n_X1 {l : Launch} {E : Ev} {S : St} {a : Nat} (hb : Bs E) (h0 : E.1 a = some (0, 0, 0)) (hz : E.2 a = fun _ => 0) (hi : S.1 a = fun _ => 0) : Cn l mX1_init [.ref a] (hp E S) (PoN (fun E' S' => Iv E S [a] E' S' ∧ Ful E' S' a (0, 0, 0))) := by
  refine Cn.of (by decide) rfl (Nat.le_of_ble_eq_true rfl) (fun X _ _ hQ => ?_)
  refine (?_ : J mX1_init X 0 [(0, .ref a)] [] (hp E S) 0 0)
  have I0 : Iv E S [a] E S := iv_start hb
  have O0 := ob_first h0 hz hi
  refine J_aload_n dX1_init_0 rfl rfl ?_
  refine J_objInit dX1_init_1 ol_X1_3 (Nat.le_of_ble_eq_true rfl) (Nat.le_of_ble_eq_true rfl) ?_
  refine J_aload_n dX1_init_4 rfl rfl ?_
  refine J_bipush (v := 100) dX1_init_5 (by decide) ?_
  refine jn_farr (j := 4) (kd := 0) (N := 100) I0 O0 List.mem_cons_self rfl rfl rfl dX1_init_7 rfl (by decide) ac_i (by decide) (by decide) (by decide) (Nat.le_of_ble_eq_true rfl) (Nat.le_of_ble_eq_true rfl) dX1_init_9 p_X1_9_0 rfl (fun E1 S2 q3 I4 O5 T6 n7 t8 => ?_)
  refine J_aload_n dX1_init_12 rfl rfl ?_
  refine J_bipush (v := 100) dX1_init_13 (by decide) ?_
  refine jn_farr (j := 5) (kd := 0) (N := 100) I4 O5 List.mem_cons_self rfl rfl rfl dX1_init_15 rfl (by decide) ac_i (by decide) (by decide) (by decide) (Nat.le_of_ble_eq_true rfl) (Nat.le_of_ble_eq_true rfl) dX1_init_17 p_X1_15_0 rfl (fun E9 S10 q11 I12 O13 T14 n15 t16 => ?_)
  have g17 := T14.1 _ _ t8
  refine J_aload_n dX1_init_20 rfl rfl ?_
  refine J_bipush (v := 10) dX1_init_21 (by decide) ?_
  refine jn_farr (j := 7) (kd := 0) (N := 10) I12 O13 List.mem_cons_self rfl rfl rfl dX1_init_23 rfl (by decide) ac_i (by decide) (by decide) (by decide) (Nat.le_of_ble_eq_true rfl) (Nat.le_of_ble_eq_true rfl) dX1_init_25 p_X1_18_0 rfl (fun E18 S19 q20 I21 O22 T23 n24 t25 => ?_)
  have g26 := T23.1 _ _ g17
  have g27 := T23.1 _ _ t16
  refine J_aload_n dX1_init_28 rfl rfl ?_
  refine J_bipush (v := 10) dX1_init_29 (by decide) ?_
  refine jn_farr (j := 8) (kd := 0) (N := 10) I21 O22 List.mem_cons_self rfl rfl rfl dX1_init_31 rfl (by decide) ac_i (by decide) (by decide) (by decide) (Nat.le_of_ble_eq_true rfl) (Nat.le_of_ble_eq_true rfl) dX1_init_33 p_X1_21_0 rfl (fun E28 S29 q30 I31 O32 T33 n34 t35 => ?_)
  have g36 := T33.1 _ _ g26
  have g37 := T33.1 _ _ g27
  have g38 := T33.1 _ _ t25
  refine J_aload_n dX1_init_36 rfl rfl ?_
  refine J_bipush (v := 10) dX1_init_37 (by decide) ?_
  refine jn_farr (j := 9) (kd := 0) (N := 10) I31 O32 List.mem_cons_self rfl rfl rfl dX1_init_39 rfl (by decide) ac_i (by decide) (by decide) (by decide) (Nat.le_of_ble_eq_true rfl) (Nat.le_of_ble_eq_true rfl) dX1_init_41 p_X1_24_0 rfl (fun E39 S40 q41 I42 O43 T44 n45 t46 => ?_)
  have g47 := T44.1 _ _ g36
  have g48 := T44.1 _ _ g37
  have g49 := T44.1 _ _ g38
  have g50 := T44.1 _ _ t35
  refine J_aload_n dX1_init_44 rfl rfl ?_
  refine J_bipush (v := 10) dX1_init_45 (by decide) ?_
  refine jn_farr (j := 10) (kd := 0) (N := 10) I42 O43 List.mem_cons_self rfl rfl rfl dX1_init_47 rfl (by decide) ac_i (by decide) (by decide) (by decide) (Nat.le_of_ble_eq_true rfl) (Nat.le_of_ble_eq_true rfl) dX1_init_49 p_X1_27_0 rfl (fun E51 S52 q53 I54 O55 T56 n57 t58 => ?_)
  have g59 := T56.1 _ _ g47
  have g60 := T56.1 _ _ g48
  have g61 := T56.1 _ _ g49
  have g62 := T56.1 _ _ g50
  have g63 := T56.1 _ _ t46
  exact J_nret dX1_init_52 hQ rfl (Nat.le_of_ble_eq_true rfl) (Nat.le_of_ble_eq_true rfl) ⟨I54, ob_ful (ks := [10, 9, 8, 7, 5, 4]) O55 rfl (by decide) rfl⟩
set_option maxRecDepth 100000 in
theorem n_X2 {l : Launch} {E : Ev} {S : St} {a p1 p2 p3 : Nat} (hb : Bs E) (h0 : E.1 a = some (0, 1, 0)) (hz : E.2 a = fun _ => 0) (hi : S.1 a = fun _ => 0) (h1 : E.1 p1 = some (0, 8, 0)) (h2 : E.1 p2 = some (0, 7, 0)) (h3 : E.1 p3 = some (0, 0, 0)) : Cn l mX2_init [.ref a, .ref p1, .ref p2, .ref p3] (hp E S) (PoN (fun E' S' => Iv E S [a] E' S' ∧ Obj 1 a [(2, p3), (1, p2), (0, p1)] [(3, -1)] E' S')) := by
  refine Cn.of (by decide) rfl (Nat.le_of_ble_eq_true rfl) (fun X _ _ hQ => ?_)
  refine (?_ : J mX2_init X 0 [(0, .ref a), (1, .ref p1), (2, .ref p2), (3, .ref p3)] [] (hp E S) 0 0)
  have I0 : Iv E S [a] E S := iv_start hb
  have O0 := ob_first h0 hz hi
  refine J_aload_n dX2_init_0 rfl rfl ?_
  refine J_objInit dX2_init_1 ol_X2_3 (Nat.le_of_ble_eq_true rfl) (Nat.le_of_ble_eq_true rfl) ?_
  refine J_aload_n dX2_init_4 rfl rfl ?_
  refine J_aload_n dX2_init_5 rfl rfl ?_
  refine jn_fput (j := 0) (u := (0, 8, 0)) I0 O0 List.mem_cons_self rfl rfl rfl h1 (fun h => absurd h (by decide)) dX2_init_6 p_X2_9_1 rfl (fun E4 I1 O2 T3 => ?_)
  have g5 := T3.1 _ _ h1
  have g6 := T3.1 _ _ h2
  have g7 := T3.1 _ _ h3
  refine J_aload_n dX2_init_9 rfl rfl ?_
  refine J_aload_n dX2_init_10 rfl rfl ?_
  refine jn_fput (j := 1) (u := (0, 7, 0)) I1 O2 List.mem_cons_self rfl rfl rfl g6 (fun h => absurd h (by decide)) dX2_init_11 p_X2_15_1 rfl (fun E11 I8 O9 T10 => ?_)
  have g12 := T10.1 _ _ g5
  have g13 := T10.1 _ _ g6
  have g14 := T10.1 _ _ g7
  refine J_aload_n dX2_init_14 rfl rfl ?_
  refine J_aload_n dX2_init_15 rfl rfl ?_
  refine jn_fput (j := 2) (u := (0, 0, 0)) I8 O9 List.mem_cons_self rfl rfl rfl g14 (fun h => absurd h (by decide)) dX2_init_16 p_X2_19_1 rfl (fun E18 I15 O16 T17 => ?_)
  have g19 := T17.1 _ _ g12
  have g20 := T17.1 _ _ g13
  have g21 := T17.1 _ _ g14
  refine J_aload_n dX2_init_19 rfl rfl ?_
  refine J_iconst (v := (-1)) dX2_init_20 (by decide) ?_
  refine jn_fint (x := (-1)) I15 O16 List.mem_cons_self rfl dX2_init_21 p_X2_23_1 (fun S25 I22 O23 T24 => ?_)
  have g26 := T24.1 _ _ g19
  have g27 := T24.1 _ _ g20
  have g28 := T24.1 _ _ g21
  exact J_nret dX2_init_24 hQ rfl (Nat.le_of_ble_eq_true rfl) (Nat.le_of_ble_eq_true rfl) ⟨I22, O23⟩
set_option maxRecDepth 100000 in
theorem n_X3 {l : Launch} {E : Ev} {S : St} {a : Nat} (hb : Bs E) (h0 : E.1 a = some (0, 2, 0)) (hz : E.2 a = fun _ => 0) (hi : S.1 a = fun _ => 0) : Cn l mX3_init [.ref a] (hp E S) (PoN (fun E' S' => Iv E S [a] E' S' ∧ ∃ q1 q2, Obj 2 a [(1, q2), (0, q1)] [] E' S' ∧ E.1 q1 = none ∧ E.1 q2 = none)) := by
  refine Cn.of (by decide) rfl (Nat.le_of_ble_eq_true rfl) (fun X _ _ hQ => ?_)
  refine (?_ : J mX3_init X 0 [(0, .ref a)] [] (hp E S) 0 0)
  have I0 : Iv E S [a] E S := iv_start hb
  have O0 := ob_first h0 hz hi
  refine J_aload_n dX3_init_0 rfl rfl ?_
  refine J_objInit dX3_init_1 ol_X3_3 (Nat.le_of_ble_eq_true rfl) (Nat.le_of_ble_eq_true rfl) ?_
  refine J_aload_n dX3_init_4 rfl rfl ?_
  refine J_bipush (v := 12) dX3_init_5 (by decide) ?_
  refine jn_farr (j := 0) (kd := 0) (N := 12) I0 O0 List.mem_cons_self rfl rfl rfl dX3_init_7 rfl (by decide) ac_i (by decide) (by decide) (by decide) (Nat.le_of_ble_eq_true rfl) (Nat.le_of_ble_eq_true rfl) dX3_init_9 p_X3_9_2 rfl (fun E1 S2 q3 I4 O5 T6 n7 t8 => ?_)
  refine J_aload_n dX3_init_12 rfl rfl ?_
  refine J_bipush (v := 12) dX3_init_13 (by decide) ?_
  refine jn_farr (j := 1) (kd := 0) (N := 12) I4 O5 List.mem_cons_self rfl rfl rfl dX3_init_15 rfl (by decide) ac_i (by decide) (by decide) (by decide) (Nat.le_of_ble_eq_true rfl) (Nat.le_of_ble_eq_true rfl) dX3_init_17 p_X3_15_2 rfl (fun E9 S10 q11 I12 O13 T14 n15 t16 => ?_)
  have g17 := T14.1 _ _ t8
  exact J_nret dX3_init_20 hQ rfl (Nat.le_of_ble_eq_true rfl) (Nat.le_of_ble_eq_true rfl) ⟨I12, q3, q11, O13, n7, ext_none I4.2.1 n15⟩
theorem of_le {i j : Nat} (hi : i < 1000) (hj : j < 1000) : Int32.ofNat i ≤ Int32.ofNat j ↔ i ≤ j := Int32.ofNat_le_ofNat (by omega) (by omega)
theorem of_int {i : Nat} (hi : i < 1000) : (Int32.ofNat i).toInt = i := Int32.toInt_ofNat_of_lt (by omega)
theorem of_nat {i : Nat} (hi : i < 1000) : (Int32.ofNat i).toNatClampNeg = i := by
  have := of_int hi
  show (Int32.ofNat i).toInt.toNat = i
  rw [this]; rfl
theorem of_inb {i N : Nat} (hi : i < 1000) (h : i < N) : inb (Int32.ofNat i) N = true := by
  unfold inb
  rw [of_int hi, Bool.and_eq_true, decide_eq_true_eq, decide_eq_true_eq]
  omega
set_option maxRecDepth 100000 in
theorem n_X4_loop {X : Cx} {E0 : Ev} {S0 : St} {a q1 q2 : Nat} (hQ : EndR mX4_init X (PoN (fun E' S' => Iv E0 S0 [a] E' S' ∧ Ful E' S' a (0, 3, 0)))) : ∀ (d i : Nat), i + d = 100 → ∀ (E : Ev) (S : St), Iv E0 S0 [q1, a] E S → Obj 3 a [(1, q2), (0, q1)] [] E S → E.1 q1 = some (1, 3, 100) → E0.1 q1 = none → (∀ z, z < i → E.1 (E.2 q1 z) = some (0, 2, 0)) → (∀ z, i ≤ z → E.2 q1 z = 0) → J mX4_init X 23 [(0, .ref a), (1, .int (Int32.ofNat i))] [] (hp E S) (2 + 3 * i) (200 + 28 * i) := by
  intro d
  induction d with
  | zero =>
    intro i hi E S I O t1 n1 hf hg
    have e : i = 100 := by omega
    subst e
    refine J_iload_n dX4_init_23 rfl rfl ?_
    refine J_bipush (v := 100) dX4_init_24 (by decide) ?_
    refine J_icmp_ge (tgt := 48) dX4_init_26 (by decide) (fun _ => ?_) (fun h => absurd ((of_le (i := 100) (j := 100) (by decide) (by decide)).mpr (Nat.le_refl _)) h)
    exact J_nret dX4_init_48 hQ rfl (Nat.le_of_ble_eq_true rfl) (Nat.le_of_ble_eq_true rfl) ⟨iv_drop I t1 n1 ⟨fun h => (by cases h), fun _ _ => hf, fun _ h => (by cases h)⟩, ob_ful (ks := [1, 0]) O rfl (by decide) rfl⟩
  | succ d ih =>
    intro i hi E S I O t1 n1 hf hg
    have hi2 : i < 100 := by omega
    refine J_iload_n dX4_init_23 rfl rfl ?_
    refine J_bipush (v := 100) dX4_init_24 (by decide) ?_
    refine J_icmp_ge (tgt := 48) dX4_init_26 (by decide) (fun h => absurd ((of_le (i := 100) (j := i) (by decide) (by omega)).mp h) (by omega)) (fun _ => ?_)
    refine J_aload_n dX4_init_29 rfl rfl ?_
    refine JN_getC (b := q1) dX4_init_30 f_X4_11_3 O.1 rfl (by rw [O.2.1]; rfl) (nz0 I.1 t1) ?_
    refine J_iload_n dX4_init_33 rfl rfl ?_
    refine JN_new dX4_init_34 nl_X4_9 (by show 2 + 3 * i + 1 ≤ 302; omega) (by show 200 + 28 * i + 4 ≤ 3000; omega) (Or.inl ⟨a, _, hp_o O.1⟩) (fun q hq hz => ?_)
    refine J_dup dX4_init_37 rfl ?_
    refine J_callI (As := []) dX4_init_38 i_X4_21 rfl rfl (Nat.le_of_ble_eq_true rfl) ⟨Nat.le_of_ble_eq_true rfl, Nat.le_of_ble_eq_true rfl, by show 2 + 3 * i + 1 + 2 ≤ 302; omega, by show 200 + 28 * i + 4 + 24 ≤ 3000; omega⟩ (n_X3 (iv_new I hq hz).1.1 eN1s eN2s sN1s) (fun v w9 hp9 => ?_)
    obtain ⟨rfl, E2, S2, rfl, g, q3, q4, o, -, -⟩ := hp9
    obtain ⟨I2, u2, t2, T2, n2⟩ := ac I hq hz g (ob_ful (ks := [1, 0]) o rfl (by decide) rfl)
    have O2 := T2.2.1 _ _ _ _ trivial O
    have t3 := T2.1 _ _ t1
    have e2 := T2.2.2.2 _ _ t1
    have hq0 := nz0 I2.1 t2
    refine JN_qast dX4_init_41 t3 t2 hq0 (of_inb (by omega) hi2) ?_
    rw [of_nat (by omega)]
    have P := iv_putC (j := i) I2 List.mem_cons_self t3 (by rw [e2]; exact hg i (Nat.le_refl _)) hq0 (by rw [t2]; exact fun h => by cases h) (fun _ => ⟨u2, n2⟩)
    refine J_iinc (v := Int32.ofNat (i + 1)) (ls' := [(0, _), (1, _)]) dX4_init_42 rfl (by rw [Int32.ofNat_add]; rfl) (by decide) rfl ?_
    refine J_goto (tgt := 23) dX4_init_45 (by decide) ?_
    have hh := ih (i + 1) (by omega) _ S2 P.1 (ob_putO O2 (ne_ty t3 O2.1 (by decide))) t3 n1 (fun z hz => ?_) (fun z hz => ?_)
    · refine J.wide hh ?_ ?_
      · show 2 + 3 * i + 1 + 2 ≤ 2 + 3 * (i + 1); omega
      · show 200 + 28 * i + 4 + 24 ≤ 200 + 28 * (i + 1); omega
    · show E2.1 (if q1 = q1 ∧ z = i then q else E2.2 q1 z) = _
      by_cases e : z = i
      · rw [if_pos ⟨rfl, e⟩]; exact t2
      · rw [if_neg (fun h => e h.2), e2]
        exact T2.1 _ _ (hf z (by omega))
    · show (if q1 = q1 ∧ z = i then q else E2.2 q1 z) = 0
      rw [if_neg (fun h => by omega), e2]
      exact hg z (by omega)
set_option maxRecDepth 100000 in
theorem n_X4 {l : Launch} {E : Ev} {S : St} {a : Nat} (hb : Bs E) (h0 : E.1 a = some (0, 3, 0)) (hz : E.2 a = fun _ => 0) (hi : S.1 a = fun _ => 0) : Cn l mX4_init [.ref a] (hp E S) (PoN (fun E' S' => Iv E S [a] E' S' ∧ Ful E' S' a (0, 3, 0))) := by
  refine Cn.of (by decide) rfl (Nat.le_of_ble_eq_true rfl) (fun X _ _ hQ => ?_)
  refine (?_ : J mX4_init X 0 [(0, .ref a)] [] (hp E S) 0 0)
  have I0 : Iv E S [a] E S := iv_start hb
  have O0 := ob_first h0 hz hi
  refine J_aload_n dX4_init_0 rfl rfl ?_
  refine J_objInit dX4_init_1 ol_X4_3 (Nat.le_of_ble_eq_true rfl) (Nat.le_of_ble_eq_true rfl) ?_
  refine J_aload_n dX4_init_4 rfl rfl ?_
  refine J_bipush (v := 100) dX4_init_5 (by decide) ?_
  refine JN_arrq (N := 100) dX4_init_7 cl_X4_9 (by decide) (by decide) (by decide) (Nat.le_of_ble_eq_true rfl) (Nat.le_of_ble_eq_true rfl) (Or.inl ⟨a, _, hp_o O0.1⟩) (fun q hq h1 => ?_)
  obtain ⟨I1, U1⟩ := iv_new (t := (1, 3, 100)) I0 hq h1
  have haq : a ≠ q := ne_new h0 hq
  have O1 := ob_new (t := (1, 3, 100)) O0 hq
  refine JN_putC dX4_init_10 p_X4_11_3 rfl O1.1 rfl h1 rfl rfl ?_
  have P := iv_putC (j := 0) I1 (List.mem_cons_of_mem _ List.mem_cons_self) O1.1 (by rw [O1.2.1]; rfl) h1 (by rw [eN1s]; exact fun h => by cases h) (fun _ => ⟨U1, hq⟩)
  have O2 := ob_put (j := 0) (u := (1, 3, 100)) O1 rfl eN1s
  have e0 : ∀ z, (eP (eN E q (1, 3, 100)) a 0 q).2 q z = 0 := fun z => (up2_n _ _ (fun e => haq e.1.symm)).trans (congrFun eN2s z)
  have t0 : (eP (eN E q (1, 3, 100)) a 0 q).1 q = some (1, 3, 100) := eN1s
  refine J_aload_n dX4_init_13 rfl rfl ?_
  refine J_bipush (v := 100) dX4_init_14 (by decide) ?_
  refine jn_farr (j := 1) (kd := 1) (N := 100) P.1 O2 (List.mem_cons_of_mem _ List.mem_cons_self) rfl rfl rfl dX4_init_16 rfl (by decide) ac_z (by decide) (by decide) (by decide) (Nat.le_of_ble_eq_true rfl) (Nat.le_of_ble_eq_true rfl) dX4_init_18 p_X4_17_3 rfl (fun E1 S1 q2 I3 O3 T3 n3 t3 => ?_)
  refine J_iconst (v := 0) dX4_init_21 (by decide) ?_
  refine J_istore_n (ls' := [(0, _), (1, _)]) dX4_init_22 rfl (by decide) rfl ?_
  exact J.wide (n_X4_loop hQ 100 0 rfl E1 S1 I3 O3 (T3.1 _ _ t0) hq (fun z hz => absurd hz (Nat.not_lt_zero _)) (fun z _ => (congrFun (T3.2.2.2 _ _ t0) z).trans (e0 z))) (Nat.le_of_ble_eq_true rfl) (Nat.le_of_ble_eq_true rfl)

set_option maxRecDepth 100000 in
theorem n_X7 {l : Launch} {E : Ev} {S : St} {a p1 p2 p3 : Nat} (hb : Bs E) (h0 : E.1 a = some (0, 6, 0)) (hz : E.2 a = fun _ => 0) (hi : S.1 a = fun _ => 0) (h1 : E.1 p1 = some (0, 8, 0)) (h2 : E.1 p2 = some (0, 7, 0)) (h3 : E.1 p3 = some (0, 0, 0)) : Cn l mX7_init [.ref a, .ref p1, .ref p2, .ref p3] (hp E S) (PoN (fun E' S' => Iv E S [a] E' S' ∧ Obj 6 a [(2, p3), (1, p2), (0, p1)] [(4, 0)] E' S')) := by
  refine Cn.of (by decide) rfl (Nat.le_of_ble_eq_true rfl) (fun X _ _ hQ => ?_)
  refine (?_ : J mX7_init X 0 [(0, .ref a), (1, .ref p1), (2, .ref p2), (3, .ref p3)] [] (hp E S) 0 0)
  have I0 : Iv E S [a] E S := iv_start hb
  have O0 := ob_first h0 hz hi
  refine J_aload_n dX7_init_0 rfl rfl ?_
  refine J_objInit dX7_init_1 ol_X7_3 (Nat.le_of_ble_eq_true rfl) (Nat.le_of_ble_eq_true rfl) ?_
  refine J_aload_n dX7_init_4 rfl rfl ?_
  refine J_aload_n dX7_init_5 rfl rfl ?_
  refine jn_fput (j := 0) (u := (0, 8, 0)) I0 O0 List.mem_cons_self rfl rfl rfl h1 (fun h => absurd h (by decide)) dX7_init_6 p_X7_9_6 rfl (fun E4 I1 O2 T3 => ?_)
  have g5 := T3.1 _ _ h1
  have g6 := T3.1 _ _ h2
  have g7 := T3.1 _ _ h3
  refine J_aload_n dX7_init_9 rfl rfl ?_
  refine J_aload_n dX7_init_10 rfl rfl ?_
  refine jn_fput (j := 1) (u := (0, 7, 0)) I1 O2 List.mem_cons_self rfl rfl rfl g6 (fun h => absurd h (by decide)) dX7_init_11 p_X7_15_6 rfl (fun E11 I8 O9 T10 => ?_)
  have g12 := T10.1 _ _ g5
  have g13 := T10.1 _ _ g6
  have g14 := T10.1 _ _ g7
  refine J_aload_n dX7_init_14 rfl rfl ?_
  refine J_aload_n dX7_init_15 rfl rfl ?_
  refine jn_fput (j := 2) (u := (0, 0, 0)) I8 O9 List.mem_cons_self rfl rfl rfl g14 (fun h => absurd h (by decide)) dX7_init_16 p_X7_19_6 rfl (fun E18 I15 O16 T17 => ?_)
  have g19 := T17.1 _ _ g12
  have g20 := T17.1 _ _ g13
  have g21 := T17.1 _ _ g14
  refine J_aload_n dX7_init_19 rfl rfl ?_
  refine JN_new dX7_init_20 nl_X7_23 (Nat.le_of_ble_eq_true rfl) (Nat.le_of_ble_eq_true rfl) (Or.inl ⟨a, _, hp_o O16.1⟩) (fun q22 hq23 hz24 => ?_)
  refine J_dup dX7_init_23 rfl ?_
  refine J_callI (As := []) dX7_init_24 i_X7_25 rfl rfl (Nat.le_of_ble_eq_true rfl) ⟨Nat.le_of_ble_eq_true rfl, Nat.le_of_ble_eq_true rfl, Nat.le_of_ble_eq_true rfl, Nat.le_of_ble_eq_true rfl⟩ (n_X3 (iv_new I15 hq23 hz24).1.1 eN1s eN2s sN1s) (fun v w9 hp9 => ?_)
  obtain ⟨rfl, E30, S31, rfl, g32, q25, q26, o27, n28, n29⟩ := hp9
  obtain ⟨I33, u34, t35, T36, n37⟩ := ac I15 hq23 hz24 g32 (ob_ful (ks := [1, 0]) o27 rfl (by decide) rfl)
  have O38 := T36.2.1 _ _ _ _ trivial O16
  have g39 := T36.1 _ _ g19
  have g40 := T36.1 _ _ g20
  have g41 := T36.1 _ _ g21
  refine jn_fM I33 O38 List.mem_cons_self rfl (nz0 I33.1 t35) dX7_init_27 p_X7_26_6 (fun S45 I42 O43 T44 => ?_)
  have g46 := T44.1 _ _ g39
  have g47 := T44.1 _ _ g40
  have g48 := T44.1 _ _ g41
  have g49 := T44.1 _ _ t35
  refine J_aload_n dX7_init_30 rfl rfl ?_
  refine J_iconst (v := 0) dX7_init_31 (by decide) ?_
  refine jn_fint (x := 0) I42 O43 List.mem_cons_self rfl dX7_init_32 p_X7_30_6 (fun S53 I50 O51 T52 => ?_)
  have g54 := T52.1 _ _ g46
  have g55 := T52.1 _ _ g47
  have g56 := T52.1 _ _ g48
  have g57 := T52.1 _ _ g49
  exact J_nret dX7_init_35 hQ rfl (Nat.le_of_ble_eq_true rfl) (Nat.le_of_ble_eq_true rfl) ⟨I50, O51⟩
set_option maxRecDepth 100000 in
theorem n_X0_4 {l : Launch} {E : Ev} {S : St} {a p1 p2 p3 : Nat} (hb : Bs E) (h0 : E.1 a = some (0, 4, 0)) (hz : E.2 a = fun _ => 0) (hi : S.1 a = fun _ => 0) (h1 : E.1 p1 = some (0, 8, 0)) (h2 : E.1 p2 = some (0, 7, 0)) (h3 : E.1 p3 = some (0, 0, 0)) : Cn l mX0_init [.ref a, .ref p1, .ref p2, .ref p3] (hp E S) (PoN (fun E' S' => Iv E S [a] E' S' ∧ ∃ pr ca ex ma, Obj 4 a [(7, ma), (6, ex), (0, p3), (5, p2), (1, p1), (8, ca), (2, pr)] [(4, 0), (3, -1)] E' S' ∧ Obj 1 ex [(2, p3), (1, p2), (0, p1)] [(3, -1)] E' S' ∧ Obj 6 ma [(2, p3), (1, p2), (0, p1)] [(4, 0)] E' S')) := by
  refine Cn.of (by decide) rfl (Nat.le_of_ble_eq_true rfl) (fun X _ _ hQ => ?_)
  refine (?_ : J mX0_init X 0 [(0, .ref a), (1, .ref p1), (2, .ref p2), (3, .ref p3)] [] (hp E S) 0 0)
  have I0 : Iv E S [a] E S := iv_start hb
  have O0 := ob_first h0 hz hi
  refine J_aload_n dX0_init_0 rfl rfl ?_
  refine J_objInit dX0_init_1 ol_X0_3 (Nat.le_of_ble_eq_true rfl) (Nat.le_of_ble_eq_true rfl) ?_
  refine J_aload_n dX0_init_4 rfl rfl ?_
  refine JN_new dX0_init_5 nl_X0_9 (Nat.le_of_ble_eq_true rfl) (Nat.le_of_ble_eq_true rfl) (Or.inl ⟨a, _, hp_o O0.1⟩) (fun q1 hq2 hz3 => ?_)
  refine J_dup dX0_init_8 rfl ?_
  refine J_callI (As := []) dX0_init_9 i_X0_11 rfl rfl (Nat.le_of_ble_eq_true rfl) ⟨Nat.le_of_ble_eq_true rfl, Nat.le_of_ble_eq_true rfl, Nat.le_of_ble_eq_true rfl, Nat.le_of_ble_eq_true rfl⟩ (n_X3 (iv_new I0 hq2 hz3).1.1 eN1s eN2s sN1s) (fun v w9 hp9 => ?_)
  obtain ⟨rfl, E9, S10, rfl, g11, q4, q5, o6, n7, n8⟩ := hp9
  obtain ⟨I12, u13, t14, T15, n16⟩ := ac I0 hq2 hz3 g11 (ob_ful (ks := [1, 0]) o6 rfl (by decide) rfl)
  have O17 := T15.2.1 _ _ _ _ trivial O0
  have g18 := T15.1 _ _ h1
  have g19 := T15.1 _ _ h2
  have g20 := T15.1 _ _ h3
  refine jn_fput (j := 2) (u := (0, 2, 0)) I12 O17 List.mem_cons_self rfl rfl rfl t14 (fun _ => ⟨u13, n16⟩) dX0_init_12 p_X0_12_4 rfl (fun E24 I21 O22 T23 => ?_)
  have g25 := T23.1 _ _ g18
  have g26 := T23.1 _ _ g19
  have g27 := T23.1 _ _ g20
  have g28 := T23.1 _ _ t14
  refine J_aload_n dX0_init_15 rfl rfl ?_
  refine JN_new dX0_init_16 nl_X0_9 (Nat.le_of_ble_eq_true rfl) (Nat.le_of_ble_eq_true rfl) (Or.inl ⟨a, _, hp_o O22.1⟩) (fun q29 hq30 hz31 => ?_)
  refine J_dup dX0_init_19 rfl ?_
  refine J_callI (As := []) dX0_init_20 i_X0_11 rfl rfl (Nat.le_of_ble_eq_true rfl) ⟨Nat.le_of_ble_eq_true rfl, Nat.le_of_ble_eq_true rfl, Nat.le_of_ble_eq_true rfl, Nat.le_of_ble_eq_true rfl⟩ (n_X3 (iv_new I21 hq30 hz31).1.1 eN1s eN2s sN1s) (fun v w9 hp9 => ?_)
  obtain ⟨rfl, E37, S38, rfl, g39, q32, q33, o34, n35, n36⟩ := hp9
  obtain ⟨I40, u41, t42, T43, n44⟩ := ac I21 hq30 hz31 g39 (ob_ful (ks := [1, 0]) o34 rfl (by decide) rfl)
  have O45 := T43.2.1 _ _ _ _ trivial O22
  have g46 := T43.1 _ _ g25
  have g47 := T43.1 _ _ g26
  have g48 := T43.1 _ _ g27
  have g49 := T43.1 _ _ g28
  refine jn_fput (j := 8) (u := (0, 2, 0)) I40 O45 List.mem_cons_self rfl rfl rfl t42 (fun _ => ⟨u41, n44⟩) dX0_init_23 p_X0_18_4 rfl (fun E53 I50 O51 T52 => ?_)
  have g54 := T52.1 _ _ g46
  have g55 := T52.1 _ _ g47
  have g56 := T52.1 _ _ g48
  have g57 := T52.1 _ _ g49
  have g58 := T52.1 _ _ t42
  refine J_aload_n dX0_init_26 rfl rfl ?_
  refine J_aload_n dX0_init_27 rfl rfl ?_
  refine jn_fput (j := 1) (u := (0, 8, 0)) I50 O51 List.mem_cons_self rfl rfl rfl g54 (fun h => absurd h (by decide)) dX0_init_28 p_X0_21_4 rfl (fun E62 I59 O60 T61 => ?_)
  have g63 := T61.1 _ _ g54
  have g64 := T61.1 _ _ g55
  have g65 := T61.1 _ _ g56
  have g66 := T61.1 _ _ g57
  have g67 := T61.1 _ _ g58
  refine J_aload_n dX0_init_31 rfl rfl ?_
  refine J_aload_n dX0_init_32 rfl rfl ?_
  refine jn_fput (j := 5) (u := (0, 7, 0)) I59 O60 List.mem_cons_self rfl rfl rfl g64 (fun h => absurd h (by decide)) dX0_init_33 p_X0_25_4 rfl (fun E71 I68 O69 T70 => ?_)
  have g72 := T70.1 _ _ g63
  have g73 := T70.1 _ _ g64
  have g74 := T70.1 _ _ g65
  have g75 := T70.1 _ _ g66
  have g76 := T70.1 _ _ g67
  refine J_aload_n dX0_init_36 rfl rfl ?_
  refine J_aload_n dX0_init_37 rfl rfl ?_
  refine jn_fput (j := 0) (u := (0, 0, 0)) I68 O69 List.mem_cons_self rfl rfl rfl g74 (fun h => absurd h (by decide)) dX0_init_38 p_X0_29_4 rfl (fun E80 I77 O78 T79 => ?_)
  have g81 := T79.1 _ _ g72
  have g82 := T79.1 _ _ g73
  have g83 := T79.1 _ _ g74
  have g84 := T79.1 _ _ g75
  have g85 := T79.1 _ _ g76
  refine J_aload_n dX0_init_41 rfl rfl ?_
  refine JN_new dX0_init_42 nl_X0_33 (Nat.le_of_ble_eq_true rfl) (Nat.le_of_ble_eq_true rfl) (Or.inl ⟨a, _, hp_o O78.1⟩) (fun q86 hq87 hz88 => ?_)
  refine J_dup dX0_init_45 rfl ?_
  refine J_aload_n dX0_init_46 rfl rfl ?_
  refine J_aload_n dX0_init_47 rfl rfl ?_
  refine J_aload_n dX0_init_48 rfl rfl ?_
  refine J_callI (As := [.ref p1, .ref p2, .ref p3]) dX0_init_49 i_X0_35 rfl rfl (Nat.le_of_ble_eq_true rfl) ⟨Nat.le_of_ble_eq_true rfl, Nat.le_of_ble_eq_true rfl, Nat.le_of_ble_eq_true rfl, Nat.le_of_ble_eq_true rfl⟩ (n_X2 (iv_new I77 hq87 hz88).1.1 eN1s eN2s sN1s (Ext_eN hq87 _ _ g81) (Ext_eN hq87 _ _ g82) (Ext_eN hq87 _ _ g83)) (fun v w9 hp9 => ?_)
  obtain ⟨rfl, E90, S91, rfl, g92, o89⟩ := hp9
  obtain ⟨I93, u94, t95, T96, n97⟩ := ac I77 hq87 hz88 g92 (ob_ful (ks := [2, 1, 0]) o89 rfl (by decide) rfl)
  have O98 := T96.2.1 _ _ _ _ trivial O78
  have g99 := T96.1 _ _ g81
  have g100 := T96.1 _ _ g82
  have g101 := T96.1 _ _ g83
  have g102 := T96.1 _ _ g84
  have g103 := T96.1 _ _ g85
  refine jn_fput (j := 6) (u := (0, 1, 0)) I93 O98 List.mem_cons_self rfl rfl rfl t95 (fun h => absurd h (by decide)) dX0_init_52 p_X0_38_4 rfl (fun E107 I104 O105 T106 => ?_)
  have g108 := T106.1 _ _ g99
  have g109 := T106.1 _ _ g100
  have g110 := T106.1 _ _ g101
  have g111 := T106.1 _ _ g102
  have g112 := T106.1 _ _ g103
  have g113 := T106.1 _ _ t95
  have o114 := T106.2.1 _ _ _ _ (ne_ty o89.1 O98.1 (by decide)) o89
  refine J_aload_n dX0_init_55 rfl rfl ?_
  refine JN_new dX0_init_56 nl_X0_42 (Nat.le_of_ble_eq_true rfl) (Nat.le_of_ble_eq_true rfl) (Or.inl ⟨a, _, hp_o O105.1⟩) (fun q115 hq116 hz117 => ?_)
  refine J_dup dX0_init_59 rfl ?_
  refine J_aload_n dX0_init_60 rfl rfl ?_
  refine J_aload_n dX0_init_61 rfl rfl ?_
  refine J_aload_n dX0_init_62 rfl rfl ?_
  refine J_callI (As := [.ref p1, .ref p2, .ref p3]) dX0_init_63 i_X0_44 rfl rfl (Nat.le_of_ble_eq_true rfl) ⟨Nat.le_of_ble_eq_true rfl, Nat.le_of_ble_eq_true rfl, Nat.le_of_ble_eq_true rfl, Nat.le_of_ble_eq_true rfl⟩ (n_X7 (iv_new I104 hq116 hz117).1.1 eN1s eN2s sN1s (Ext_eN hq116 _ _ g108) (Ext_eN hq116 _ _ g109) (Ext_eN hq116 _ _ g110)) (fun v w9 hp9 => ?_)
  obtain ⟨rfl, E119, S120, rfl, g121, o118⟩ := hp9
  obtain ⟨I122, u123, t124, T125, n126⟩ := ac I104 hq116 hz117 g121 (ob_ful (ks := [2, 1, 0]) o118 rfl (by decide) rfl)
  have O127 := T125.2.1 _ _ _ _ trivial O105
  have g128 := T125.1 _ _ g108
  have g129 := T125.1 _ _ g109
  have g130 := T125.1 _ _ g110
  have g131 := T125.1 _ _ g111
  have g132 := T125.1 _ _ g112
  have g133 := T125.1 _ _ g113
  have o134 := T125.2.1 _ _ _ _ (trivial) o114
  refine jn_fput (j := 7) (u := (0, 6, 0)) I122 O127 List.mem_cons_self rfl rfl rfl t124 (fun h => absurd h (by decide)) dX0_init_66 p_X0_45_4 rfl (fun E138 I135 O136 T137 => ?_)
  have g139 := T137.1 _ _ g128
  have g140 := T137.1 _ _ g129
  have g141 := T137.1 _ _ g130
  have g142 := T137.1 _ _ g131
  have g143 := T137.1 _ _ g132
  have g144 := T137.1 _ _ g133
  have g145 := T137.1 _ _ t124
  have o146 := T137.2.1 _ _ _ _ (ne_ty o134.1 O127.1 (by decide)) o134
  have o147 := T137.2.1 _ _ _ _ (ne_ty o118.1 O127.1 (by decide)) o118
  refine J_aload_n dX0_init_69 rfl rfl ?_
  refine J_iconst (v := (-1)) dX0_init_70 (by decide) ?_
  refine jn_fint (x := (-1)) I135 O136 List.mem_cons_self rfl dX0_init_71 p_X0_49_4 (fun S151 I148 O149 T150 => ?_)
  have g152 := T150.1 _ _ g139
  have g153 := T150.1 _ _ g140
  have g154 := T150.1 _ _ g141
  have g155 := T150.1 _ _ g142
  have g156 := T150.1 _ _ g143
  have g157 := T150.1 _ _ g144
  have g158 := T150.1 _ _ g145
  have o159 := T150.2.1 _ _ _ _ (ne_ty o146.1 O136.1 (by decide)) o146
  have o160 := T150.2.1 _ _ _ _ (ne_ty o147.1 O136.1 (by decide)) o147
  refine J_aload_n dX0_init_74 rfl rfl ?_
  refine J_iconst (v := 0) dX0_init_75 (by decide) ?_
  refine jn_fint (x := 0) I148 O149 List.mem_cons_self rfl dX0_init_76 p_X0_53_4 (fun S164 I161 O162 T163 => ?_)
  have g165 := T163.1 _ _ g152
  have g166 := T163.1 _ _ g153
  have g167 := T163.1 _ _ g154
  have g168 := T163.1 _ _ g155
  have g169 := T163.1 _ _ g156
  have g170 := T163.1 _ _ g157
  have g171 := T163.1 _ _ g158
  have o172 := T163.2.1 _ _ _ _ (ne_ty o159.1 O149.1 (by decide)) o159
  have o173 := T163.2.1 _ _ _ _ (ne_ty o160.1 O149.1 (by decide)) o160
  exact J_nret dX0_init_79 hQ rfl (Nat.le_of_ble_eq_true rfl) (Nat.le_of_ble_eq_true rfl) ⟨I161, q1, q29, q86, q115, O162, o172, o173⟩
set_option maxRecDepth 100000 in
theorem n_X0_5 {l : Launch} {E : Ev} {S : St} {a p1 p2 p3 : Nat} (hb : Bs E) (h0 : E.1 a = some (0, 5, 0)) (hz : E.2 a = fun _ => 0) (hi : S.1 a = fun _ => 0) (h1 : E.1 p1 = some (0, 8, 0)) (h2 : E.1 p2 = some (0, 7, 0)) (h3 : E.1 p3 = some (0, 0, 0)) : Cn l mX0_init [.ref a, .ref p1, .ref p2, .ref p3] (hp E S) (PoN (fun E' S' => Iv E S [a] E' S' ∧ ∃ pr ca ex ma, Obj 5 a [(7, ma), (6, ex), (0, p3), (5, p2), (1, p1), (8, ca), (2, pr)] [(4, 0), (3, -1)] E' S' ∧ Obj 1 ex [(2, p3), (1, p2), (0, p1)] [(3, -1)] E' S' ∧ Obj 6 ma [(2, p3), (1, p2), (0, p1)] [(4, 0)] E' S')) := by
  refine Cn.of (by decide) rfl (Nat.le_of_ble_eq_true rfl) (fun X _ _ hQ => ?_)
  refine (?_ : J mX0_init X 0 [(0, .ref a), (1, .ref p1), (2, .ref p2), (3, .ref p3)] [] (hp E S) 0 0)
  have I0 : Iv E S [a] E S := iv_start hb
  have O0 := ob_first h0 hz hi
  refine J_aload_n dX0_init_0 rfl rfl ?_
  refine J_objInit dX0_init_1 ol_X0_3 (Nat.le_of_ble_eq_true rfl) (Nat.le_of_ble_eq_true rfl) ?_
  refine J_aload_n dX0_init_4 rfl rfl ?_
  refine JN_new dX0_init_5 nl_X0_9 (Nat.le_of_ble_eq_true rfl) (Nat.le_of_ble_eq_true rfl) (Or.inl ⟨a, _, hp_o O0.1⟩) (fun q1 hq2 hz3 => ?_)
  refine J_dup dX0_init_8 rfl ?_
  refine J_callI (As := []) dX0_init_9 i_X0_11 rfl rfl (Nat.le_of_ble_eq_true rfl) ⟨Nat.le_of_ble_eq_true rfl, Nat.le_of_ble_eq_true rfl, Nat.le_of_ble_eq_true rfl, Nat.le_of_ble_eq_true rfl⟩ (n_X3 (iv_new I0 hq2 hz3).1.1 eN1s eN2s sN1s) (fun v w9 hp9 => ?_)
  obtain ⟨rfl, E9, S10, rfl, g11, q4, q5, o6, n7, n8⟩ := hp9
  obtain ⟨I12, u13, t14, T15, n16⟩ := ac I0 hq2 hz3 g11 (ob_ful (ks := [1, 0]) o6 rfl (by decide) rfl)
  have O17 := T15.2.1 _ _ _ _ trivial O0
  have g18 := T15.1 _ _ h1
  have g19 := T15.1 _ _ h2
  have g20 := T15.1 _ _ h3
  refine jn_fput (j := 2) (u := (0, 2, 0)) I12 O17 List.mem_cons_self rfl rfl rfl t14 (fun _ => ⟨u13, n16⟩) dX0_init_12 p_X0_12_5 rfl (fun E24 I21 O22 T23 => ?_)
  have g25 := T23.1 _ _ g18
  have g26 := T23.1 _ _ g19
  have g27 := T23.1 _ _ g20
  have g28 := T23.1 _ _ t14
  refine J_aload_n dX0_init_15 rfl rfl ?_
  refine JN_new dX0_init_16 nl_X0_9 (Nat.le_of_ble_eq_true rfl) (Nat.le_of_ble_eq_true rfl) (Or.inl ⟨a, _, hp_o O22.1⟩) (fun q29 hq30 hz31 => ?_)
  refine J_dup dX0_init_19 rfl ?_
  refine J_callI (As := []) dX0_init_20 i_X0_11 rfl rfl (Nat.le_of_ble_eq_true rfl) ⟨Nat.le_of_ble_eq_true rfl, Nat.le_of_ble_eq_true rfl, Nat.le_of_ble_eq_true rfl, Nat.le_of_ble_eq_true rfl⟩ (n_X3 (iv_new I21 hq30 hz31).1.1 eN1s eN2s sN1s) (fun v w9 hp9 => ?_)
  obtain ⟨rfl, E37, S38, rfl, g39, q32, q33, o34, n35, n36⟩ := hp9
  obtain ⟨I40, u41, t42, T43, n44⟩ := ac I21 hq30 hz31 g39 (ob_ful (ks := [1, 0]) o34 rfl (by decide) rfl)
  have O45 := T43.2.1 _ _ _ _ trivial O22
  have g46 := T43.1 _ _ g25
  have g47 := T43.1 _ _ g26
  have g48 := T43.1 _ _ g27
  have g49 := T43.1 _ _ g28
  refine jn_fput (j := 8) (u := (0, 2, 0)) I40 O45 List.mem_cons_self rfl rfl rfl t42 (fun _ => ⟨u41, n44⟩) dX0_init_23 p_X0_18_5 rfl (fun E53 I50 O51 T52 => ?_)
  have g54 := T52.1 _ _ g46
  have g55 := T52.1 _ _ g47
  have g56 := T52.1 _ _ g48
  have g57 := T52.1 _ _ g49
  have g58 := T52.1 _ _ t42
  refine J_aload_n dX0_init_26 rfl rfl ?_
  refine J_aload_n dX0_init_27 rfl rfl ?_
  refine jn_fput (j := 1) (u := (0, 8, 0)) I50 O51 List.mem_cons_self rfl rfl rfl g54 (fun h => absurd h (by decide)) dX0_init_28 p_X0_21_5 rfl (fun E62 I59 O60 T61 => ?_)
  have g63 := T61.1 _ _ g54
  have g64 := T61.1 _ _ g55
  have g65 := T61.1 _ _ g56
  have g66 := T61.1 _ _ g57
  have g67 := T61.1 _ _ g58
  refine J_aload_n dX0_init_31 rfl rfl ?_
  refine J_aload_n dX0_init_32 rfl rfl ?_
  refine jn_fput (j := 5) (u := (0, 7, 0)) I59 O60 List.mem_cons_self rfl rfl rfl g64 (fun h => absurd h (by decide)) dX0_init_33 p_X0_25_5 rfl (fun E71 I68 O69 T70 => ?_)
  have g72 := T70.1 _ _ g63
  have g73 := T70.1 _ _ g64
  have g74 := T70.1 _ _ g65
  have g75 := T70.1 _ _ g66
  have g76 := T70.1 _ _ g67
  refine J_aload_n dX0_init_36 rfl rfl ?_
  refine J_aload_n dX0_init_37 rfl rfl ?_
  refine jn_fput (j := 0) (u := (0, 0, 0)) I68 O69 List.mem_cons_self rfl rfl rfl g74 (fun h => absurd h (by decide)) dX0_init_38 p_X0_29_5 rfl (fun E80 I77 O78 T79 => ?_)
  have g81 := T79.1 _ _ g72
  have g82 := T79.1 _ _ g73
  have g83 := T79.1 _ _ g74
  have g84 := T79.1 _ _ g75
  have g85 := T79.1 _ _ g76
  refine J_aload_n dX0_init_41 rfl rfl ?_
  refine JN_new dX0_init_42 nl_X0_33 (Nat.le_of_ble_eq_true rfl) (Nat.le_of_ble_eq_true rfl) (Or.inl ⟨a, _, hp_o O78.1⟩) (fun q86 hq87 hz88 => ?_)
  refine J_dup dX0_init_45 rfl ?_
  refine J_aload_n dX0_init_46 rfl rfl ?_
  refine J_aload_n dX0_init_47 rfl rfl ?_
  refine J_aload_n dX0_init_48 rfl rfl ?_
  refine J_callI (As := [.ref p1, .ref p2, .ref p3]) dX0_init_49 i_X0_35 rfl rfl (Nat.le_of_ble_eq_true rfl) ⟨Nat.le_of_ble_eq_true rfl, Nat.le_of_ble_eq_true rfl, Nat.le_of_ble_eq_true rfl, Nat.le_of_ble_eq_true rfl⟩ (n_X2 (iv_new I77 hq87 hz88).1.1 eN1s eN2s sN1s (Ext_eN hq87 _ _ g81) (Ext_eN hq87 _ _ g82) (Ext_eN hq87 _ _ g83)) (fun v w9 hp9 => ?_)
  obtain ⟨rfl, E90, S91, rfl, g92, o89⟩ := hp9
  obtain ⟨I93, u94, t95, T96, n97⟩ := ac I77 hq87 hz88 g92 (ob_ful (ks := [2, 1, 0]) o89 rfl (by decide) rfl)
  have O98 := T96.2.1 _ _ _ _ trivial O78
  have g99 := T96.1 _ _ g81
  have g100 := T96.1 _ _ g82
  have g101 := T96.1 _ _ g83
  have g102 := T96.1 _ _ g84
  have g103 := T96.1 _ _ g85
  refine jn_fput (j := 6) (u := (0, 1, 0)) I93 O98 List.mem_cons_self rfl rfl rfl t95 (fun h => absurd h (by decide)) dX0_init_52 p_X0_38_5 rfl (fun E107 I104 O105 T106 => ?_)
  have g108 := T106.1 _ _ g99
  have g109 := T106.1 _ _ g100
  have g110 := T106.1 _ _ g101
  have g111 := T106.1 _ _ g102
  have g112 := T106.1 _ _ g103
  have g113 := T106.1 _ _ t95
  have o114 := T106.2.1 _ _ _ _ (ne_ty o89.1 O98.1 (by decide)) o89
  refine J_aload_n dX0_init_55 rfl rfl ?_
  refine JN_new dX0_init_56 nl_X0_42 (Nat.le_of_ble_eq_true rfl) (Nat.le_of_ble_eq_true rfl) (Or.inl ⟨a, _, hp_o O105.1⟩) (fun q115 hq116 hz117 => ?_)
  refine J_dup dX0_init_59 rfl ?_
  refine J_aload_n dX0_init_60 rfl rfl ?_
  refine J_aload_n dX0_init_61 rfl rfl ?_
  refine J_aload_n dX0_init_62 rfl rfl ?_
  refine J_callI (As := [.ref p1, .ref p2, .ref p3]) dX0_init_63 i_X0_44 rfl rfl (Nat.le_of_ble_eq_true rfl) ⟨Nat.le_of_ble_eq_true rfl, Nat.le_of_ble_eq_true rfl, Nat.le_of_ble_eq_true rfl, Nat.le_of_ble_eq_true rfl⟩ (n_X7 (iv_new I104 hq116 hz117).1.1 eN1s eN2s sN1s (Ext_eN hq116 _ _ g108) (Ext_eN hq116 _ _ g109) (Ext_eN hq116 _ _ g110)) (fun v w9 hp9 => ?_)
  obtain ⟨rfl, E119, S120, rfl, g121, o118⟩ := hp9
  obtain ⟨I122, u123, t124, T125, n126⟩ := ac I104 hq116 hz117 g121 (ob_ful (ks := [2, 1, 0]) o118 rfl (by decide) rfl)
  have O127 := T125.2.1 _ _ _ _ trivial O105
  have g128 := T125.1 _ _ g108
  have g129 := T125.1 _ _ g109
  have g130 := T125.1 _ _ g110
  have g131 := T125.1 _ _ g111
  have g132 := T125.1 _ _ g112
  have g133 := T125.1 _ _ g113
  have o134 := T125.2.1 _ _ _ _ (trivial) o114
  refine jn_fput (j := 7) (u := (0, 6, 0)) I122 O127 List.mem_cons_self rfl rfl rfl t124 (fun h => absurd h (by decide)) dX0_init_66 p_X0_45_5 rfl (fun E138 I135 O136 T137 => ?_)
  have g139 := T137.1 _ _ g128
  have g140 := T137.1 _ _ g129
  have g141 := T137.1 _ _ g130
  have g142 := T137.1 _ _ g131
  have g143 := T137.1 _ _ g132
  have g144 := T137.1 _ _ g133
  have g145 := T137.1 _ _ t124
  have o146 := T137.2.1 _ _ _ _ (ne_ty o134.1 O127.1 (by decide)) o134
  have o147 := T137.2.1 _ _ _ _ (ne_ty o118.1 O127.1 (by decide)) o118
  refine J_aload_n dX0_init_69 rfl rfl ?_
  refine J_iconst (v := (-1)) dX0_init_70 (by decide) ?_
  refine jn_fint (x := (-1)) I135 O136 List.mem_cons_self rfl dX0_init_71 p_X0_49_5 (fun S151 I148 O149 T150 => ?_)
  have g152 := T150.1 _ _ g139
  have g153 := T150.1 _ _ g140
  have g154 := T150.1 _ _ g141
  have g155 := T150.1 _ _ g142
  have g156 := T150.1 _ _ g143
  have g157 := T150.1 _ _ g144
  have g158 := T150.1 _ _ g145
  have o159 := T150.2.1 _ _ _ _ (ne_ty o146.1 O136.1 (by decide)) o146
  have o160 := T150.2.1 _ _ _ _ (ne_ty o147.1 O136.1 (by decide)) o147
  refine J_aload_n dX0_init_74 rfl rfl ?_
  refine J_iconst (v := 0) dX0_init_75 (by decide) ?_
  refine jn_fint (x := 0) I148 O149 List.mem_cons_self rfl dX0_init_76 p_X0_53_5 (fun S164 I161 O162 T163 => ?_)
  have g165 := T163.1 _ _ g152
  have g166 := T163.1 _ _ g153
  have g167 := T163.1 _ _ g154
  have g168 := T163.1 _ _ g155
  have g169 := T163.1 _ _ g156
  have g170 := T163.1 _ _ g157
  have g171 := T163.1 _ _ g158
  have o172 := T163.2.1 _ _ _ _ (ne_ty o159.1 O149.1 (by decide)) o159
  have o173 := T163.2.1 _ _ _ _ (ne_ty o160.1 O149.1 (by decide)) o160
  exact J_nret dX0_init_79 hQ rfl (Nat.le_of_ble_eq_true rfl) (Nat.le_of_ble_eq_true rfl) ⟨I161, q1, q29, q86, q115, O162, o172, o173⟩
set_option maxRecDepth 100000 in
theorem n_X5 {l : Launch} {E : Ev} {S : St} {a p1 p2 p3 p4 : Nat} (hb : Bs E) (h0 : E.1 a = some (0, 4, 0)) (hz : E.2 a = fun _ => 0) (hi : S.1 a = fun _ => 0) (h1 : E.1 p1 = some (0, 8, 0)) (h2 : E.1 p2 = some (0, 7, 0)) (h3 : E.1 p3 = some (0, 0, 0)) (h4 : E.1 p4 = some (0, 3, 0)) : Cn l mX5_init [.ref a, .ref p1, .ref p2, .ref p3, .ref p4] (hp E S) (PoN (fun E' S' => Iv E S [a] E' S' ∧ ∃ pr ca ex ma pe, Obj 4 a [(9, p4), (10, pe), (7, ma), (6, ex), (0, p3), (5, p2), (1, p1), (8, ca), (2, pr)] [(4, 0), (3, -1)] E' S' ∧ Obj 1 ex [(2, p3), (1, p2), (0, p1)] [(3, -1)] E' S' ∧ Obj 6 ma [(2, p3), (1, p2), (0, p1)] [(4, 0)] E' S')) := by
  refine Cn.of (by decide) rfl (Nat.le_of_ble_eq_true rfl) (fun X _ _ hQ => ?_)
  refine (?_ : J mX5_init X 0 [(0, .ref a), (1, .ref p1), (2, .ref p2), (3, .ref p3), (4, .ref p4)] [] (hp E S) 0 0)
  have I0 : Iv E S [a] E S := iv_start hb
  have O0 := ob_first h0 hz hi
  refine J_aload_n dX5_init_0 rfl rfl ?_
  refine J_aload_n dX5_init_1 rfl rfl ?_
  refine J_aload_n dX5_init_2 rfl rfl ?_
  refine J_aload_n dX5_init_3 rfl rfl ?_
  refine J_callI (As := [.ref p1, .ref p2, .ref p3]) dX5_init_4 i_X5_3 rfl rfl (Nat.le_of_ble_eq_true rfl) ⟨Nat.le_of_ble_eq_true rfl, Nat.le_of_ble_eq_true rfl, Nat.le_of_ble_eq_true rfl, Nat.le_of_ble_eq_true rfl⟩ (n_X0_4 I0.1 O0.1 O0.2.1 O0.2.2.1 h1 h2 h3) (fun v w9 hp9 => ?_)
  obtain ⟨rfl, E8, S9, rfl, g10, pr1, ca2, ex3, ma4, o5, o6, o7⟩ := hp9
  have I11 := iv_call I0 g10 List.mem_cons_self
  have g12 := g10.2.1 _ _ h1
  have g13 := g10.2.1 _ _ h2
  have g14 := g10.2.1 _ _ h3
  have g15 := g10.2.1 _ _ h4
  refine J_aload_n dX5_init_7 rfl rfl ?_
  refine J_bipush (v := 100) dX5_init_8 (by decide) ?_
  refine jn_farr (j := 10) (kd := 1) (N := 100) I11 o5 List.mem_cons_self rfl rfl rfl dX5_init_10 rfl (by decide) ac_z (by decide) (by decide) (by decide) (Nat.le_of_ble_eq_true rfl) (Nat.le_of_ble_eq_true rfl) dX5_init_12 p_X5_9_4 rfl (fun E16 S17 q18 I19 O20 T21 n22 t23 => ?_)
  have g24 := T21.1 _ _ g12
  have g25 := T21.1 _ _ g13
  have g26 := T21.1 _ _ g14
  have g27 := T21.1 _ _ g15
  have o28 := T21.2.1 _ _ _ _ (ne_ty o6.1 o5.1 (by decide)) o6
  have o29 := T21.2.1 _ _ _ _ (ne_ty o7.1 o5.1 (by decide)) o7
  refine J_aload_n dX5_init_15 rfl rfl ?_
  refine J_aload dX5_init_16 rfl ?_
  refine jn_fput (j := 9) (u := (0, 3, 0)) I19 O20 List.mem_cons_self rfl rfl rfl g27 (fun h => absurd h (by decide)) dX5_init_18 p_X5_15_4 rfl (fun E33 I30 O31 T32 => ?_)
  have g34 := T32.1 _ _ g24
  have g35 := T32.1 _ _ g25
  have g36 := T32.1 _ _ g26
  have g37 := T32.1 _ _ g27
  have g38 := T32.1 _ _ t23
  have o39 := T32.2.1 _ _ _ _ (ne_ty o28.1 O20.1 (by decide)) o28
  have o40 := T32.2.1 _ _ _ _ (ne_ty o29.1 O20.1 (by decide)) o29
  exact J_nret dX5_init_21 hQ rfl (Nat.le_of_ble_eq_true rfl) (Nat.le_of_ble_eq_true rfl) ⟨I30, pr1, ca2, ex3, ma4, q18, O31, o39, o40⟩
set_option maxRecDepth 100000 in
theorem n_X6 {l : Launch} {E : Ev} {S : St} {a p1 p2 p3 p4 : Nat} (hb : Bs E) (h0 : E.1 a = some (0, 5, 0)) (hz : E.2 a = fun _ => 0) (hi : S.1 a = fun _ => 0) (h1 : E.1 p1 = some (0, 8, 0)) (h2 : E.1 p2 = some (0, 7, 0)) (h3 : E.1 p3 = some (0, 0, 0)) (h4 : E.1 p4 = some (0, 3, 0)) : Cn l mX6_init [.ref a, .ref p1, .ref p2, .ref p3, .ref p4] (hp E S) (PoN (fun E' S' => Iv E S [a] E' S' ∧ ∃ pr ca ex ma, Obj 5 a [(9, p4), (7, ma), (6, ex), (0, p3), (5, p2), (1, p1), (8, ca), (2, pr)] [(4, 0), (3, -1)] E' S' ∧ Obj 1 ex [(2, p3), (1, p2), (0, p1)] [(3, -1)] E' S' ∧ Obj 6 ma [(2, p3), (1, p2), (0, p1)] [(4, 0)] E' S')) := by
  refine Cn.of (by decide) rfl (Nat.le_of_ble_eq_true rfl) (fun X _ _ hQ => ?_)
  refine (?_ : J mX6_init X 0 [(0, .ref a), (1, .ref p1), (2, .ref p2), (3, .ref p3), (4, .ref p4)] [] (hp E S) 0 0)
  have I0 : Iv E S [a] E S := iv_start hb
  have O0 := ob_first h0 hz hi
  refine J_aload_n dX6_init_0 rfl rfl ?_
  refine J_aload_n dX6_init_1 rfl rfl ?_
  refine J_aload_n dX6_init_2 rfl rfl ?_
  refine J_aload_n dX6_init_3 rfl rfl ?_
  refine J_callI (As := [.ref p1, .ref p2, .ref p3]) dX6_init_4 i_X6_3 rfl rfl (Nat.le_of_ble_eq_true rfl) ⟨Nat.le_of_ble_eq_true rfl, Nat.le_of_ble_eq_true rfl, Nat.le_of_ble_eq_true rfl, Nat.le_of_ble_eq_true rfl⟩ (n_X0_5 I0.1 O0.1 O0.2.1 O0.2.2.1 h1 h2 h3) (fun v w9 hp9 => ?_)
  obtain ⟨rfl, E8, S9, rfl, g10, pr1, ca2, ex3, ma4, o5, o6, o7⟩ := hp9
  have I11 := iv_call I0 g10 List.mem_cons_self
  have g12 := g10.2.1 _ _ h1
  have g13 := g10.2.1 _ _ h2
  have g14 := g10.2.1 _ _ h3
  have g15 := g10.2.1 _ _ h4
  refine J_aload_n dX6_init_7 rfl rfl ?_
  refine J_aload dX6_init_8 rfl ?_
  refine jn_fput (j := 9) (u := (0, 3, 0)) I11 o5 List.mem_cons_self rfl rfl rfl g15 (fun h => absurd h (by decide)) dX6_init_10 p_X6_9_5 rfl (fun E19 I16 O17 T18 => ?_)
  have g20 := T18.1 _ _ g12
  have g21 := T18.1 _ _ g13
  have g22 := T18.1 _ _ g14
  have g23 := T18.1 _ _ g15
  have o24 := T18.2.1 _ _ _ _ (ne_ty o6.1 o5.1 (by decide)) o6
  have o25 := T18.2.1 _ _ _ _ (ne_ty o7.1 o5.1 (by decide)) o7
  exact J_nret dX6_init_13 hQ rfl (Nat.le_of_ble_eq_true rfl) (Nat.le_of_ble_eq_true rfl) ⟨I16, pr1, ca2, ex3, ma4, O17, o24, o25⟩
set_option maxRecDepth 100000 in
theorem n_X8 {l : Launch} {E : Ev} {S : St} {a : Nat} (hb : Bs E) (h0 : E.1 a = some (0, 7, 0)) (hz : E.2 a = fun _ => 0) (hi : S.1 a = fun _ => 0) : Cn l mX8_init [.ref a] (hp E S) (PoN (fun E' S' => Iv E S [a] E' S' ∧ Ful E' S' a (0, 7, 0))) := by
  refine Cn.of (by decide) rfl (Nat.le_of_ble_eq_true rfl) (fun X _ _ hQ => ?_)
  refine (?_ : J mX8_init X 0 [(0, .ref a)] [] (hp E S) 0 0)
  have I0 : Iv E S [a] E S := iv_start hb
  have O0 := ob_first h0 hz hi
  refine J_aload_n dX8_init_0 rfl rfl ?_
  refine J_objInit dX8_init_1 ol_X8_3 (Nat.le_of_ble_eq_true rfl) (Nat.le_of_ble_eq_true rfl) ?_
  refine J_aload_n dX8_init_4 rfl rfl ?_
  refine J_bipush (v := 30) dX8_init_5 (by decide) ?_
  refine jn_farr (j := 0) (kd := 0) (N := 30) I0 O0 List.mem_cons_self rfl rfl rfl dX8_init_7 rfl (by decide) ac_i (by decide) (by decide) (by decide) (Nat.le_of_ble_eq_true rfl) (Nat.le_of_ble_eq_true rfl) dX8_init_9 p_X8_9_7 rfl (fun E1 S2 q3 I4 O5 T6 n7 t8 => ?_)
  refine J_aload_n dX8_init_12 rfl rfl ?_
  refine J_bipush (v := 30) dX8_init_13 (by decide) ?_
  refine jn_farr (j := 1) (kd := 0) (N := 30) I4 O5 List.mem_cons_self rfl rfl rfl dX8_init_15 rfl (by decide) ac_i (by decide) (by decide) (by decide) (Nat.le_of_ble_eq_true rfl) (Nat.le_of_ble_eq_true rfl) dX8_init_17 p_X8_15_7 rfl (fun E9 S10 q11 I12 O13 T14 n15 t16 => ?_)
  have g17 := T14.1 _ _ t8
  refine J_aload_n dX8_init_20 rfl rfl ?_
  refine J_bipush (v := 30) dX8_init_21 (by decide) ?_
  refine jn_farr (j := 3) (kd := 0) (N := 30) I12 O13 List.mem_cons_self rfl rfl rfl dX8_init_23 rfl (by decide) ac_i (by decide) (by decide) (by decide) (Nat.le_of_ble_eq_true rfl) (Nat.le_of_ble_eq_true rfl) dX8_init_25 p_X8_18_7 rfl (fun E18 S19 q20 I21 O22 T23 n24 t25 => ?_)
  have g26 := T23.1 _ _ g17
  have g27 := T23.1 _ _ t16
  refine J_aload_n dX8_init_28 rfl rfl ?_
  refine J_bipush (v := 30) dX8_init_29 (by decide) ?_
  refine jn_farr (j := 4) (kd := 0) (N := 30) I21 O22 List.mem_cons_self rfl rfl rfl dX8_init_31 rfl (by decide) ac_i (by decide) (by decide) (by decide) (Nat.le_of_ble_eq_true rfl) (Nat.le_of_ble_eq_true rfl) dX8_init_33 p_X8_21_7 rfl (fun E28 S29 q30 I31 O32 T33 n34 t35 => ?_)
  have g36 := T33.1 _ _ g26
  have g37 := T33.1 _ _ g27
  have g38 := T33.1 _ _ t25
  refine J_aload_n dX8_init_36 rfl rfl ?_
  refine J_bipush (v := 30) dX8_init_37 (by decide) ?_
  refine jn_farr (j := 5) (kd := 0) (N := 30) I31 O32 List.mem_cons_self rfl rfl rfl dX8_init_39 rfl (by decide) ac_i (by decide) (by decide) (by decide) (Nat.le_of_ble_eq_true rfl) (Nat.le_of_ble_eq_true rfl) dX8_init_41 p_X8_24_7 rfl (fun E39 S40 q41 I42 O43 T44 n45 t46 => ?_)
  have g47 := T44.1 _ _ g36
  have g48 := T44.1 _ _ g37
  have g49 := T44.1 _ _ g38
  have g50 := T44.1 _ _ t35
  refine J_aload_n dX8_init_44 rfl rfl ?_
  refine J_bipush (v := 30) dX8_init_45 (by decide) ?_
  refine jn_farr (j := 6) (kd := 0) (N := 30) I42 O43 List.mem_cons_self rfl rfl rfl dX8_init_47 rfl (by decide) ac_i (by decide) (by decide) (by decide) (Nat.le_of_ble_eq_true rfl) (Nat.le_of_ble_eq_true rfl) dX8_init_49 p_X8_27_7 rfl (fun E51 S52 q53 I54 O55 T56 n57 t58 => ?_)
  have g59 := T56.1 _ _ g47
  have g60 := T56.1 _ _ g48
  have g61 := T56.1 _ _ g49
  have g62 := T56.1 _ _ g50
  have g63 := T56.1 _ _ t46
  refine J_aload_n dX8_init_52 rfl rfl ?_
  refine J_bipush (v := 30) dX8_init_53 (by decide) ?_
  refine jn_farr (j := 7) (kd := 0) (N := 30) I54 O55 List.mem_cons_self rfl rfl rfl dX8_init_55 rfl (by decide) ac_i (by decide) (by decide) (by decide) (Nat.le_of_ble_eq_true rfl) (Nat.le_of_ble_eq_true rfl) dX8_init_57 p_X8_30_7 rfl (fun E64 S65 q66 I67 O68 T69 n70 t71 => ?_)
  have g72 := T69.1 _ _ g59
  have g73 := T69.1 _ _ g60
  have g74 := T69.1 _ _ g61
  have g75 := T69.1 _ _ g62
  have g76 := T69.1 _ _ g63
  have g77 := T69.1 _ _ t58
  refine J_aload_n dX8_init_60 rfl rfl ?_
  refine J_sipush (v := 180) dX8_init_61 (by decide) ?_
  refine jn_farr (j := 8) (kd := 0) (N := 180) I67 O68 List.mem_cons_self rfl rfl rfl dX8_init_64 rfl (by decide) ac_i (by decide) (by decide) (by decide) (Nat.le_of_ble_eq_true rfl) (Nat.le_of_ble_eq_true rfl) dX8_init_66 p_X8_33_7 rfl (fun E78 S79 q80 I81 O82 T83 n84 t85 => ?_)
  have g86 := T83.1 _ _ g72
  have g87 := T83.1 _ _ g73
  have g88 := T83.1 _ _ g74
  have g89 := T83.1 _ _ g75
  have g90 := T83.1 _ _ g76
  have g91 := T83.1 _ _ g77
  have g92 := T83.1 _ _ t71
  refine J_aload_n dX8_init_69 rfl rfl ?_
  refine J_bipush (v := 6) dX8_init_70 (by decide) ?_
  refine jn_farr (j := 10) (kd := 0) (N := 6) I81 O82 List.mem_cons_self rfl rfl rfl dX8_init_72 rfl (by decide) ac_i (by decide) (by decide) (by decide) (Nat.le_of_ble_eq_true rfl) (Nat.le_of_ble_eq_true rfl) dX8_init_74 p_X8_36_7 rfl (fun E93 S94 q95 I96 O97 T98 n99 t100 => ?_)
  have g101 := T98.1 _ _ g86
  have g102 := T98.1 _ _ g87
  have g103 := T98.1 _ _ g88
  have g104 := T98.1 _ _ g89
  have g105 := T98.1 _ _ g90
  have g106 := T98.1 _ _ g91
  have g107 := T98.1 _ _ g92
  have g108 := T98.1 _ _ t85
  exact J_nret dX8_init_77 hQ rfl (Nat.le_of_ble_eq_true rfl) (Nat.le_of_ble_eq_true rfl) ⟨I96, ob_ful (ks := [10, 8, 7, 6, 5, 4, 3, 1, 0]) O97 rfl (by decide) rfl⟩
set_option maxRecDepth 100000 in
theorem n_X10 {l : Launch} {E : Ev} {S : St} {a : Nat} (hb : Bs E) (h0 : E.1 a = some (0, 8, 0)) (hz : E.2 a = fun _ => 0) (hi : S.1 a = fun _ => 0) : Cn l mX10_init [.ref a] (hp E S) (PoN (fun E' S' => Iv E S [a] E' S' ∧ ∃ q1 q2, Obj 8 a [(1, q2), (0, q1)] [(2, 3)] E' S' ∧ ∀ i, i < 3 → S'.2.1 q1 i = -1)) := by
  refine Cn.of (by decide) rfl (Nat.le_of_ble_eq_true rfl) (fun X _ _ hQ => ?_)
  refine (?_ : J mX10_init X 0 [(0, .ref a)] [] (hp E S) 0 0)
  have I0 : Iv E S [a] E S := iv_start hb
  have O0 := ob_first h0 hz hi
  refine J_aload_n dX10_init_0 rfl rfl ?_
  refine J_objInit dX10_init_1 ol_X10_3 (Nat.le_of_ble_eq_true rfl) (Nat.le_of_ble_eq_true rfl) ?_
  refine J_aload_n dX10_init_4 rfl rfl ?_
  refine J_bipush (v := 20) dX10_init_5 (by decide) ?_
  refine jn_farr (j := 0) (kd := 0) (N := 20) I0 O0 List.mem_cons_self rfl rfl rfl dX10_init_7 rfl (by decide) ac_i (by decide) (by decide) (by decide) (Nat.le_of_ble_eq_true rfl) (Nat.le_of_ble_eq_true rfl) dX10_init_9 p_X10_9_8 rfl (fun E1 S2 q3 I4 O5 T6 n7 t8 => ?_)
  refine J_aload_n dX10_init_12 rfl rfl ?_
  refine J_bipush (v := 20) dX10_init_13 (by decide) ?_
  refine jn_farr (j := 1) (kd := 1) (N := 20) I4 O5 List.mem_cons_self rfl rfl rfl dX10_init_15 rfl (by decide) ac_z (by decide) (by decide) (by decide) (Nat.le_of_ble_eq_true rfl) (Nat.le_of_ble_eq_true rfl) dX10_init_17 p_X10_15_8 rfl (fun E9 S10 q11 I12 O13 T14 n15 t16 => ?_)
  have g17 := T14.1 _ _ t8
  refine J_aload_n dX10_init_20 rfl rfl ?_
  refine J_iconst (v := 3) dX10_init_21 (by decide) ?_
  refine jn_fint (x := 3) I12 O13 List.mem_cons_self rfl dX10_init_22 p_X10_19_8 (fun S21 I18 O19 T20 => ?_)
  have g22 := T20.1 _ _ g17
  have g23 := T20.1 _ _ t16
  refine J_iconst (v := 0) dX10_init_25 (by decide) ?_
  refine J_istore_n (ls' := [(0, _), (1, _)]) dX10_init_26 rfl (by decide) rfl ?_
  refine J_iload_n dX10_init_27 rfl rfl ?_
  refine J_aload_n dX10_init_28 rfl rfl ?_
  refine JN_getI (x := 3) dX10_init_29 f_X10_19_8 O19.1 rfl (by rw [O19.2.2.1]; rfl) ?_
  refine J_icmp_ge (tgt := 48) dX10_init_32 (by decide) (fun h => absurd h (by decide)) (fun _ => ?_)
  refine J_aload_n dX10_init_35 rfl rfl ?_
  refine JN_getC (b := q3) dX10_init_36 f_X10_9_8 O19.1 rfl (by rw [O19.2.1]; rfl) (nz0 I18.1 g22) ?_
  refine J_iload_n dX10_init_39 rfl rfl ?_
  refine J_iconst (v := (-1)) dX10_init_40 (by decide) ?_
  refine JN_iast dX10_init_41 g22 (by decide) ?_
  have I24 := iv_sG (j := (0 : Int32).toNatClampNeg) (x := (-1)) I18 n7 g22
  have O25 := ob_sG (c := q3) (j := (0 : Int32).toNatClampNeg) (x := (-1)) O19
  refine J_iinc (v := 1) (ls' := [(0, _), (1, _)]) dX10_init_42 rfl (by decide) (by decide) rfl ?_
  refine J_goto (tgt := 27) dX10_init_45 (by decide) ?_
  refine J_iload_n dX10_init_27 rfl rfl ?_
  refine J_aload_n dX10_init_28 rfl rfl ?_
  refine JN_getI (x := 3) dX10_init_29 f_X10_19_8 O25.1 rfl (by rw [O25.2.2.1]; rfl) ?_
  refine J_icmp_ge (tgt := 48) dX10_init_32 (by decide) (fun h => absurd h (by decide)) (fun _ => ?_)
  refine J_aload_n dX10_init_35 rfl rfl ?_
  refine JN_getC (b := q3) dX10_init_36 f_X10_9_8 O25.1 rfl (by rw [O25.2.1]; rfl) (nz0 I24.1 g22) ?_
  refine J_iload_n dX10_init_39 rfl rfl ?_
  refine J_iconst (v := (-1)) dX10_init_40 (by decide) ?_
  refine JN_iast dX10_init_41 g22 (by decide) ?_
  have I26 := iv_sG (j := (1 : Int32).toNatClampNeg) (x := (-1)) I24 n7 g22
  have O27 := ob_sG (c := q3) (j := (1 : Int32).toNatClampNeg) (x := (-1)) O25
  refine J_iinc (v := 2) (ls' := [(0, _), (1, _)]) dX10_init_42 rfl (by decide) (by decide) rfl ?_
  refine J_goto (tgt := 27) dX10_init_45 (by decide) ?_
  refine J_iload_n dX10_init_27 rfl rfl ?_
  refine J_aload_n dX10_init_28 rfl rfl ?_
  refine JN_getI (x := 3) dX10_init_29 f_X10_19_8 O27.1 rfl (by rw [O27.2.2.1]; rfl) ?_
  refine J_icmp_ge (tgt := 48) dX10_init_32 (by decide) (fun h => absurd h (by decide)) (fun _ => ?_)
  refine J_aload_n dX10_init_35 rfl rfl ?_
  refine JN_getC (b := q3) dX10_init_36 f_X10_9_8 O27.1 rfl (by rw [O27.2.1]; rfl) (nz0 I26.1 g22) ?_
  refine J_iload_n dX10_init_39 rfl rfl ?_
  refine J_iconst (v := (-1)) dX10_init_40 (by decide) ?_
  refine JN_iast dX10_init_41 g22 (by decide) ?_
  have I28 := iv_sG (j := (2 : Int32).toNatClampNeg) (x := (-1)) I26 n7 g22
  have O29 := ob_sG (c := q3) (j := (2 : Int32).toNatClampNeg) (x := (-1)) O27
  refine J_iinc (v := 3) (ls' := [(0, _), (1, _)]) dX10_init_42 rfl (by decide) (by decide) rfl ?_
  refine J_goto (tgt := 27) dX10_init_45 (by decide) ?_
  refine J_iload_n dX10_init_27 rfl rfl ?_
  refine J_aload_n dX10_init_28 rfl rfl ?_
  refine JN_getI (x := 3) dX10_init_29 f_X10_19_8 O29.1 rfl (by rw [O29.2.2.1]; rfl) ?_
  refine J_icmp_ge (tgt := 48) dX10_init_32 (by decide) (fun _ => ?_) (fun h => absurd (by decide) h)
  exact J_nret dX10_init_48 hQ rfl (Nat.le_of_ble_eq_true rfl) (Nat.le_of_ble_eq_true rfl) ⟨I28, q3, q11, O29, fun i hi => by
      rcases (show i = 0 ∨ i = 1 ∨ i = 2 by omega) with rfl | rfl | rfl <;> simp [sG, up2, show (0 : Int32).toNatClampNeg = 0 from by decide, show (1 : Int32).toNatClampNeg = 1 from by decide, show (2 : Int32).toNatClampNeg = 2 from by decide]⟩
theorem sF_zero {S : St} {a j : Nat} (h : S.1 a = fun _ => 0) : (sF S a j 0).1 = S.1 := by
  funext z i
  show (if z = a ∧ i = j then 0 else S.1 z i) = S.1 z i
  by_cases e : z = a ∧ i = j
  · rw [if_pos e, e.1, h]
  · rw [if_neg e]
theorem JN_putZ {M : Mt} {X : Cx} {E : Ev} {S : St} {pc : Nat} {ls : List (Nat × Value)} {st : List Value} {k n : Nat} {i ci j a : Nat} {x : Int32} (hd : decode M.2.1 pc = .ok (.putfield i, 3)) (hF : PL false M.1.cls i ci j .boolean) (h : E.1 a = some (0, ci, 0)) (hk : (ctab ci)[j]? = some 0) (hx : isB x = true) (kk : J M X (pc + 3) ls st (hp E (sF S a j x)) k n) : J M X pc ls (.int x :: .ref a :: st) (hp E S) k n := J_putf hd hF (hp_o h) (isB_nar hx).1 (isB_nar hx).2 (by rw [fvs_len]; exact (List.getElem?_eq_some_iff.mp hk).1) rfl (by rw [hp_sF h hk]; exact kk)
set_option maxRecDepth 100000 in
theorem n_X3_clear {l : Launch} {E : Ev} {S : St} {a b : Nat} (h0 : E.1 a = some (0, 2, 0)) (h2 : E.2 a 0 = b) (h3 : E.1 b = some (1, 0, 12)) (h4 : S.1 a = fun _ => 0) (hb0 : b ≠ 0) : Cn l mX3_clear [.ref a] (hp E S) (fun v w' => v = none ∧ ∃ S', w' = hp E S' ∧ S'.1 = S.1 ∧ S'.2.2 = S.2.2 ∧ (∀ z, z ≠ b → S'.2.1 z = S.2.1 z) ∧ ∀ i, i < 12 → S'.2.1 b i = -2) := by
  refine Cn.of (by decide) rfl (Nat.le_of_ble_eq_true rfl) (fun X _ _ hQ => ?_)
  refine (?_ : J mX3_clear X 0 [(0, .ref a)] [] (hp E S) 0 0)
  refine J_iconst (v := 0) dX3_clear_0 (by decide) ?_
  refine J_istore_n (ls' := [(0, _), (1, _)]) dX3_clear_1 rfl (by decide) rfl ?_
  refine J_iload_n dX3_clear_2 rfl rfl ?_
  refine J_bipush (v := 12) dX3_clear_3 (by decide) ?_
  refine J_icmp_ge (tgt := 22) dX3_clear_5 (by decide) (fun h => absurd h (by decide)) (fun _ => ?_)
  refine J_aload_n dX3_clear_8 rfl rfl ?_
  refine JN_getC (b := b) dX3_clear_9 f_X3_9_2 h0 rfl h2 hb0 ?_
  refine J_iload_n dX3_clear_12 rfl rfl ?_
  refine J_bipush (v := -2) dX3_clear_13 (by decide) ?_
  refine JN_iast dX3_clear_15 h3 (by decide) ?_
  refine J_iinc (v := 1) (ls' := [(0, _), (1, _)]) dX3_clear_16 rfl (by decide) (by decide) rfl ?_
  refine J_goto (tgt := 2) dX3_clear_19 (by decide) ?_
  refine J_iload_n dX3_clear_2 rfl rfl ?_
  refine J_bipush (v := 12) dX3_clear_3 (by decide) ?_
  refine J_icmp_ge (tgt := 22) dX3_clear_5 (by decide) (fun h => absurd h (by decide)) (fun _ => ?_)
  refine J_aload_n dX3_clear_8 rfl rfl ?_
  refine JN_getC (b := b) dX3_clear_9 f_X3_9_2 h0 rfl h2 hb0 ?_
  refine J_iload_n dX3_clear_12 rfl rfl ?_
  refine J_bipush (v := -2) dX3_clear_13 (by decide) ?_
  refine JN_iast dX3_clear_15 h3 (by decide) ?_
  refine J_iinc (v := 2) (ls' := [(0, _), (1, _)]) dX3_clear_16 rfl (by decide) (by decide) rfl ?_
  refine J_goto (tgt := 2) dX3_clear_19 (by decide) ?_
  refine J_iload_n dX3_clear_2 rfl rfl ?_
  refine J_bipush (v := 12) dX3_clear_3 (by decide) ?_
  refine J_icmp_ge (tgt := 22) dX3_clear_5 (by decide) (fun h => absurd h (by decide)) (fun _ => ?_)
  refine J_aload_n dX3_clear_8 rfl rfl ?_
  refine JN_getC (b := b) dX3_clear_9 f_X3_9_2 h0 rfl h2 hb0 ?_
  refine J_iload_n dX3_clear_12 rfl rfl ?_
  refine J_bipush (v := -2) dX3_clear_13 (by decide) ?_
  refine JN_iast dX3_clear_15 h3 (by decide) ?_
  refine J_iinc (v := 3) (ls' := [(0, _), (1, _)]) dX3_clear_16 rfl (by decide) (by decide) rfl ?_
  refine J_goto (tgt := 2) dX3_clear_19 (by decide) ?_
  refine J_iload_n dX3_clear_2 rfl rfl ?_
  refine J_bipush (v := 12) dX3_clear_3 (by decide) ?_
  refine J_icmp_ge (tgt := 22) dX3_clear_5 (by decide) (fun h => absurd h (by decide)) (fun _ => ?_)
  refine J_aload_n dX3_clear_8 rfl rfl ?_
  refine JN_getC (b := b) dX3_clear_9 f_X3_9_2 h0 rfl h2 hb0 ?_
  refine J_iload_n dX3_clear_12 rfl rfl ?_
  refine J_bipush (v := -2) dX3_clear_13 (by decide) ?_
  refine JN_iast dX3_clear_15 h3 (by decide) ?_
  refine J_iinc (v := 4) (ls' := [(0, _), (1, _)]) dX3_clear_16 rfl (by decide) (by decide) rfl ?_
  refine J_goto (tgt := 2) dX3_clear_19 (by decide) ?_
  refine J_iload_n dX3_clear_2 rfl rfl ?_
  refine J_bipush (v := 12) dX3_clear_3 (by decide) ?_
  refine J_icmp_ge (tgt := 22) dX3_clear_5 (by decide) (fun h => absurd h (by decide)) (fun _ => ?_)
  refine J_aload_n dX3_clear_8 rfl rfl ?_
  refine JN_getC (b := b) dX3_clear_9 f_X3_9_2 h0 rfl h2 hb0 ?_
  refine J_iload_n dX3_clear_12 rfl rfl ?_
  refine J_bipush (v := -2) dX3_clear_13 (by decide) ?_
  refine JN_iast dX3_clear_15 h3 (by decide) ?_
  refine J_iinc (v := 5) (ls' := [(0, _), (1, _)]) dX3_clear_16 rfl (by decide) (by decide) rfl ?_
  refine J_goto (tgt := 2) dX3_clear_19 (by decide) ?_
  refine J_iload_n dX3_clear_2 rfl rfl ?_
  refine J_bipush (v := 12) dX3_clear_3 (by decide) ?_
  refine J_icmp_ge (tgt := 22) dX3_clear_5 (by decide) (fun h => absurd h (by decide)) (fun _ => ?_)
  refine J_aload_n dX3_clear_8 rfl rfl ?_
  refine JN_getC (b := b) dX3_clear_9 f_X3_9_2 h0 rfl h2 hb0 ?_
  refine J_iload_n dX3_clear_12 rfl rfl ?_
  refine J_bipush (v := -2) dX3_clear_13 (by decide) ?_
  refine JN_iast dX3_clear_15 h3 (by decide) ?_
  refine J_iinc (v := 6) (ls' := [(0, _), (1, _)]) dX3_clear_16 rfl (by decide) (by decide) rfl ?_
  refine J_goto (tgt := 2) dX3_clear_19 (by decide) ?_
  refine J_iload_n dX3_clear_2 rfl rfl ?_
  refine J_bipush (v := 12) dX3_clear_3 (by decide) ?_
  refine J_icmp_ge (tgt := 22) dX3_clear_5 (by decide) (fun h => absurd h (by decide)) (fun _ => ?_)
  refine J_aload_n dX3_clear_8 rfl rfl ?_
  refine JN_getC (b := b) dX3_clear_9 f_X3_9_2 h0 rfl h2 hb0 ?_
  refine J_iload_n dX3_clear_12 rfl rfl ?_
  refine J_bipush (v := -2) dX3_clear_13 (by decide) ?_
  refine JN_iast dX3_clear_15 h3 (by decide) ?_
  refine J_iinc (v := 7) (ls' := [(0, _), (1, _)]) dX3_clear_16 rfl (by decide) (by decide) rfl ?_
  refine J_goto (tgt := 2) dX3_clear_19 (by decide) ?_
  refine J_iload_n dX3_clear_2 rfl rfl ?_
  refine J_bipush (v := 12) dX3_clear_3 (by decide) ?_
  refine J_icmp_ge (tgt := 22) dX3_clear_5 (by decide) (fun h => absurd h (by decide)) (fun _ => ?_)
  refine J_aload_n dX3_clear_8 rfl rfl ?_
  refine JN_getC (b := b) dX3_clear_9 f_X3_9_2 h0 rfl h2 hb0 ?_
  refine J_iload_n dX3_clear_12 rfl rfl ?_
  refine J_bipush (v := -2) dX3_clear_13 (by decide) ?_
  refine JN_iast dX3_clear_15 h3 (by decide) ?_
  refine J_iinc (v := 8) (ls' := [(0, _), (1, _)]) dX3_clear_16 rfl (by decide) (by decide) rfl ?_
  refine J_goto (tgt := 2) dX3_clear_19 (by decide) ?_
  refine J_iload_n dX3_clear_2 rfl rfl ?_
  refine J_bipush (v := 12) dX3_clear_3 (by decide) ?_
  refine J_icmp_ge (tgt := 22) dX3_clear_5 (by decide) (fun h => absurd h (by decide)) (fun _ => ?_)
  refine J_aload_n dX3_clear_8 rfl rfl ?_
  refine JN_getC (b := b) dX3_clear_9 f_X3_9_2 h0 rfl h2 hb0 ?_
  refine J_iload_n dX3_clear_12 rfl rfl ?_
  refine J_bipush (v := -2) dX3_clear_13 (by decide) ?_
  refine JN_iast dX3_clear_15 h3 (by decide) ?_
  refine J_iinc (v := 9) (ls' := [(0, _), (1, _)]) dX3_clear_16 rfl (by decide) (by decide) rfl ?_
  refine J_goto (tgt := 2) dX3_clear_19 (by decide) ?_
  refine J_iload_n dX3_clear_2 rfl rfl ?_
  refine J_bipush (v := 12) dX3_clear_3 (by decide) ?_
  refine J_icmp_ge (tgt := 22) dX3_clear_5 (by decide) (fun h => absurd h (by decide)) (fun _ => ?_)
  refine J_aload_n dX3_clear_8 rfl rfl ?_
  refine JN_getC (b := b) dX3_clear_9 f_X3_9_2 h0 rfl h2 hb0 ?_
  refine J_iload_n dX3_clear_12 rfl rfl ?_
  refine J_bipush (v := -2) dX3_clear_13 (by decide) ?_
  refine JN_iast dX3_clear_15 h3 (by decide) ?_
  refine J_iinc (v := 10) (ls' := [(0, _), (1, _)]) dX3_clear_16 rfl (by decide) (by decide) rfl ?_
  refine J_goto (tgt := 2) dX3_clear_19 (by decide) ?_
  refine J_iload_n dX3_clear_2 rfl rfl ?_
  refine J_bipush (v := 12) dX3_clear_3 (by decide) ?_
  refine J_icmp_ge (tgt := 22) dX3_clear_5 (by decide) (fun h => absurd h (by decide)) (fun _ => ?_)
  refine J_aload_n dX3_clear_8 rfl rfl ?_
  refine JN_getC (b := b) dX3_clear_9 f_X3_9_2 h0 rfl h2 hb0 ?_
  refine J_iload_n dX3_clear_12 rfl rfl ?_
  refine J_bipush (v := -2) dX3_clear_13 (by decide) ?_
  refine JN_iast dX3_clear_15 h3 (by decide) ?_
  refine J_iinc (v := 11) (ls' := [(0, _), (1, _)]) dX3_clear_16 rfl (by decide) (by decide) rfl ?_
  refine J_goto (tgt := 2) dX3_clear_19 (by decide) ?_
  refine J_iload_n dX3_clear_2 rfl rfl ?_
  refine J_bipush (v := 12) dX3_clear_3 (by decide) ?_
  refine J_icmp_ge (tgt := 22) dX3_clear_5 (by decide) (fun h => absurd h (by decide)) (fun _ => ?_)
  refine J_aload_n dX3_clear_8 rfl rfl ?_
  refine JN_getC (b := b) dX3_clear_9 f_X3_9_2 h0 rfl h2 hb0 ?_
  refine J_iload_n dX3_clear_12 rfl rfl ?_
  refine J_bipush (v := -2) dX3_clear_13 (by decide) ?_
  refine JN_iast dX3_clear_15 h3 (by decide) ?_
  refine J_iinc (v := 12) (ls' := [(0, _), (1, _)]) dX3_clear_16 rfl (by decide) (by decide) rfl ?_
  refine J_goto (tgt := 2) dX3_clear_19 (by decide) ?_
  refine J_iload_n dX3_clear_2 rfl rfl ?_
  refine J_bipush (v := 12) dX3_clear_3 (by decide) ?_
  refine J_icmp_ge (tgt := 22) dX3_clear_5 (by decide) (fun _ => ?_) (fun h => absurd (by decide) h)
  refine J_aload_n dX3_clear_22 rfl rfl ?_
  refine J_iconst (v := 0) dX3_clear_23 (by decide) ?_
  refine JN_putI dX3_clear_24 p_X3_18_2 h0 rfl ?_
  refine J_aload_n dX3_clear_27 rfl rfl ?_
  refine J_iconst (v := 0) dX3_clear_28 (by decide) ?_
  refine JN_putZ dX3_clear_29 p_X3_22_2 h0 rfl rfl ?_
  refine J_vret dX3_clear_32 hQ rfl (Nat.le_of_ble_eq_true rfl) (Nat.le_of_ble_eq_true rfl) ⟨rfl, _, rfl, ?_, rfl, fun z hz => ?_, fun i hi => ?_⟩
  · exact (sF_zero ((congrFun (sF_zero h4) a).trans h4)).trans (sF_zero h4)
  · funext i
    simp [sG, sF, up2, hz]
  · rcases (show i = 0 ∨ i = 1 ∨ i = 2 ∨ i = 3 ∨ i = 4 ∨ i = 5 ∨ i = 6 ∨ i = 7 ∨ i = 8 ∨ i = 9 ∨ i = 10 ∨ i = 11 by omega) with rfl | rfl | rfl | rfl | rfl | rfl | rfl | rfl | rfl | rfl | rfl | rfl <;> simp [sG, sF, up2, show (0 : Int32).toNatClampNeg = 0 from by decide, show (1 : Int32).toNatClampNeg = 1 from by decide, show (2 : Int32).toNatClampNeg = 2 from by decide, show (3 : Int32).toNatClampNeg = 3 from by decide, show (4 : Int32).toNatClampNeg = 4 from by decide, show (5 : Int32).toNatClampNeg = 5 from by decide, show (6 : Int32).toNatClampNeg = 6 from by decide, show (7 : Int32).toNatClampNeg = 7 from by decide, show (8 : Int32).toNatClampNeg = 8 from by decide, show (9 : Int32).toNatClampNeg = 9 from by decide, show (10 : Int32).toNatClampNeg = 10 from by decide, show (11 : Int32).toNatClampNeg = 11 from by decide]
set_option maxRecDepth 100000 in
theorem n_X11 {l : Launch} {E : Ev} {S : St} {a : Nat} (hb : Bs E) (h0 : E.1 a = some (0, 9, 0)) (hz : E.2 a = fun _ => 0) (hi : S.1 a = fun _ => 0) : Cn l mX11_init [.ref a] (hp E S) (PoN (fun E' S' => Iv E S [a] E' S' ∧ ∃ ty me co dr inf de J K sc dl ds ds0 prJ caJ exJ maJ peJ prK caK exK maK, Obj 9 a [(8, K), (7, J), (6, de), (5, inf), (3, dr), (2, co), (1, me), (0, ty)] [(10, 0), (9, -1), (4, 0)] E' S' ∧ Obj 8 ty [(1, ds0), (0, sc)] [(2, 3)] E' S' ∧ (∀ i, i < 3 → S'.2.1 sc i = -1) ∧ Obj 2 dr [(1, ds), (0, dl)] [] E' S' ∧ (∀ i, i < 12 → S'.2.1 dl i = -2) ∧ Obj 4 J [(9, inf), (10, peJ), (7, maJ), (6, exJ), (0, co), (5, me), (1, ty), (8, caJ), (2, prJ)] [(4, 0), (3, -1)] E' S' ∧ Obj 1 exJ [(2, co), (1, me), (0, ty)] [(3, -1)] E' S' ∧ Obj 6 maJ [(2, co), (1, me), (0, ty)] [(4, 0)] E' S' ∧ Obj 5 K [(9, de), (7, maK), (6, exK), (0, co), (5, me), (1, ty), (8, caK), (2, prK)] [(4, 0), (3, -1)] E' S' ∧ Obj 1 exK [(2, co), (1, me), (0, ty)] [(3, -1)] E' S' ∧ Obj 6 maK [(2, co), (1, me), (0, ty)] [(4, 0)] E' S' ∧ inf ≠ de)) := by
  refine Cn.of (by decide) rfl (Nat.le_of_ble_eq_true rfl) (fun X _ _ hQ => ?_)
  refine (?_ : J mX11_init X 0 [(0, .ref a)] [] (hp E S) 0 0)
  have I0 : Iv E S [a] E S := iv_start hb
  have O0 := ob_first h0 hz hi
  refine J_aload_n dX11_init_0 rfl rfl ?_
  refine J_objInit dX11_init_1 ol_X11_1 (Nat.le_of_ble_eq_true rfl) (Nat.le_of_ble_eq_true rfl) ?_
  refine J_aload_n dX11_init_4 rfl rfl ?_
  refine JN_new dX11_init_5 nl_X11_7 (Nat.le_of_ble_eq_true rfl) (Nat.le_of_ble_eq_true rfl) (Or.inl ⟨a, _, hp_o O0.1⟩) (fun q1 hq2 hz3 => ?_)
  refine J_dup dX11_init_8 rfl ?_
  refine J_callI (As := []) dX11_init_9 i_X11_9 rfl rfl (Nat.le_of_ble_eq_true rfl) ⟨Nat.le_of_ble_eq_true rfl, Nat.le_of_ble_eq_true rfl, Nat.le_of_ble_eq_true rfl, Nat.le_of_ble_eq_true rfl⟩ (n_X10 (iv_new I0 hq2 hz3).1.1 eN1s eN2s sN1s) (fun v w9 hp9 => ?_)
  obtain ⟨rfl, E8, S9, rfl, g10, q4, q5, o6, i7⟩ := hp9
  obtain ⟨I11, u12, t13, T14, n15⟩ := ac I0 hq2 hz3 g10 (ob_ful (ks := [1, 0]) o6 rfl (by decide) rfl)
  have O16 := T14.2.1 _ _ _ _ trivial O0
  have t17 : E8.1 q4 = some (1, 0, 20) := by
    obtain ⟨u, e1, e2⟩ := o6.2.2.2 (0, q4) (by simp)
    cases e1
    exact e2
  refine jn_fput (j := 0) (u := (0, 8, 0)) I11 O16 List.mem_cons_self rfl rfl rfl t13 (fun h => absurd h (by decide)) dX11_init_12 p_X11_10_9 rfl (fun E21 I18 O19 T20 => ?_)
  have g22 := T20.1 _ _ t13
  have g23 := T20.1 _ _ t17
  have o24 := T20.2.1 _ _ _ _ (ne_ty o6.1 O16.1 (by decide)) o6
  have i25 := fun i hi => (congrFun (T20.2.2.1 _ _ t17) i).trans (i7 i hi)
  refine J_aload_n dX11_init_15 rfl rfl ?_
  refine JN_new dX11_init_16 nl_X11_16 (Nat.le_of_ble_eq_true rfl) (Nat.le_of_ble_eq_true rfl) (Or.inl ⟨a, _, hp_o O19.1⟩) (fun q26 hq27 hz28 => ?_)
  refine J_dup dX11_init_19 rfl ?_
  refine J_callI (As := []) dX11_init_20 i_X11_18 rfl rfl (Nat.le_of_ble_eq_true rfl) ⟨Nat.le_of_ble_eq_true rfl, Nat.le_of_ble_eq_true rfl, Nat.le_of_ble_eq_true rfl, Nat.le_of_ble_eq_true rfl⟩ (n_X8 (iv_new I18 hq27 hz28).1.1 eN1s eN2s sN1s) (fun v w9 hp9 => ?_)
  obtain ⟨rfl, E30, S31, rfl, g32, f29⟩ := hp9
  obtain ⟨I33, u34, t35, T36, n37⟩ := ac I18 hq27 hz28 g32 (f29)
  have O38 := T36.2.1 _ _ _ _ trivial O19
  have g39 := T36.1 _ _ g22
  have g40 := T36.1 _ _ g23
  have o41 := T36.2.1 _ _ _ _ (trivial) o24
  have i42 := fun i hi => (congrFun (T36.2.2.1 _ _ g23) i).trans (i25 i hi)
  refine jn_fput (j := 1) (u := (0, 7, 0)) I33 O38 List.mem_cons_self rfl rfl rfl t35 (fun h => absurd h (by decide)) dX11_init_23 p_X11_19_9 rfl (fun E46 I43 O44 T45 => ?_)
  have g47 := T45.1 _ _ g39
  have g48 := T45.1 _ _ g40
  have g49 := T45.1 _ _ t35
  have o50 := T45.2.1 _ _ _ _ (ne_ty o41.1 O38.1 (by decide)) o41
  have i51 := fun i hi => (congrFun (T45.2.2.1 _ _ g40) i).trans (i42 i hi)
  refine J_aload_n dX11_init_26 rfl rfl ?_
  refine JN_new dX11_init_27 nl_X11_23 (Nat.le_of_ble_eq_true rfl) (Nat.le_of_ble_eq_true rfl) (Or.inl ⟨a, _, hp_o O44.1⟩) (fun q52 hq53 hz54 => ?_)
  refine J_dup dX11_init_30 rfl ?_
  refine J_callI (As := []) dX11_init_31 i_X11_25 rfl rfl (Nat.le_of_ble_eq_true rfl) ⟨Nat.le_of_ble_eq_true rfl, Nat.le_of_ble_eq_true rfl, Nat.le_of_ble_eq_true rfl, Nat.le_of_ble_eq_true rfl⟩ (n_X1 (iv_new I43 hq53 hz54).1.1 eN1s eN2s sN1s) (fun v w9 hp9 => ?_)
  obtain ⟨rfl, E56, S57, rfl, g58, f55⟩ := hp9
  obtain ⟨I59, u60, t61, T62, n63⟩ := ac I43 hq53 hz54 g58 (f55)
  have O64 := T62.2.1 _ _ _ _ trivial O44
  have g65 := T62.1 _ _ g47
  have g66 := T62.1 _ _ g48
  have g67 := T62.1 _ _ g49
  have o68 := T62.2.1 _ _ _ _ (trivial) o50
  have i69 := fun i hi => (congrFun (T62.2.2.1 _ _ g48) i).trans (i51 i hi)
  refine jn_fput (j := 2) (u := (0, 0, 0)) I59 O64 List.mem_cons_self rfl rfl rfl t61 (fun h => absurd h (by decide)) dX11_init_34 p_X11_26_9 rfl (fun E73 I70 O71 T72 => ?_)
  have g74 := T72.1 _ _ g65
  have g75 := T72.1 _ _ g66
  have g76 := T72.1 _ _ g67
  have g77 := T72.1 _ _ t61
  have o78 := T72.2.1 _ _ _ _ (ne_ty o68.1 O64.1 (by decide)) o68
  have i79 := fun i hi => (congrFun (T72.2.2.1 _ _ g66) i).trans (i69 i hi)
  refine J_aload_n dX11_init_37 rfl rfl ?_
  refine JN_new dX11_init_38 nl_X11_30 (Nat.le_of_ble_eq_true rfl) (Nat.le_of_ble_eq_true rfl) (Or.inl ⟨a, _, hp_o O71.1⟩) (fun q80 hq81 hz82 => ?_)
  refine J_dup dX11_init_41 rfl ?_
  refine J_callI (As := []) dX11_init_42 i_X11_32 rfl rfl (Nat.le_of_ble_eq_true rfl) ⟨Nat.le_of_ble_eq_true rfl, Nat.le_of_ble_eq_true rfl, Nat.le_of_ble_eq_true rfl, Nat.le_of_ble_eq_true rfl⟩ (n_X3 (iv_new I70 hq81 hz82).1.1 eN1s eN2s sN1s) (fun v w9 hp9 => ?_)
  obtain ⟨rfl, E88, S89, rfl, g90, q83, q84, o85, n86, n87⟩ := hp9
  have n91 := ext_none I70.2.1 (ext_none (Ext_eN hq81) n86)
  obtain ⟨I92, u93, t94, T95, n96⟩ := ac I70 hq81 hz82 g90 (ob_ful (ks := [1, 0]) o85 rfl (by decide) rfl)
  have O97 := T95.2.1 _ _ _ _ trivial O71
  have g98 := T95.1 _ _ g74
  have g99 := T95.1 _ _ g75
  have g100 := T95.1 _ _ g76
  have g101 := T95.1 _ _ g77
  have o102 := T95.2.1 _ _ _ _ (trivial) o78
  have i103 := fun i hi => (congrFun (T95.2.2.1 _ _ g75) i).trans (i79 i hi)
  have t104 : E88.1 q83 = some (1, 0, 12) := by
    obtain ⟨u, e1, e2⟩ := o85.2.2.2 (0, q83) (by simp)
    cases e1
    exact e2
  refine jn_fput (j := 3) (u := (0, 2, 0)) I92 O97 List.mem_cons_self rfl rfl rfl t94 (fun _ => ⟨u93, n96⟩) dX11_init_45 p_X11_33_9 rfl (fun E108 I105 O106 T107 => ?_)
  have g109 := T107.1 _ _ g98
  have g110 := T107.1 _ _ g99
  have g111 := T107.1 _ _ g100
  have g112 := T107.1 _ _ g101
  have g113 := T107.1 _ _ t94
  have g114 := T107.1 _ _ t104
  have o115 := T107.2.1 _ _ _ _ (ne_ty o102.1 O97.1 (by decide)) o102
  have o116 := T107.2.1 _ _ _ _ (ne_ty o85.1 O97.1 (by decide)) o85
  have i117 := fun i hi => (congrFun (T107.2.2.1 _ _ g99) i).trans (i103 i hi)
  refine J_aload_n dX11_init_48 rfl rfl ?_
  refine JN_getC (b := q80) dX11_init_49 f_X11_33_9 O106.1 rfl (by rw [O106.2.1]; rfl) (nz0 I105.1 g113) ?_
  refine J_callV (As := []) (r := (RX3, TX3, 4)) dX11_init_52 v_X11_37 (hp_o o116.1) rfl rfl rfl rfl (Nat.le_of_ble_eq_true rfl) ⟨Nat.le_of_ble_eq_true rfl, Nat.le_of_ble_eq_true rfl, Nat.le_of_ble_eq_true rfl, Nat.le_of_ble_eq_true rfl⟩ (n_X3_clear o116.1 (by rw [o116.2.1]; rfl) g114 o116.2.2.1 (nz0 I105.1 g114)) (fun v w9 hp9 => ?_)
  obtain ⟨rfl, S118, rfl, h119, h120, h121, h122⟩ := hp9
  have I123 := iv_arr I105 n91 g114 h119 h120 h121
  have O124 := ob_S O106 h119
  have o125 := ob_S o115 h119
  have o126 := ob_S o116 h119
  have i127 := fun i hi => (congrFun (h121 _ (ne_ty g110 g114 (by decide))) i).trans (i117 i hi)
  refine J_aload_n dX11_init_55 rfl rfl ?_
  refine J_iconst (v := 0) dX11_init_56 (by decide) ?_
  refine jn_fint (x := 0) I123 O124 List.mem_cons_self rfl dX11_init_57 p_X11_40_9 (fun S131 I128 O129 T130 => ?_)
  have g132 := T130.1 _ _ g109
  have g133 := T130.1 _ _ g110
  have g134 := T130.1 _ _ g111
  have g135 := T130.1 _ _ g112
  have g136 := T130.1 _ _ g113
  have g137 := T130.1 _ _ g114
  have o138 := T130.2.1 _ _ _ _ (ne_ty o125.1 O124.1 (by decide)) o125
  have o139 := T130.2.1 _ _ _ _ (ne_ty o126.1 O124.1 (by decide)) o126
  have i140 := fun i hi => (congrFun (T130.2.2.1 _ _ g110) i).trans (i127 i hi)
  have i141 := fun i hi => (congrFun (T130.2.2.1 _ _ g114) i).trans (h122 i hi)
  refine J_aload_n dX11_init_60 rfl rfl ?_
  refine JN_new dX11_init_61 nl_X11_44 (Nat.le_of_ble_eq_true rfl) (Nat.le_of_ble_eq_true rfl) (Or.inl ⟨a, _, hp_o O129.1⟩) (fun q142 hq143 hz144 => ?_)
  refine J_dup dX11_init_64 rfl ?_
  refine J_callI (As := []) dX11_init_65 i_X11_46 rfl rfl (Nat.le_of_ble_eq_true rfl) ⟨Nat.le_of_ble_eq_true rfl, Nat.le_of_ble_eq_true rfl, Nat.le_of_ble_eq_true rfl, Nat.le_of_ble_eq_true rfl⟩ (n_X4 (iv_new I128 hq143 hz144).1.1 eN1s eN2s sN1s) (fun v w9 hp9 => ?_)
  obtain ⟨rfl, E146, S147, rfl, g148, f145⟩ := hp9
  obtain ⟨I149, u150, t151, T152, n153⟩ := ac I128 hq143 hz144 g148 (f145)
  have O154 := T152.2.1 _ _ _ _ trivial O129
  have g155 := T152.1 _ _ g132
  have g156 := T152.1 _ _ g133
  have g157 := T152.1 _ _ g134
  have g158 := T152.1 _ _ g135
  have g159 := T152.1 _ _ g136
  have g160 := T152.1 _ _ g137
  have o161 := T152.2.1 _ _ _ _ (trivial) o138
  have o162 := T152.2.1 _ _ _ _ (trivial) o139
  have i163 := fun i hi => (congrFun (T152.2.2.1 _ _ g133) i).trans (i140 i hi)
  have i164 := fun i hi => (congrFun (T152.2.2.1 _ _ g137) i).trans (i141 i hi)
  refine jn_fput (j := 5) (u := (0, 3, 0)) I149 O154 List.mem_cons_self rfl rfl rfl t151 (fun h => absurd h (by decide)) dX11_init_68 p_X11_47_9 rfl (fun E168 I165 O166 T167 => ?_)
  have g169 := T167.1 _ _ g155
  have g170 := T167.1 _ _ g156
  have g171 := T167.1 _ _ g157
  have g172 := T167.1 _ _ g158
  have g173 := T167.1 _ _ g159
  have g174 := T167.1 _ _ g160
  have g175 := T167.1 _ _ t151
  have o176 := T167.2.1 _ _ _ _ (ne_ty o161.1 O154.1 (by decide)) o161
  have o177 := T167.2.1 _ _ _ _ (ne_ty o162.1 O154.1 (by decide)) o162
  have i178 := fun i hi => (congrFun (T167.2.2.1 _ _ g156) i).trans (i163 i hi)
  have i179 := fun i hi => (congrFun (T167.2.2.1 _ _ g160) i).trans (i164 i hi)
  refine J_aload_n dX11_init_71 rfl rfl ?_
  refine JN_new dX11_init_72 nl_X11_44 (Nat.le_of_ble_eq_true rfl) (Nat.le_of_ble_eq_true rfl) (Or.inl ⟨a, _, hp_o O166.1⟩) (fun q180 hq181 hz182 => ?_)
  have nid : q142 ≠ q180 := ne_new (t := (0, 3, 0)) (by assumption) hq181
  refine J_dup dX11_init_75 rfl ?_
  refine J_callI (As := []) dX11_init_76 i_X11_46 rfl rfl (Nat.le_of_ble_eq_true rfl) ⟨Nat.le_of_ble_eq_true rfl, Nat.le_of_ble_eq_true rfl, Nat.le_of_ble_eq_true rfl, Nat.le_of_ble_eq_true rfl⟩ (n_X4 (iv_new I165 hq181 hz182).1.1 eN1s eN2s sN1s) (fun v w9 hp9 => ?_)
  obtain ⟨rfl, E184, S185, rfl, g186, f183⟩ := hp9
  obtain ⟨I187, u188, t189, T190, n191⟩ := ac I165 hq181 hz182 g186 (f183)
  have O192 := T190.2.1 _ _ _ _ trivial O166
  have g193 := T190.1 _ _ g169
  have g194 := T190.1 _ _ g170
  have g195 := T190.1 _ _ g171
  have g196 := T190.1 _ _ g172
  have g197 := T190.1 _ _ g173
  have g198 := T190.1 _ _ g174
  have g199 := T190.1 _ _ g175
  have o200 := T190.2.1 _ _ _ _ (trivial) o176
  have o201 := T190.2.1 _ _ _ _ (trivial) o177
  have i202 := fun i hi => (congrFun (T190.2.2.1 _ _ g170) i).trans (i178 i hi)
  have i203 := fun i hi => (congrFun (T190.2.2.1 _ _ g174) i).trans (i179 i hi)
  refine jn_fput (j := 6) (u := (0, 3, 0)) I187 O192 List.mem_cons_self rfl rfl rfl t189 (fun h => absurd h (by decide)) dX11_init_79 p_X11_51_9 rfl (fun E207 I204 O205 T206 => ?_)
  have g208 := T206.1 _ _ g193
  have g209 := T206.1 _ _ g194
  have g210 := T206.1 _ _ g195
  have g211 := T206.1 _ _ g196
  have g212 := T206.1 _ _ g197
  have g213 := T206.1 _ _ g198
  have g214 := T206.1 _ _ g199
  have g215 := T206.1 _ _ t189
  have o216 := T206.2.1 _ _ _ _ (ne_ty o200.1 O192.1 (by decide)) o200
  have o217 := T206.2.1 _ _ _ _ (ne_ty o201.1 O192.1 (by decide)) o201
  have i218 := fun i hi => (congrFun (T206.2.2.1 _ _ g194) i).trans (i202 i hi)
  have i219 := fun i hi => (congrFun (T206.2.2.1 _ _ g198) i).trans (i203 i hi)
  refine J_aload_n dX11_init_82 rfl rfl ?_
  refine JN_new dX11_init_83 nl_X11_54 (Nat.le_of_ble_eq_true rfl) (Nat.le_of_ble_eq_true rfl) (Or.inl ⟨a, _, hp_o O205.1⟩) (fun q220 hq221 hz222 => ?_)
  refine J_dup dX11_init_86 rfl ?_
  refine J_aload_n dX11_init_87 rfl rfl ?_
  refine JN_getC (b := q1) dX11_init_88 f_X11_10_9 (ob_new (t := (0, 4, 0)) O205 hq221).1 rfl (by rw [(ob_new (t := (0, 4, 0)) O205 hq221).2.1]; rfl) (nz0 (iv_new (t := (0, 4, 0)) I204 hq221 hz222).1.1 (Ext_eN hq221 _ _ g208)) ?_
  refine J_aload_n dX11_init_91 rfl rfl ?_
  refine JN_getC (b := q26) dX11_init_92 f_X11_19_9 (ob_new (t := (0, 4, 0)) O205 hq221).1 rfl (by rw [(ob_new (t := (0, 4, 0)) O205 hq221).2.1]; rfl) (nz0 (iv_new (t := (0, 4, 0)) I204 hq221 hz222).1.1 (Ext_eN hq221 _ _ g210)) ?_
  refine J_aload_n dX11_init_95 rfl rfl ?_
  refine JN_getC (b := q52) dX11_init_96 f_X11_26_9 (ob_new (t := (0, 4, 0)) O205 hq221).1 rfl (by rw [(ob_new (t := (0, 4, 0)) O205 hq221).2.1]; rfl) (nz0 (iv_new (t := (0, 4, 0)) I204 hq221 hz222).1.1 (Ext_eN hq221 _ _ g211)) ?_
  refine J_aload_n dX11_init_99 rfl rfl ?_
  refine JN_getC (b := q142) dX11_init_100 f_X11_47_9 (ob_new (t := (0, 4, 0)) O205 hq221).1 rfl (by rw [(ob_new (t := (0, 4, 0)) O205 hq221).2.1]; rfl) (nz0 (iv_new (t := (0, 4, 0)) I204 hq221 hz222).1.1 (Ext_eN hq221 _ _ g214)) ?_
  refine J_callI (As := [.ref q1, .ref q26, .ref q52, .ref q142]) dX11_init_103 i_X11_56 rfl rfl (Nat.le_of_ble_eq_true rfl) ⟨Nat.le_of_ble_eq_true rfl, Nat.le_of_ble_eq_true rfl, Nat.le_of_ble_eq_true rfl, Nat.le_of_ble_eq_true rfl⟩ (n_X5 (iv_new I204 hq221 hz222).1.1 eN1s eN2s sN1s (Ext_eN hq221 _ _ g208) (Ext_eN hq221 _ _ g210) (Ext_eN hq221 _ _ g211) (Ext_eN hq221 _ _ g214)) (fun v w9 hp9 => ?_)
  obtain ⟨rfl, E231, S232, rfl, g233, pr223, ca224, ex225, ma226, pe227, o228, o229, o230⟩ := hp9
  obtain ⟨I234, u235, t236, T237, n238⟩ := ac I204 hq221 hz222 g233 (ob_ful (ks := [9, 10, 7, 6, 0, 5, 1, 8, 2]) o228 rfl (by decide) rfl)
  have O239 := T237.2.1 _ _ _ _ trivial O205
  have g240 := T237.1 _ _ g208
  have g241 := T237.1 _ _ g209
  have g242 := T237.1 _ _ g210
  have g243 := T237.1 _ _ g211
  have g244 := T237.1 _ _ g212
  have g245 := T237.1 _ _ g213
  have g246 := T237.1 _ _ g214
  have g247 := T237.1 _ _ g215
  have o248 := T237.2.1 _ _ _ _ (trivial) o216
  have o249 := T237.2.1 _ _ _ _ (trivial) o217
  have i250 := fun i hi => (congrFun (T237.2.2.1 _ _ g209) i).trans (i218 i hi)
  have i251 := fun i hi => (congrFun (T237.2.2.1 _ _ g213) i).trans (i219 i hi)
  refine jn_fput (j := 7) (u := (0, 4, 0)) I234 O239 List.mem_cons_self rfl rfl rfl t236 (fun h => absurd h (by decide)) dX11_init_106 p_X11_59_9 rfl (fun E255 I252 O253 T254 => ?_)
  have g256 := T254.1 _ _ g240
  have g257 := T254.1 _ _ g241
  have g258 := T254.1 _ _ g242
  have g259 := T254.1 _ _ g243
  have g260 := T254.1 _ _ g244
  have g261 := T254.1 _ _ g245
  have g262 := T254.1 _ _ g246
  have g263 := T254.1 _ _ g247
  have g264 := T254.1 _ _ t236
  have o265 := T254.2.1 _ _ _ _ (ne_ty o248.1 O239.1 (by decide)) o248
  have o266 := T254.2.1 _ _ _ _ (ne_ty o249.1 O239.1 (by decide)) o249
  have o267 := T254.2.1 _ _ _ _ (ne_ty o228.1 O239.1 (by decide)) o228
  have o268 := T254.2.1 _ _ _ _ (ne_ty o229.1 O239.1 (by decide)) o229
  have o269 := T254.2.1 _ _ _ _ (ne_ty o230.1 O239.1 (by decide)) o230
  have i270 := fun i hi => (congrFun (T254.2.2.1 _ _ g241) i).trans (i250 i hi)
  have i271 := fun i hi => (congrFun (T254.2.2.1 _ _ g245) i).trans (i251 i hi)
  refine J_aload_n dX11_init_109 rfl rfl ?_
  refine JN_new dX11_init_110 nl_X11_63 (Nat.le_of_ble_eq_true rfl) (Nat.le_of_ble_eq_true rfl) (Or.inl ⟨a, _, hp_o O253.1⟩) (fun q272 hq273 hz274 => ?_)
  refine J_dup dX11_init_113 rfl ?_
  refine J_aload_n dX11_init_114 rfl rfl ?_
  refine JN_getC (b := q1) dX11_init_115 f_X11_10_9 (ob_new (t := (0, 5, 0)) O253 hq273).1 rfl (by rw [(ob_new (t := (0, 5, 0)) O253 hq273).2.1]; rfl) (nz0 (iv_new (t := (0, 5, 0)) I252 hq273 hz274).1.1 (Ext_eN hq273 _ _ g256)) ?_
  refine J_aload_n dX11_init_118 rfl rfl ?_
  refine JN_getC (b := q26) dX11_init_119 f_X11_19_9 (ob_new (t := (0, 5, 0)) O253 hq273).1 rfl (by rw [(ob_new (t := (0, 5, 0)) O253 hq273).2.1]; rfl) (nz0 (iv_new (t := (0, 5, 0)) I252 hq273 hz274).1.1 (Ext_eN hq273 _ _ g258)) ?_
  refine J_aload_n dX11_init_122 rfl rfl ?_
  refine JN_getC (b := q52) dX11_init_123 f_X11_26_9 (ob_new (t := (0, 5, 0)) O253 hq273).1 rfl (by rw [(ob_new (t := (0, 5, 0)) O253 hq273).2.1]; rfl) (nz0 (iv_new (t := (0, 5, 0)) I252 hq273 hz274).1.1 (Ext_eN hq273 _ _ g259)) ?_
  refine J_aload_n dX11_init_126 rfl rfl ?_
  refine JN_getC (b := q180) dX11_init_127 f_X11_51_9 (ob_new (t := (0, 5, 0)) O253 hq273).1 rfl (by rw [(ob_new (t := (0, 5, 0)) O253 hq273).2.1]; rfl) (nz0 (iv_new (t := (0, 5, 0)) I252 hq273 hz274).1.1 (Ext_eN hq273 _ _ g263)) ?_
  refine J_callI (As := [.ref q1, .ref q26, .ref q52, .ref q180]) dX11_init_130 i_X11_65 rfl rfl (Nat.le_of_ble_eq_true rfl) ⟨Nat.le_of_ble_eq_true rfl, Nat.le_of_ble_eq_true rfl, Nat.le_of_ble_eq_true rfl, Nat.le_of_ble_eq_true rfl⟩ (n_X6 (iv_new I252 hq273 hz274).1.1 eN1s eN2s sN1s (Ext_eN hq273 _ _ g256) (Ext_eN hq273 _ _ g258) (Ext_eN hq273 _ _ g259) (Ext_eN hq273 _ _ g263)) (fun v w9 hp9 => ?_)
  obtain ⟨rfl, E282, S283, rfl, g284, pr275, ca276, ex277, ma278, o279, o280, o281⟩ := hp9
  obtain ⟨I285, u286, t287, T288, n289⟩ := ac I252 hq273 hz274 g284 (ob_ful (ks := [9, 7, 6, 0, 5, 1, 8, 2]) o279 rfl (by decide) rfl)
  have O290 := T288.2.1 _ _ _ _ trivial O253
  have g291 := T288.1 _ _ g256
  have g292 := T288.1 _ _ g257
  have g293 := T288.1 _ _ g258
  have g294 := T288.1 _ _ g259
  have g295 := T288.1 _ _ g260
  have g296 := T288.1 _ _ g261
  have g297 := T288.1 _ _ g262
  have g298 := T288.1 _ _ g263
  have g299 := T288.1 _ _ g264
  have o300 := T288.2.1 _ _ _ _ (trivial) o265
  have o301 := T288.2.1 _ _ _ _ (trivial) o266
  have o302 := T288.2.1 _ _ _ _ (trivial) o267
  have o303 := T288.2.1 _ _ _ _ (trivial) o268
  have o304 := T288.2.1 _ _ _ _ (trivial) o269
  have i305 := fun i hi => (congrFun (T288.2.2.1 _ _ g257) i).trans (i270 i hi)
  have i306 := fun i hi => (congrFun (T288.2.2.1 _ _ g261) i).trans (i271 i hi)
  refine jn_fput (j := 8) (u := (0, 5, 0)) I285 O290 List.mem_cons_self rfl rfl rfl t287 (fun h => absurd h (by decide)) dX11_init_133 p_X11_66_9 rfl (fun E310 I307 O308 T309 => ?_)
  have g311 := T309.1 _ _ g291
  have g312 := T309.1 _ _ g292
  have g313 := T309.1 _ _ g293
  have g314 := T309.1 _ _ g294
  have g315 := T309.1 _ _ g295
  have g316 := T309.1 _ _ g296
  have g317 := T309.1 _ _ g297
  have g318 := T309.1 _ _ g298
  have g319 := T309.1 _ _ g299
  have g320 := T309.1 _ _ t287
  have o321 := T309.2.1 _ _ _ _ (ne_ty o300.1 O290.1 (by decide)) o300
  have o322 := T309.2.1 _ _ _ _ (ne_ty o301.1 O290.1 (by decide)) o301
  have o323 := T309.2.1 _ _ _ _ (ne_ty o302.1 O290.1 (by decide)) o302
  have o324 := T309.2.1 _ _ _ _ (ne_ty o303.1 O290.1 (by decide)) o303
  have o325 := T309.2.1 _ _ _ _ (ne_ty o304.1 O290.1 (by decide)) o304
  have o326 := T309.2.1 _ _ _ _ (ne_ty o279.1 O290.1 (by decide)) o279
  have o327 := T309.2.1 _ _ _ _ (ne_ty o280.1 O290.1 (by decide)) o280
  have o328 := T309.2.1 _ _ _ _ (ne_ty o281.1 O290.1 (by decide)) o281
  have i329 := fun i hi => (congrFun (T309.2.2.1 _ _ g292) i).trans (i305 i hi)
  have i330 := fun i hi => (congrFun (T309.2.2.1 _ _ g296) i).trans (i306 i hi)
  refine J_aload_n dX11_init_136 rfl rfl ?_
  refine J_iconst (v := (-1)) dX11_init_137 (by decide) ?_
  refine jn_fint (x := (-1)) I307 O308 List.mem_cons_self rfl dX11_init_138 p_X11_70_9 (fun S334 I331 O332 T333 => ?_)
  have g335 := T333.1 _ _ g311
  have g336 := T333.1 _ _ g312
  have g337 := T333.1 _ _ g313
  have g338 := T333.1 _ _ g314
  have g339 := T333.1 _ _ g315
  have g340 := T333.1 _ _ g316
  have g341 := T333.1 _ _ g317
  have g342 := T333.1 _ _ g318
  have g343 := T333.1 _ _ g319
  have g344 := T333.1 _ _ g320
  have o345 := T333.2.1 _ _ _ _ (ne_ty o321.1 O308.1 (by decide)) o321
  have o346 := T333.2.1 _ _ _ _ (ne_ty o322.1 O308.1 (by decide)) o322
  have o347 := T333.2.1 _ _ _ _ (ne_ty o323.1 O308.1 (by decide)) o323
  have o348 := T333.2.1 _ _ _ _ (ne_ty o324.1 O308.1 (by decide)) o324
  have o349 := T333.2.1 _ _ _ _ (ne_ty o325.1 O308.1 (by decide)) o325
  have o350 := T333.2.1 _ _ _ _ (ne_ty o326.1 O308.1 (by decide)) o326
  have o351 := T333.2.1 _ _ _ _ (ne_ty o327.1 O308.1 (by decide)) o327
  have o352 := T333.2.1 _ _ _ _ (ne_ty o328.1 O308.1 (by decide)) o328
  have i353 := fun i hi => (congrFun (T333.2.2.1 _ _ g312) i).trans (i329 i hi)
  have i354 := fun i hi => (congrFun (T333.2.2.1 _ _ g316) i).trans (i330 i hi)
  refine J_aload_n dX11_init_141 rfl rfl ?_
  refine J_iconst (v := 0) dX11_init_142 (by decide) ?_
  refine jn_fint (x := 0) I331 O332 List.mem_cons_self rfl dX11_init_143 p_X11_73_9 (fun S358 I355 O356 T357 => ?_)
  have g359 := T357.1 _ _ g335
  have g360 := T357.1 _ _ g336
  have g361 := T357.1 _ _ g337
  have g362 := T357.1 _ _ g338
  have g363 := T357.1 _ _ g339
  have g364 := T357.1 _ _ g340
  have g365 := T357.1 _ _ g341
  have g366 := T357.1 _ _ g342
  have g367 := T357.1 _ _ g343
  have g368 := T357.1 _ _ g344
  have o369 := T357.2.1 _ _ _ _ (ne_ty o345.1 O332.1 (by decide)) o345
  have o370 := T357.2.1 _ _ _ _ (ne_ty o346.1 O332.1 (by decide)) o346
  have o371 := T357.2.1 _ _ _ _ (ne_ty o347.1 O332.1 (by decide)) o347
  have o372 := T357.2.1 _ _ _ _ (ne_ty o348.1 O332.1 (by decide)) o348
  have o373 := T357.2.1 _ _ _ _ (ne_ty o349.1 O332.1 (by decide)) o349
  have o374 := T357.2.1 _ _ _ _ (ne_ty o350.1 O332.1 (by decide)) o350
  have o375 := T357.2.1 _ _ _ _ (ne_ty o351.1 O332.1 (by decide)) o351
  have o376 := T357.2.1 _ _ _ _ (ne_ty o352.1 O332.1 (by decide)) o352
  have i377 := fun i hi => (congrFun (T357.2.2.1 _ _ g336) i).trans (i353 i hi)
  have i378 := fun i hi => (congrFun (T357.2.2.1 _ _ g340) i).trans (i354 i hi)
  exact J_nret dX11_init_146 hQ rfl (Nat.le_of_ble_eq_true rfl) (Nat.le_of_ble_eq_true rfl) ⟨I355, q1, q26, q52, q80, q142, q180, q220, q272, q4, q83, _, _, pr223, ca224, ex225, ma226, pe227, pr275, ca276, ex277, ma278, O356, o369, i377, o370, i378, o371, o372, o373, o374, o375, o376, nid⟩
