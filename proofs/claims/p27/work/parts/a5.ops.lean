/-! the class's operations where they succeed -/
section MOK
variable {E : Ev} {S : St} {a fu : Nat} {z : Zs}
/-- an operation succeeds -/
def MO (E : Ev) (a : Nat) (o : Option ((String ⊕ Int32) × St)) (r : Int32) (z : Zs) : Prop := ∃ S', o = some (.inr r, S') ∧ VX E S' a z
theorem mo_of {o : Option ((String ⊕ Int32) × St)} {r : Int32} (h : CO E S a 0 o (.inr r) z) : MO E a o r z := by
  obtain ⟨S', e, v, _⟩ := h
  exact ⟨S', e, v⟩
theorem n32_p (n : Nat) : n32 (n + 1) - 1 = n32 n := by
  rw [show (1 : Int32) = n32 1 from rfl, z_sub (by omega)]; rfl
theorem m_cl (L : LX E a) (iz : IZ z) (vx : VX E S a z) {k : Nat} (hk : cls z.1.1 k = true) (hk31 : k < 2 ^ 31) (hn : z.1.1.1 < 20) : MO E a (sp_X11_declareClass fu E S a (n32 k) 0) (n32 z.1.1.1) (zCl z k false) := by
  have hd := iz.1.1
  have k2 : S.1 (E.2 a 0) 2 = n32 z.1.1.1 := vx.1.1.1
  have tc := t_cls (fu := fu) hd vx.1.1 (n32 k)
  have c : (decide (0 ≤ n32 k) && cls z.1.1 (n32 k).toNatClampNeg) = true := by
    rw [z_nat hk31, hk, n32_ge hk31]; rfl
  have both : ∀ {α : Type} (u w : α), (if b2 false = 0 then u else if n32 k = 2 then u else w) = u := fun u w => if_pos rfl
  have cl : CO E S a 0 (sp_X11_declareClass fu E S a (n32 k) (b2 false)) (.inr (n32 (z.1.1.1 + 1) - 1)) (zCl z k false) := by
    unfold sp_X11_declareClass
    rw [tc, Option.bind_some, b2_if, if_pos c, both]
    unfold jb_X11_declareClass_30
    dsimp only
    rw [k2, show (20 : Int32) = n32 20 from rfl, zi_lt (by omega) (by decide), if_pos hn]
    exact c_Cl L trivial hd vx hn
  rw [n32_p] at cl
  exact mo_of cl
theorem m_pm (L : LX E a) (iz : IZ z) (vx : VX E S a z) {t : Nat} (ht : isT z.1.1 t = true) (ht31 : t < 2 ^ 31) (hn : psum (zP z).2 (zP z).1 + wide t ≤ 6) : MO E a (sp_X11_parameter fu E S a (n32 t)) (n32 (psum (zP z).2 (zP z).1 + wide t)) (zPm z t) := by
  have hd := iz.1.1
  have k12 : S.1 (E.2 a 1) 12 = n32 (psum (zP z).2 (zP z).1) := vx.2.1.2.1
  have tt := t_typ (fu := fu) hd vx.1.1 (n32 t)
  have d : (decide (0 ≤ n32 t) && isT z.1.1 (n32 t).toNatClampNeg) = true := by
    rw [z_nat ht31, ht, n32_ge ht31]; rfl
  refine mo_of (S := S) ?_
  unfold sp_X11_parameter
  rw [tt, Option.bind_some, b2_if, if_pos d]
  dsimp only
  rw [t_slots ht31, Option.bind_some]
  dsimp only
  rw [k12, z_add, show (6 : Int32) = n32 6 from rfl, zi_le (by omega) (by decide), if_pos hn]
  exact c_Pm L trivial vx ht31 hn
theorem m_mt (L : LX E a) (iz : IZ z) (vx : VX E S a z) {k kd : Nat} {r : Int32} (hm : mAl z.1.1 (n32 k) (n32 kd) r = true) (hn : mcnt z.1.2.1 < 30) : MO E a (sp_X11_declareMethod fu E S a (n32 k) (n32 kd) r) (n32 (mcnt z.1.2.1)) (zMt z k kd r) := by
  have k9 : S.1 (E.2 a 1) 9 = n32 (mcnt z.1.2.1) := vx.1.2.1.2.1
  have ta := t_alw (fu := fu) iz.1.1 vx (n32 k) (n32 kd) r
  have cl : CO E S a 0 (sp_X11_declareMethod fu E S a (n32 k) (n32 kd) r) (.inr (n32 (mcnt z.1.2.1 + 1) - 1)) (zMt z k kd r) := by
    unfold sp_X11_declareMethod
    rw [ta, Option.bind_some, b2_if, if_pos hm]
    dsimp only
    rw [k9, show (30 : Int32) = n32 30 from rfl, zi_lt (by omega) (by decide), if_pos hn]
    exact c_Mt L trivial iz vx hn
  rw [n32_p] at cl
  exact mo_of cl
theorem m_bg (L : LX E a) (hfu : 200 ≤ fu) (iz : IZ z) (vx : VX E S a z) {q s l : Nat} (hq : q < mcnt z.1.2.1) (hs : s ≤ 12) (hl : l ≤ 12) (hi : z.1.1.2.2 (mown z.1.2.1 q) = false) : MO E a (sp_X11_begin fu E S a (n32 q) (n32 s) (n32 l)) (n32 (need z.1.2.1 q)) (zBg z q s l) := by
  have h30 := iz.1.2.1.2.1
  have hq31 : q < 2 ^ 31 := by omega
  have k9 : S.1 (E.2 a 1) 9 = n32 (mcnt z.1.2.1) := vx.1.2.1.2.1
  have cm : sp_X8_isMethod fu E S (E.2 a 1) (n32 q) = some (1, S) := by unfold sp_X8_isMethod; rw [zi_nlt hq31, k9, zi_le (by omega) hq31, if_neg (by omega)]
  have n10 : ¬ ((1 : Int32) = 0) := by decide
  have hin : inb (n32 q) 30 = true := by rw [z_inb hq31]; omega
  have hmo := iz.1.2.1.2.2.2 q hq
  have h20 := iz.1.1.2.1
  have kow : S.2.1 (E.2 (E.2 a 1) 3) q = n32 (mown z.1.2.1 q) := (vx.1.2.1.2.2.2 q hq).1
  have iti : itf z.1.1 (mown z.1.2.1 q) = z.1.1.2.2 (mown z.1.2.1 q) := by
    unfold itf
    rw [decide_eq_true hmo.1, decide_eq_true hmo.2.1]; rfl
  have tit := t_itf (fu := fu) iz.1.1 vx.1.1 (show mown z.1.2.1 q < 2 ^ 31 by omega)
  rw [iti] at tit
  have hit : ¬ z.1.1.2.2 (mown z.1.2.1 q) = true := by rw [hi]; decide
  refine mo_of (S := S) ?_
  unfold sp_X11_begin
  rw [cm, Option.bind_some, if_neg n10, zi_nlt (by omega), show (12 : Int32) = n32 12 from rfl, zi_lt (by decide) (by omega), if_neg (by omega), zi_nlt (by omega), zi_lt (by decide) (by omega), if_neg (by omega), if_pos hin, z_nat hq31]
  dsimp only
  rw [kow, tit, Option.bind_some, b2_if, if_neg hit]
  exact c_Bg L trivial hfu iz vx hq hs hl
theorem m_em (L : LX E a) (hfu : 200 ≤ fu) (iz : IZ z) (vx : VX E S a z) (hs : cst z.1.2.2 = true) {op : Nat} {x : Int32} (hop : op ≤ 45) (hn : cn z.1.2.2 < 100) : MO E a (sp_X11_emit fu E S a (n32 op) x) (n32 (cn z.1.2.2)) (zEm z op x) := by
  have k0 : S.1 (E.2 a 2) 0 = b2 (cst z.1.2.2) := vx.1.2.2.1
  have k6 : S.1 (E.2 a 2) 6 = n32 (cn z.1.2.2) := vx.1.2.2.2.2.2.2.1
  have cl : CO E S a 0 (sp_X11_emit fu E S a (n32 op) x) (.inr (n32 (cn z.1.2.2 + 1) - 1)) (zEm z op x) := by
    unfold sp_X11_emit
    rw [zi_nlt (by omega), show (45 : Int32) = n32 45 from rfl, zi_le (by omega) (by decide), if_pos hop, k0, hs, if_neg (show ¬ b2 true = 0 by decide), k6, show (100 : Int32) = n32 100 from rfl, zi_lt (by omega) (by decide), if_pos hn]
    exact c_Em L trivial hfu iz vx hop hn
  rw [n32_p] at cl
  exact mo_of cl
theorem m_ha (L : LX E a) (hfu : 200 ≤ fu) (iz : IZ z) (vx : VX E S a z) (hs : cst z.1.2.2 = true) {s e t : Int32} {k : Nat} (hk : cls z.1.1 k = true) (hk31 : k < 2 ^ 31) (hn : chn z.1.2.2 < 10) : MO E a (sp_X11_addHandler fu E S a s e t (n32 k)) (n32 (chn z.1.2.2)) (zHa z s e t k) := by
  have hd := iz.1.1
  have k0 : S.1 (E.2 a 2) 0 = b2 (cst z.1.2.2) := vx.1.2.2.1
  have k11 : S.1 (E.2 a 2) 11 = n32 (chn z.1.2.2) := vx.1.2.2.2.2.2.2.2.1
  have tc := t_cls (fu := fu) hd vx.1.1 (n32 k)
  have c : (decide (0 ≤ n32 k) && cls z.1.1 (n32 k).toNatClampNeg) = true := by
    rw [z_nat hk31, hk, n32_ge hk31]; rfl
  have cl : CO E S a 0 (sp_X11_addHandler fu E S a s e t (n32 k)) (.inr (n32 (chn z.1.2.2 + 1) - 1)) (zHa z s e t k) := by
    unfold sp_X11_addHandler
    rw [tc, Option.bind_some, b2_if, if_pos c]
    dsimp only
    rw [k0, hs, if_neg (show ¬ b2 true = 0 by decide), k11, show (10 : Int32) = n32 10 from rfl, zi_lt (by omega) (by decide), if_pos hn]
    exact c_Ha L trivial hfu iz vx hn
  rw [n32_p] at cl
  exact mo_of cl
theorem m_in (L : LX E a) (hfu : 1000000 ≤ fu) (iz : IZ z) (vx : VX E S a z) (hs : cst z.1.2.2 = true) : MO E a (sp_X11_infer fu E S a) (aInf z.1).1.1 (zIn z) ∧ IZ (zIn z) := by
  obtain ⟨cl, tw⟩ := c_mIn (fu := fu) (m := 0) L trivial hfu iz vx hs
  exact ⟨mo_of cl, ⟨iz.1, iz.2.1, iz.2.2.1, tw, iz.2.2.2.2.1, (aInf_tb iz.1 hs).1, iz.2.2.2.2.2.2⟩⟩
theorem m_ck (L : LX E a) (hfu : 200 ≤ fu) (iz : IZ z) (vx : VX E S a z) (hs : cst z.1.2.2 = true) : MO E a (sp_X11_check fu E S a) (aChk z.1 (zT z)).1 (zCk z) := mo_of (c_mCk (fu := fu) (m := 0) L trivial hfu iz vx hs)
theorem m_ad (L : LX E a) (hfu : 200 ≤ fu) (iz : IZ z) (vx : VX E S a z) (h0 : (zI z 0).isSome = true) : ∃ tb, Adp (zI z) (PAd z) tb ∧ MO E a (sp_X11_adoptFrames fu E S a) (n32 (cntT tb 100)) (zt z tb) ∧ IZ (zt z tb) ∧ cntT tb 100 ≤ cn z.1.2.2 := by
  have h100 := iz.1.2.2.2.2.2.1
  have kI : S.1 (E.2 a 5) 2 = n32 (cntT (zI z) 100) := vx.2.2.2.1.2.2
  have c100 := cntT_le (tb := zI z) 100
  rcases iz.2.2.2.2.2.1 with hn | ⟨hs, hp, hc⟩
  · rw [hn 0 (by decide)] at h0; cases h0
  · obtain ⟨tb, hA, cl⟩ := c_Ad (fu := fu) (S := S) (m := 0) L trivial hfu iz vx hc
    have hlt : ∀ t, PAd z t → t < cn z.1.2.2 := fun t ⟨j, h1, h2, h3⟩ => ad_lt hc h1 h2 h3
    have cp := cnt_p hs 100 (by decide)
    have iz' := iz_Ad iz hA hlt
    refine ⟨tb, hA, mo_of (S := S) ?_, iz', ?_⟩
    · unfold sp_X11_adoptFrames
      rw [kI, if_neg (show ¬ n32 (cntT (zI z) 100) = 0 by rw [show (0 : Int32) = n32 0 from rfl, z_eq (by omega) (by decide)]; omega)]
      exact cl
    · have w : cntT tb 100 = cntT tb (cn z.1.2.2) := cnt_100 h100 iz'.2.2.2.2.2.2
      rw [w]
      exact cntT_le _
theorem m_idx (iz : IZ z) {n : Nat} (hn : n < cn z.1.2.2) : idx z.1.2.2 (n32 n) = true := by
  have h100 := iz.1.2.2.2.2.2.1
  unfold idx
  rw [z_nat (by omega), decide_eq_true hn, n32_ge (by omega)]; rfl
theorem m_has (iz : IZ z) (vx : VX E S a z) {n : Nat} (hn : n < cn z.1.2.2) : sp_X11_hasFrame fu E S a (n32 n) = some (.inr (b2 (zI z n).isSome), S) := by
  have h100 := iz.1.2.2.2.2.2.1
  unfold sp_X11_hasFrame
  rw [t_rqI iz vx, Option.bind_some, if_pos (m_idx iz hn)]
  show ((sp_X4_contains fu E S (E.2 a 5) (n32 n)).bind fun u5 => if isB u5.1 = true then some ((Sum.inr u5.1 : String ⊕ Int32), u5.2) else none) = _
  rw [t_has vx.2.2.2.1 (by omega), Option.bind_some]
  dsimp only
  rw [isB_ite]
theorem m_rqF (iz : IZ z) (vx : VX E S a z) {n : Nat} (hn : n < cn z.1.2.2) {y : Fr} (hy : zI z n = some y) : sp_X11_requireFrame fu E S a (n32 n) = some (.inr (), S) := by
  have h100 := iz.1.2.2.2.2.2.1
  rw [t_rqF iz vx, if_pos (m_idx iz hn), z_nat (by omega), hy]; rfl
theorem m_hgt (iz : IZ z) (vx : VX E S a z) {n : Nat} (hn : n < cn z.1.2.2) {y : Fr} (hy : zI z n = some y) : sp_X11_stackHeight fu E S a (n32 n) = some (.inr (n32 y.2.2.1), S) := by
  have h100 := iz.1.2.2.2.2.2.1
  have vf : VF E S (E.2 (E.2 (E.2 a 5) 0) n) y := (vx.2.2.2.1.2.1 n y (by omega) hy).1
  unfold sp_X11_stackHeight
  rw [m_rqF iz vx hn hy, Option.bind_some]
  show (if inb (n32 n) 100 = true then (some ((Sum.inr (S.1 (E.2 (E.2 (E.2 a 5) 0) (n32 n).toNatClampNeg) 2)), S)) else none) = _
  rw [if_pos (by rw [z_inb (by omega)]; omega), z_nat (show n < 2 ^ 31 by omega), vf.2.2.1]
theorem m_ssl (iz : IZ z) (vx : VX E S a z) {n : Nat} (hn : n < cn z.1.2.2) {y : Fr} (hy : zI z n = some y) {k : Nat} (hk : k < y.2.2.1) : sp_X11_stackSlot fu E S a (n32 n) (n32 k) = some (.inr (y.2.1 k), S) := by
  have h100 := iz.1.2.2.2.2.2.1
  have vf : VF E S (E.2 (E.2 (E.2 a 5) 0) n) y := (vx.2.2.2.1.2.1 n y (by omega) hy).1
  have h12 : y.2.2.1 ≤ 12 := (vx.2.2.2.1.2.1 n y (by omega) hy).2
  have hin : inb (n32 n) 100 = true := by rw [z_inb (by omega)]; omega
  unfold sp_X11_stackSlot
  rw [m_rqF iz vx hn hy, Option.bind_some]
  show (if n32 k < 0 then (some (Sum.inl "java/util/NoSuchElementException", S)) else (if inb (n32 n) 100 = true then (if n32 k < (S.1 (E.2 (E.2 (E.2 a 5) 0) (n32 n).toNatClampNeg) 2) then (if inb (n32 n) 100 = true then (if inb (n32 k) 12 = true then (some ((Sum.inr (S.2.1 (E.2 (E.2 (E.2 (E.2 a 5) 0) (n32 n).toNatClampNeg) 1) (n32 k).toNatClampNeg)), S)) else none) else none) else (some (Sum.inl "java/util/NoSuchElementException", S))) else none)) = _
  rw [zi_nlt (by omega), if_pos hin, if_pos hin, z_nat (show n < 2 ^ 31 by omega), vf.2.2.1, zi_lt (by omega) (by omega), if_pos hk, if_pos (by rw [z_inb (by omega)]; omega), z_nat (show k < 2 ^ 31 by omega), vf.2.1 k hk]
theorem m_lsl (iz : IZ z) (vx : VX E S a z) {n : Nat} (hn : n < cn z.1.2.2) {y : Fr} (hy : zI z n = some y) {k : Nat} (hk : k < cloc z.1.2.2) : sp_X11_localSlot fu E S a (n32 n) (n32 k) = some (.inr (y.1 k), S) := by
  have h100 := iz.1.2.2.2.2.2.1
  have hl := iz.1.2.2.2.2.1
  have clx : S.1 (E.2 a 2) 3 = n32 (cloc z.1.2.2) := vx.1.2.2.2.2.2.1
  have vf : VF E S (E.2 (E.2 (E.2 a 5) 0) n) y := (vx.2.2.2.1.2.1 n y (by omega) hy).1
  have hin : inb (n32 n) 100 = true := by rw [z_inb (by omega)]; omega
  unfold sp_X11_localSlot
  rw [m_rqF iz vx hn hy, Option.bind_some]
  show (if n32 k < 0 then (some (Sum.inl "java/util/NoSuchElementException", S)) else (if n32 k < (S.1 (E.2 a 2) 3) then (if inb (n32 n) 100 = true then (if inb (n32 k) 12 = true then (some ((Sum.inr (S.2.1 (E.2 (E.2 (E.2 (E.2 a 5) 0) (n32 n).toNatClampNeg) 0) (n32 k).toNatClampNeg)), S)) else none) else none) else (some (Sum.inl "java/util/NoSuchElementException", S)))) = _
  rw [zi_nlt (by omega), clx, zi_lt (by omega) (by omega), if_pos hk, if_pos hin, if_pos (by rw [z_inb (by omega)]; omega), z_nat (show n < 2 ^ 31 by omega), z_nat (show k < 2 ^ 31 by omega), vf.1 k (by omega)]
theorem m_pos (vx : VX E S a z) : sp_X11_errorPosition fu E S a = some (zE z, S) := by
  unfold sp_X11_errorPosition
  rw [vx.2.2.2.2.2.1]
theorem m_vis (vx : VX E S a z) : sp_X11_visits fu E S a = some (n32 (zV z), S) := by
  unfold sp_X11_visits
  rw [vx.2.2.2.2.2.2]
end MOK
