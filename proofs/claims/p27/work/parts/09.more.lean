/-! copies, the least and the greatest of two, calls by a superclass's name, throws -/
section JM
variable {M : Mt} {X : Cx} {pc : Nat} {ls ls' : List (Nat × Value)} {st : List Value} {w : Wd} {k n : Nat} {Po : Option Value → Wd → Prop} {Px : String → Wd → Prop}
theorem j_nn {z : Int32} (hz : ¬ z < 0) : z.toInt = (z.toNatClampNeg : Int) := by
  have hz0 : (0 : Int) ≤ z.toInt := by
    have := Int32.not_lt.mp hz
    simpa using Int32.le_iff_toInt_le.mp this
  show z.toInt = ((z.toInt.toNat : Nat) : Int)
  omega

theorem J_copy {i a a0 n0 n1 : Nat} {f g : Nat → Int32} {sp dp z : Int32} (hd : decode M.2.1 pc = .ok (.invokestatic i, 3)) (hL : AL M.1.cls i) (hw0 : w a0 = some (.inr (0, n0, .inl f))) (hw1 : w a = some (.inr (0, n1, .inl g))) (h1 : ¬ sp < 0) (h2 : ¬ dp < 0) (h3 : ¬ z < 0) (h4 : sp.toNatClampNeg + z.toNatClampNeg ≤ n0) (h5 : dp.toNatClampNeg + z.toNatClampNeg ≤ n1) (hf : 1 ≤ M.2.2.2.2.2.frames) (hlo : (st.map fun v => v.category).sum + 18 ≤ M.2.2.2.2.2.locals)
    (kk : J M X (pc + 3) ls st (wup w a (.inr (0, n1, .inl (va_cpy f g sp.toNatClampNeg dp.toNatClampNeg z.toNatClampNeg)))) k n) : J M X pc ls (.int z :: .int dp :: .ref a :: .int sp :: .ref a0 :: st) w k n := by
  obtain ⟨p, l, e, R, s, m, args, below, meth, c, A, D, cA, Q⟩ := X
  intro ok H locs lsA hP hA hS hl
  have hh := fun H1 locs1 => kk ok H1 locs1 lsA
  obtain ⟨hx, hb, hml, -, -, hown, -, -, -, hR, hE, hK, -⟩ := ok
  have hts : ∀ w ∈ GW, w.before args s = true := fun w hw => j_word hE hw
  have e9 : ∀ {a b : Nat}, a + 18 ≤ b → 2 * 0 + a + (nativeFrameWords "java/lang/System" "arraycopy" 5 + 11) ≤ b := by
    intro a b h
    have e8 : nativeFrameWords "java/lang/System" "arraycopy" 5 = 7 := by decide +kernel
    rw [e8]
    omega
  intro T hT X
  have hc0 : H[a0]? = some (vp_cell (cA 0) (n0, .inl f)) := j_one hP hw0 0 _ rfl
  have hc1 : H[a]? = some (vp_cell (cA 0) (n1, .inl g)) := j_one hP hw1 0 _ rfl
  obtain ⟨-, k0, hk0, cm0, hkk0⟩ := (hK.2 0 _ rfl).1 n0 (fun j => .int (f j))
  obtain ⟨-, k1, hk1, cm1, hkk1⟩ := (hK.2 0 _ rfl).1 n1 (fun j => .int (g j))
  obtain ⟨vm', X', step⟩ := X.arraycopy hx hown (hts _ hL.1) (hts _ hL.2.1) (hts _ hL.2.2.1) (hts _ hL.2.2.2) (src := a0) (dst := a) (cs := vp_cell (cA 0) (n0, .inl f)) (cd := vp_cell (cA 0) (n1, .inl g)) (srcPos := sp) (destPos := dp) (n := z) (by rw [hT]; exact hc0) (by rw [hT]; exact hc1)
    (fun _ h => by cases h) (fun _ h => by cases h) (fun h => by cases h) (fun h => by cases h) hk0 hk1 hkk0 hkk1 (by simp [show refKind FieldType.int = false from rfl]) h1 h2 h3
    (by rw [j_nn h1, j_nn h3]; show ¬ _ > ((arrV (cA 0) n0 (fun j => .int (f j))).slots.size : Int); rw [arrV_size]; omega)
    (by rw [j_nn h2, j_nn h3]; show ¬ _ > ((arrV (cA 0) n1 (fun j => .int (g j))).slots.size : Int); rw [arrV_size]; omega)
    (fun vm₁ _ i hi => by
      have e1 : (vp_cell (cA 0) (n0, .inl f)).slots.getD (sp.toNatClampNeg + i) .null = .int (f (sp.toNatClampNeg + i)) := by
        show (arrV (cA 0) n0 (fun j => .int (f j))).slots.getD _ _ = _
        rw [Array.getD_eq_getD_getElem?, arrV_read _ _ (by omega)]
        rfl
      refine ⟨?_, ?_⟩
      · rw [e1]
        rfl
      · rw [e1]
        exact trivial)
    (g := F0 m pc lsA (.int z :: .int dp :: .ref a :: .int sp :: .ref a0 :: st)) rfl (by show lsA.size = _; rw [hml]; exact hl.1) (rest := st) rfl (by rw [hb]; exact hd) (by rw [hR]; exact hf) (by rw [hR]; exact e9 hlo)
  have e1 : copied (vp_cell (cA 0) (n0, .inl f)) (vp_cell (cA 0) (n1, .inl g)) sp dp z = vp_cell (cA 0) (n1, .inl (va_cpy f g sp.toNatClampNeg dp.toNatClampNeg z.toNatClampNeg)) := va_copied (fun z => .int z) (cA 0) (cA 0) f g h4
  rw [e1] at X' step
  have hlt : a < H.size := (Array.getElem?_eq_some_iff.mp hc1).1
  have hheap : ((T.setVm vm').setCell a (vp_cell (cA 0) (n1, .inl (va_cpy f g sp.toNatClampNeg dp.toNatClampNeg z.toNatClampNeg)))).heap = H.setIfInBounds a (vp_cell (cA 0) (n1, .inl (va_cpy f g sp.toNatClampNeg dp.toNatClampNeg z.toNatClampNeg))) := by rw [← hT]; rfl
  have oq : ∀ q : Nat, q ≠ a → (H.setIfInBounds a (vp_cell (cA 0) (n1, .inl (va_cpy f g sp.toNatClampNeg dp.toNatClampNeg z.toNatClampNeg))))[q]? = H[q]? := fun q hq => by simp [Array.getElem?_setIfInBounds, Ne.symm hq]
  obtain ⟨t, a1, b1⟩ := hh _ _ (hP.set (ob := .inr (0, n1, .inl (va_cpy f g sp.toNatClampNeg dp.toNatClampNeg z.toNatClampNeg))) (show (H.setIfInBounds a _)[a]? = some _ by simp [Array.getElem?_setIfInBounds, hlt]) oq) (j_dom hA (hA a _ hw1)) ⟨by simp; exact hS.1, fun q g1 g2 => by
      rw [oq q (fun e => g2 (by rw [e]; exact hA a _ hw1))]
      exact hS.2.1 q g1 g2, fun q hq => by
      rcases List.mem_append.mp hq with h | h
      · exact hS.2.2 q h
      · obtain ⟨z, -, hz⟩ := List.mem_map.mp h
        rw [← hz]
        exact hA a _ hw1⟩ hl _ hheap X'
  exact ⟨t, step t a1, b1⟩
theorem J_mmax {i : Nat} {x y : Int32} (hd : decode M.2.1 pc = .ok (.invokestatic i, 3)) (hL : MLk M.1.cls i Lib.Math.max.name Lib.Math.max.code) (hf : 1 ≤ M.2.2.2.2.2.frames) (hlo : (st.map fun v => v.category).sum + 13 ≤ M.2.2.2.2.2.locals) (hk : k ≤ M.2.2.2.2.2.cells) (hn : n ≤ M.2.2.2.2.2.slots) (kk : J M X (pc + 3) ls (.int (if x < y then y else x) :: st) w k n) : J M X pc ls (.int y :: .int x :: st) w k n := by
  obtain ⟨p, l, e, R, s, m, args, below, meth, c, A, D, cA, Q⟩ := X
  intro ok H locs lsA hP hA hS hl
  have hh := kk ok H locs lsA hP hA hS hl
  obtain ⟨hx, hb, hml, -, -, hown, -, -, -, hR, hE, -⟩ := ok
  have hts : ∀ w ∈ GW, w.before args s = true := fun w hw => j_word hE hw
  exact va_mmax hx hb (hml.trans hl.1.symm) hown (hts _ hL.1) (hts _ hL.2.1) (hts _ hL.2.2.1) (hts _ hL.2.2.2) (by rw [hR]; exact hf) (by rw [hR]; exact hlo) (by rw [hR]; exact hk) (by rw [hR]; exact hn) hd hh
theorem J_mmin {i : Nat} {x y : Int32} (hd : decode M.2.1 pc = .ok (.invokestatic i, 3)) (hL : MLk M.1.cls i Lib.Math.min.name Lib.Math.min.code) (hf : 1 ≤ M.2.2.2.2.2.frames) (hlo : (st.map fun v => v.category).sum + 13 ≤ M.2.2.2.2.2.locals) (hk : k ≤ M.2.2.2.2.2.cells) (hn : n ≤ M.2.2.2.2.2.slots) (kk : J M X (pc + 3) ls (.int (if y < x then y else x) :: st) w k n) : J M X pc ls (.int y :: .int x :: st) w k n := by
  obtain ⟨p, l, e, R, s, m, args, below, meth, c, A, D, cA, Q⟩ := X
  intro ok H locs lsA hP hA hS hl
  have hh := kk ok H locs lsA hP hA hS hl
  obtain ⟨hx, hb, hml, -, -, hown, -, -, -, hR, hE, -⟩ := ok
  have hts : ∀ w ∈ GW, w.before args s = true := fun w hw => j_word hE hw
  exact va_mmin hx hb (hml.trans hl.1.symm) hown (hts _ hL.1) (hts _ hL.2.1) (hts _ hL.2.2.1) (hts _ hL.2.2.2) (by rw [hR]; exact hf) (by rw [hR]; exact hlo) (by rw [hR]; exact hk) (by rw [hR]; exact hn) hd hh
theorem J_callU {M' : Mt} {x : MethodName} {owner : String} {i b ci nar : Nat} {fs As rest : List Value} {r : vw_C} (hd : decode M.2.1 pc = .ok (.invokevirtual i, 3)) (hL : UL M.1.cls i r.1 owner x M' nar) (hw : w b = some (.inl (ci, fs))) (hc : vwCl[ci]? = some r) (hst : st = As.reverse ++ .ref b :: rest) (hnar : As.length = nar) (hrest : (rest.map fun v => v.category).sum ≤ 8) (hok : CallOk M M' k n nar) (hM : Cn X.2.1 M' (.ref b :: As) w Po)
    (kk : ∀ (v : Option Value) (w' : Wd), Po v w' → J M X (pc + 3) ls (v.toList ++ rest) w' (k + M'.2.2.2.2.2.cells) (n + M'.2.2.2.2.2.slots)) : J M X pc ls st w k n := by
  obtain ⟨p, l, e, R, s, m, args, below, meth, c, A, D, cA, Q⟩ := X
  intro ok H locs lsA hP hA hS hl
  have hh := fun v w' hp H1 locs1 => kk v w' hp ok H1 locs1 lsA
  obtain ⟨hx, hb, hml, -, -, hown, -, -, hst0, hR, hE, hK, hsz, hU, hN⟩ := ok
  have hts : ∀ w ∈ GW, w.before args s = true := fun w hw => j_word hE hw
  have hM' := hM hst0 D cA H.size
  obtain ⟨hC, h1, h2, h3, h4, h5, h6, h7⟩ := hL
  have hdecl : va_Decl s ⟨owner, x.name, x.desc⟩ := by
    rcases h3 with h3 | h3
    · rw [← h3]
      exact va_Decl.of (hts _ h5) (hts _ hC.2.1)
    · exact va_Decl.abs (hE.2.2.2.1 _ h3)
  have hpl : ∀ sig, parseMethodDescriptor x.desc = some sig → nar = sig.parameters.length := by rw [h7]; exact j_plen hC
  refine j_call (Po := Po) (va_runU (As := As) (rest := rest) (C := r.1) (owner := owner) (x := x) (Ts := GW) (n := nar) ⟨hx, hb, hml, hown, hts⟩ hM' ⟨⟨rfl, rfl, by rw [hR]; exact hok.1, by rw [hR]; exact hok.2.1, j_pay hE hC, j_codeIn hC⟩, hts _ hC.2.1, hts _ hC.2.2.1, h6, hpl, hts _ h1, hts _ h2, hdecl, hts _ h4, hts _ h5⟩ ⟨PcG.blind, ?_, j_pre (l := l) hE hK hsz hU hN hP hA hS⟩ rfl hnar hl.1 hst (lv_room hrest) hd ⟨by rw [hR]; exact hok.2.2.1, by rw [hR]; exact hok.2.2.2⟩) hS (j_fA hsz hA hS) ?_
  · exact va_recv hK (j_one hP hw) hc (q0 := 0) rfl
  · intro v w' H1 locs1 hp hP1 hA1 hS1
    exact hh v w' hp H1 locs1 hP1 (fun q o h => j_fA hsz hA hS q (hA1 q o h)) hS1 hl
/-- the same throw, its text by a wide entry -/
theorem J_throwW {ik is ic : Nat} {En : String} (hL : TL M.1.cls ik is ic En) (hQ : EndX M X Po Px) (hh : M.2.2.2.2.1 = []) (d0 : decode M.2.1 pc = .ok (.new ik, 3)) (d3 : decode M.2.1 (pc + 3) = .ok (.dup, 1)) (d4 : decode M.2.1 (pc + 4) = .ok (.ldc_w is, 3)) (d6 : decode M.2.1 (pc + 7) = .ok (.invokespecial ic, 3)) (d9 : decode M.2.1 (pc + 10) = .ok (.athrow, 1)) (hf : 6 ≤ M.2.2.2.2.2.frames) (hlo : (st.map fun v => v.category).sum + 82 ≤ M.2.2.2.2.2.locals) (hk : k + 1 ≤ M.2.2.2.2.2.cells) (hn : n + 6 ≤ M.2.2.2.2.2.slots) (hp : Px En w) : J M X pc ls st w k n := by
  obtain ⟨p, l, e, R, s, m, args, below, meth, c, A, D, cA, Q⟩ := X
  intro ok H locs lsA hP hA hS hl
  obtain ⟨hx, hb, hml, -, hlocks, hown, -, htab, hst0, hR, hE, hK, hsz, hU, hN⟩ := ok
  have h' : Q = vx_MQ below (QcG Po D cA A) (XcG Px D cA A) args s M.2.2.2.2.2.cells M.2.2.2.2.2.slots A := hQ
  subst h'
  have hts : ∀ w ∈ GW, w.before args s = true := fun w hw => j_word hE hw
  obtain ⟨hfit, hk1, hini, ⟨tx, hstr⟩, nms, hnm, hl2, hg1, hg2, hot⟩ := hL
  obtain ⟨sa, hsa⟩ := hE.2.2.2.2.1 _ _ _ hstr
  refine vx_throwSW hx hb hst0 (names := nms) hown hfit hnm (hts _ hk1) (hts _ hini) hsa (vx_hat (fun w hw => hts w (hg1 w hw)) hg2 (fun w hw => ?_)) hot hU hN hS (hl.1.trans hml.symm) d0 d3 d4 d6 d9 (fun x hx9 => ?_) (by rw [hR]; omega) (by rw [hR]; omega) (by rw [hR]; exact hk) (by rw [hR]; exact hn) hlocks (fun t hv hz ho => ⟨w, hp, fun q o hq => (hP q o hq).kept (ho q (hP q o hq).lt), hA, Nat.le_trans hS.1 hz, fun q h1 h2 => (ho q (Nat.lt_of_lt_of_le h1 hS.1)).trans (hS.2.1 q h1 h2)⟩) hS.2.2 hk hn
  · rcases List.mem_append.mp hw with hw | hw
    · have hv := (List.mem_filter.mp hw).2
      have hZ := hE.2.1 w hw
      cases w <;> first | (simp [isCst] at hv; done) | skip
      exact va_Nw.use rfl hZ
    · have hv := (List.mem_filter.mp hw).2
      have hZ := hE.2.2.2.1 w hw
      cases w <;> first | (simp [isDcl] at hv; done) | skip
      exact va_Nw.use rfl hZ
  · rw [htab, hh] at hx9
    cases hx9
end JM
section KM
variable {α : Type} {M M' : Mt} {X : Cx} {E : Ev} {pc : Nat} {ls : List (Nat × Value)} {st : List Value} {S : St} {k n : Nat} {o : Option α} {t : α}
def cpk (sp dp z : Int32) (n0 n1 : Nat) : Bool := decide (0 ≤ sp.toInt) && decide (0 ≤ dp.toInt) && decide (0 ≤ z.toInt) && decide (sp.toInt + z.toInt ≤ n0) && decide (dp.toInt + z.toInt ≤ n1)
theorem i32_nlt {z : Int32} (h : 0 ≤ z.toInt) : ¬ z < 0 := by
  intro q
  have := Int32.lt_iff_toInt_lt.mp q
  simp at this
  omega
theorem hp_sC {a a0 n0 n1 sp dp z : Nat} (h0 : E.1 a0 = some (1, 0, n0)) (h1 : E.1 a = some (1, 0, n1)) : wup (hp E S) a (.inr (0, n1, .inl (va_cpy (S.2.1 a0) (S.2.1 a) sp dp z))) = hp E (sC S a0 a sp dp z) := by
  refine hp_up ?_ (fun q hq => hp_same (fun _ => rfl) (if_neg hq) (fun _ => rfl) rfl)
  rw [hp_i h1]
  show some (Sum.inr (0, n1, Sum.inl (if a = a then _ else _))) = _
  rw [if_pos rfl]
theorem K_copy {i a a0 n0 n1 : Nat} {sp dp z : Int32} (hd : decode M.2.1 pc = .ok (.invokestatic i, 3)) (hL : AL M.1.cls i) (h0 : E.1 a0 = some (1, 0, n0)) (h1 : E.1 a = some (1, 0, n1)) (hc : cpk sp dp z n0 n1 = true) (hf : 1 ≤ M.2.2.2.2.2.frames) (hlo : (st.map fun v => v.category).sum + 18 ≤ M.2.2.2.2.2.locals) (kk : K M X E (pc + 3) ls st (sC S a0 a sp.toNatClampNeg dp.toNatClampNeg z.toNatClampNeg) k n o t) : K M X E pc ls (.int z :: .int dp :: .ref a :: .int sp :: .ref a0 :: st) S k n o t := by
  intro e
  unfold cpk at hc
  simp only [Bool.and_eq_true, decide_eq_true_eq] at hc
  obtain ⟨⟨⟨⟨c1, c2⟩, c3⟩, c4⟩, c5⟩ := hc
  have e1 := j_nn (i32_nlt c1)
  have e2 := j_nn (i32_nlt c2)
  have e3 := j_nn (i32_nlt c3)
  refine J_copy hd hL (hp_i h0) (hp_i h1) (i32_nlt c1) (i32_nlt c2) (i32_nlt c3) (by omega) (by omega) hf hlo ?_
  rw [hp_sC h0 h1]
  exact kk e
theorem K_mmax {i : Nat} {x y : Int32} (hd : decode M.2.1 pc = .ok (.invokestatic i, 3)) (hL : MLk M.1.cls i Lib.Math.max.name Lib.Math.max.code) (hf : 1 ≤ M.2.2.2.2.2.frames) (hlo : (st.map fun v => v.category).sum + 13 ≤ M.2.2.2.2.2.locals) (hk : k ≤ M.2.2.2.2.2.cells) (hn : n ≤ M.2.2.2.2.2.slots) (kk : K M X E (pc + 3) ls (.int (if x < y then y else x) :: st) S k n o t) : K M X E pc ls (.int y :: .int x :: st) S k n o t := fun e => J_mmax hd hL hf hlo hk hn (kk e)
theorem K_mmin {i : Nat} {x y : Int32} (hd : decode M.2.1 pc = .ok (.invokestatic i, 3)) (hL : MLk M.1.cls i Lib.Math.min.name Lib.Math.min.code) (hf : 1 ≤ M.2.2.2.2.2.frames) (hlo : (st.map fun v => v.category).sum + 13 ≤ M.2.2.2.2.2.locals) (hk : k ≤ M.2.2.2.2.2.cells) (hn : n ≤ M.2.2.2.2.2.slots) (kk : K M X E (pc + 3) ls (.int (if y < x then y else x) :: st) S k n o t) : K M X E pc ls (.int y :: .int x :: st) S k n o t := fun e => J_mmin hd hL hf hlo hk hn (kk e)
variable {i b ci nar : Nat} {As rest : List Value} {r : vw_C} {x : MethodName} {owner : String}
theorem K_callUI {u : Int32 × St} (hM : Cn X.2.1 M' (.ref b :: As) (hp E S) (PoI E u)) (hd : decode M.2.1 pc = .ok (.invokevirtual i, 3)) (hL : UL M.1.cls i r.1 owner x M' nar) (hw : E.1 b = some (0, ci, 0)) (hc : vwCl[ci]? = some r) (hst : st = As.reverse ++ .ref b :: rest) (hnar : As.length = nar) (hrest : (rest.map fun v => v.category).sum ≤ 8) (hok : CallOk M M' k n nar) (kk : K M X E (pc + 3) ls (.int u.1 :: rest) u.2 (k + M'.2.2.2.2.2.cells) (n + M'.2.2.2.2.2.slots) o t) : K M X E pc ls st S k n o t := fun e => J_callU hd hL (hp_o hw) hc hst hnar hrest hok hM (fun v w' hp => by obtain ⟨rfl, rfl⟩ := hp; exact kk e)
theorem K_callUV {u : St} (hM : Cn X.2.1 M' (.ref b :: As) (hp E S) (PoV E u)) (hd : decode M.2.1 pc = .ok (.invokevirtual i, 3)) (hL : UL M.1.cls i r.1 owner x M' nar) (hw : E.1 b = some (0, ci, 0)) (hc : vwCl[ci]? = some r) (hst : st = As.reverse ++ .ref b :: rest) (hnar : As.length = nar) (hrest : (rest.map fun v => v.category).sum ≤ 8) (hok : CallOk M M' k n nar) (kk : K M X E (pc + 3) ls rest u (k + M'.2.2.2.2.2.cells) (n + M'.2.2.2.2.2.slots) o t) : K M X E pc ls st S k n o t := fun e => J_callU hd hL (hp_o hw) hc hst hnar hrest hok hM (fun v w' hp => by obtain ⟨rfl, rfl⟩ := hp; exact kk e)
/-- naming a value, a state -/
def bnd {β γ : Type} (v : β) (f : β → γ) : γ := f v
theorem K_nmI {y : Int32} {f : Int32 → Option α} (kk : ∀ z : Int32, K M X E pc ls (.int z :: st) S k n (f z) t) : K M X E pc ls (.int y :: st) S k n (bnd y f) t := kk y
theorem K_nmL {y : Int64} {f : Int64 → Option α} (kk : ∀ z : Int64, K M X E pc ls (.long z :: st) S k n (f z) t) : K M X E pc ls (.long y :: st) S k n (bnd y f) t := kk y
theorem K_nmS {f : St → Option α} (kk : ∀ z : St, K M X E pc ls st z k n (f z) t) : K M X E pc ls st S k n (bnd S f) t := kk S
end KM
section KT
variable {M M' : Mt} {X : Cx} {E : Ev} {pc : Nat} {ls : List (Nat × Value)} {st : List Value} {S : St} {k n : Nat}
def PoXI (E : Ev) (t : (String ⊕ Int32) × St) : Option Value → Wd → Prop := fun v w' => ∃ r, t.1 = .inr r ∧ v = some (.int r) ∧ w' = hp E t.2
def PoXV (E : Ev) (t : (String ⊕ Unit) × St) : Option Value → Wd → Prop := fun v w' => ∃ r, t.1 = .inr r ∧ v = none ∧ w' = hp E t.2
def PxX {β : Type} (E : Ev) (t : (String ⊕ β) × St) : String → Wd → Prop := fun En w' => t.1 = .inl En ∧ w' = hp E t.2
theorem K_xiret {v : Int32} {t : (String ⊕ Int32) × St} (hd : decode M.2.1 pc = .ok (.ireturn, 1)) (hQ : EndX M X (PoXI E t) (PxX E t)) (hr : M.2.2.2.1 = some .int) (hk : k ≤ M.2.2.2.2.2.cells) (hs : n ≤ M.2.2.2.2.2.slots) : K M X E pc ls [.int v] S k n (some (.inr v, S)) t := fun e => by cases e; exact J_iret hd hQ.R hr rfl hk hs ⟨v, rfl, rfl, rfl⟩
theorem K_xzret {v : Int32} {t : (String ⊕ Int32) × St} (hd : decode M.2.1 pc = .ok (.ireturn, 1)) (hQ : EndX M X (PoXI E t) (PxX E t)) (hr : M.2.2.2.1 = some .boolean) (hv : isB v = true) (hk : k ≤ M.2.2.2.2.2.cells) (hs : n ≤ M.2.2.2.2.2.slots) : K M X E pc ls [.int v] S k n (some (.inr v, S)) t := fun e => by cases e; exact J_iret hd hQ.R hr (isB_nar hv).1 hk hs ⟨v, rfl, rfl, rfl⟩
theorem K_xvret {t : (String ⊕ Unit) × St} (hd : decode M.2.1 pc = .ok (.return_, 1)) (hQ : EndX M X (PoXV E t) (PxX E t)) (hr : M.2.2.2.1 = none) (hk : k ≤ M.2.2.2.2.2.cells) (hs : n ≤ M.2.2.2.2.2.slots) : K M X E pc ls [] S k n (some (.inr (), S)) t := fun e => by cases e; exact J_vret hd hQ.R hr hk hs ⟨(), rfl, rfl, rfl⟩
theorem K_throw {β : Type} {Po : Option Value → Wd → Prop} {t : (String ⊕ β) × St} {ik is ic : Nat} {En : String} (hL : TL M.1.cls ik is ic En) (hQ : EndX M X Po (PxX E t)) (hh : M.2.2.2.2.1 = []) (d0 : decode M.2.1 pc = .ok (.new ik, 3)) (d3 : decode M.2.1 (pc + 3) = .ok (.dup, 1)) (d4 : decode M.2.1 (pc + 4) = .ok (.ldc is, 2)) (d6 : decode M.2.1 (pc + 6) = .ok (.invokespecial ic, 3)) (d9 : decode M.2.1 (pc + 9) = .ok (.athrow, 1)) (hf : 6 ≤ M.2.2.2.2.2.frames) (hlo : (st.map fun v => v.category).sum + 82 ≤ M.2.2.2.2.2.locals) (hk : k + 1 ≤ M.2.2.2.2.2.cells) (hn : n + 6 ≤ M.2.2.2.2.2.slots) : K M X E pc ls st S k n (some (.inl En, S)) t := fun e => by cases e; exact J_throw hL hQ hh d0 d3 d4 d6 d9 hf hlo hk hn ⟨rfl, rfl⟩
theorem K_throwW {β : Type} {Po : Option Value → Wd → Prop} {t : (String ⊕ β) × St} {ik is ic : Nat} {En : String} (hL : TL M.1.cls ik is ic En) (hQ : EndX M X Po (PxX E t)) (hh : M.2.2.2.2.1 = []) (d0 : decode M.2.1 pc = .ok (.new ik, 3)) (d3 : decode M.2.1 (pc + 3) = .ok (.dup, 1)) (d4 : decode M.2.1 (pc + 4) = .ok (.ldc_w is, 3)) (d6 : decode M.2.1 (pc + 7) = .ok (.invokespecial ic, 3)) (d9 : decode M.2.1 (pc + 10) = .ok (.athrow, 1)) (hf : 6 ≤ M.2.2.2.2.2.frames) (hlo : (st.map fun v => v.category).sum + 82 ≤ M.2.2.2.2.2.locals) (hk : k + 1 ≤ M.2.2.2.2.2.cells) (hn : n + 6 ≤ M.2.2.2.2.2.slots) : K M X E pc ls st S k n (some (.inl En, S)) t := fun e => by cases e; exact J_throwW hL hQ hh d0 d3 d4 d6 d9 hf hlo hk hn ⟨rfl, rfl⟩
/-- after a callee that returned or threw -/
def xb {β γ : Type} (u : (String ⊕ β) × St) (f : β → St → Option ((String ⊕ γ) × St)) : Option ((String ⊕ γ) × St) := match u.1 with
  | .inl e => some (.inl e, u.2)
  | .inr r => f r u.2
variable {i b ci nar : Nat} {As rest : List Value} {r : vw_C}
theorem K_callXV {γ : Type} {Po : Option Value → Wd → Prop} {u : (String ⊕ Unit) × St} {f : Unit → St → Option ((String ⊕ γ) × St)} {t : (String ⊕ γ) × St} (hM : Ct X.2.1 M' (.ref b :: As) (hp E S) (PoXV E u) (PxX E u)) (hQ : EndX M X Po (PxX E t)) (hh : M.2.2.2.2.1 = []) (hd : decode M.2.1 pc = .ok (.invokevirtual i, 3)) (hL : VL M.1.cls i M' nar) (hw : E.1 b = some (0, ci, 0)) (hc : vwCl[ci]? = some r) (hrc : r.1 = M'.1.cls) (hst : st = As.reverse ++ .ref b :: rest) (hnar : As.length = nar) (hrest : (rest.map fun v => v.category).sum ≤ 8) (hok : CallOk M M' k n nar) (kk : ∀ q S1, K M X E (pc + 3) ls rest S1 (k + M'.2.2.2.2.2.cells) (n + M'.2.2.2.2.2.slots) (f q S1) t) : K M X E pc ls st S k n (xb u f) t := by
  intro e
  obtain ⟨u1, u2⟩ := u
  refine J_callVX hd hL (hp_o hw) hc hrc hst hnar hrest hok hM (fun En w' hp => ?_) (fun v w' hp => ?_)
  · obtain ⟨h1, rfl⟩ := hp
    dsimp only at h1
    subst h1
    refine JX_out hQ hh ?_ hok.2.2.1 hok.2.2.2
    cases e
    exact ⟨rfl, rfl⟩
  · obtain ⟨q, h1, rfl, rfl⟩ := hp
    dsimp only at h1
    subst h1
    exact kk q u2 e
end KT
