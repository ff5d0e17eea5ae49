/-! contracts, calls, ends -/
def fA (w : Wd) (sz : Nat) : Nat → Prop := fun q => (∃ o, w q = some o) ∨ sz ≤ q
def PcG (av : List Value) (w : Wd) (D : va_G) (cA : Nat → ClassId) (sz : Nat) : Array Value → State → Prop := va_Pc av (fun U => U.heap.size = sz ∧ j_P D cA w U.heap ∧ va_K D vwCl (j_tys cA) U ∧ j_Env U ∧ vx_Zq Bundle.tN "UNASSIGNED_STACK" Bundle.steD (fA w sz) U U.heap ∧ vx_Zq Bundle.tN "SUPPRESSED_SENTINEL" Bundle.listD (fA w sz) U U.heap)
def QcG (Po : Option Value → Wd → Prop) (D : va_G) (cA : Nat → ClassId) (A : Nat → Prop) : Array Value → State → Outcome → State → Prop := fun _ st oc t => (∃ (v : Option Value) (w' : Wd), oc = .returned v ∧ Po v w' ∧ j_P D cA w' t.heap ∧ ∀ q o, w' q = some o → A q) ∧ va_F A st t
def XcG (Px : String → Wd → Prop) (D : va_G) (cA : Nat → ClassId) (A : Nat → Prop) : String → State → State → Prop := fun E st t => ∃ w' : Wd, Px E w' ∧ j_P D cA w' t.heap ∧ (∀ q o, w' q = some o → A q) ∧ va_F A st t
def mws (M : Mt) : List Cond := match M.2.2.2.2.1 with
  | [] => [Cond.code M.1 M.2.1 M.2.2.1 M.2.2.2.1]
  | hh => [Cond.codeWith M.1 M.2.1 M.2.2.1 M.2.2.2.1 hh]
/-- a contract of a method that returns: from the world w, with these arguments, the answer and the world behind it are Po's -/
def Cn (l : Launch) (M : Mt) (av : List Value) (w : Wd) (Po : Option Value → Wd → Prop) : Prop := l.stackTraces = false → ∀ (D : va_G) (cA : Nat → ClassId) (sz : Nat), Met l M.1 (mws M) M.2.2.2.2.2 (PcG av w D cA sz) (QcG Po D cA (fA w sz)) M.2.2.2.2.2.cells M.2.2.2.2.2.slots (fA w sz)
/-- .. of a method that returns or throws -/
def Ct (l : Launch) (M : Mt) (av : List Value) (w : Wd) (Po : Option Value → Wd → Prop) (Px : String → Wd → Prop) : Prop := l.stackTraces = false → ∀ (D : va_G) (cA : Nat → ClassId) (sz : Nat), vx_Met l M.1 (mws M) M.2.2.2.2.2 (PcG av w D cA sz) (QcG Po D cA (fA w sz)) (XcG Px D cA (fA w sz)) M.2.2.2.2.2.cells M.2.2.2.2.2.slots (fA w sz)
def EndR (M : Mt) (X : Cx) (Po : Option Value → Wd → Prop) : Prop := match X with
  | (p, l, e, R, s, m, args, below, meth, c, A, D, cA, Q) => ∀ (H : Heap) (locs : List Loc) (k n : Nat) (g : JFrame), k ≤ M.2.2.2.2.2.cells → n ≤ M.2.2.2.2.2.slots → W p l e R s m args below meth c H locs M.2.2.2.2.2.cells M.2.2.2.2.2.slots (MQ below (QcG Po D cA A) args s M.2.2.2.2.2.cells M.2.2.2.2.2.slots A) g → W p l e R s m args below meth c H locs k n Q g
def EndX (M : Mt) (X : Cx) (Po : Option Value → Wd → Prop) (Px : String → Wd → Prop) : Prop := match X with
  | (_, _, _, _, s, _, args, below, _, _, A, D, cA, Q) => Q = vx_MQ below (QcG Po D cA A) (XcG Px D cA A) args s M.2.2.2.2.2.cells M.2.2.2.2.2.slots A
theorem EndX.R {M : Mt} {X : Cx} {Po : Option Value → Wd → Prop} {Px : String → Wd → Prop} (h : EndX M X Po Px) : EndR M X Po := by
  obtain ⟨p, l, e, R, s, m, args, below, meth, c, A, D, cA, Q⟩ := X
  intro H locs k n g hk hn hw
  have h' : Q = vx_MQ below (QcG Po D cA A) (XcG Px D cA A) args s M.2.2.2.2.2.cells M.2.2.2.2.2.slots A := h
  subst h'
  exact W.widen hk hn (vx_ret hw)
/-- an exception of the class E is under way, thrown at pc -/
def JX (M : Mt) (X : Cx) (pc : Nat) (ls : List (Nat × Value)) (w : Wd) (k n : Nat) (E : String) : Prop := match X with
  | (p, l, e, R, s, m, args, below, meth, c, A, D, cA, Q) => Ok M (p, l, e, R, s, m, args, below, meth, c, A, D, cA, Q) → ∀ (H : Heap) (locs : List Loc) (lsA : Array Slot) (q : Addr) (ce : Cell) (rest : List Value), j_P D cA w H → (∀ q o, w q = some o → A q) → va_S A s.heap H locs → lv_has lsA M.2.2.1 ls → H[q]? = some ce → ce.vm = .none → s.vm.findClass E = some ce.cls → vx_W p l e R s m args below meth c H locs k n Q (F0 m pc lsA rest) q
section JC
variable {M : Mt} {X : Cx} {pc : Nat} {ls ls' : List (Nat × Value)} {st : List Value} {w : Wd} {k n : Nat} {Po : Option Value → Wd → Prop} {Px : String → Wd → Prop}
theorem J_iret {v : Int32} {ty : FieldType} (hd : decode M.2.1 pc = .ok (.ireturn, 1)) (hQ : EndR M X Po) (hr : M.2.2.2.1 = some ty) (hn : narrow ty (.int v) = .int v) (hk : k ≤ M.2.2.2.2.2.cells) (hs : n ≤ M.2.2.2.2.2.slots) (hp : Po (some (.int v)) w) : J M X pc ls [.int v] w k n := by
  obtain ⟨p, l, e, R, s, m, args, below, meth, c, A, D, cA, Q⟩ := X
  intro ok H locs lsA hP hA hS hl
  obtain ⟨hx, hb, -, hrt, hlocks, -⟩ := ok
  exact hQ H locs k n _ hk hs (W.zret hx hb (hrt.trans hr) hn (fun t ht hW => ⟨⟨_, w, rfl, hp, by rw [ht]; exact hP, hA⟩, hS.F ht⟩) hS.2.2 hd)
theorem J_lret {v : Int64} (hd : decode M.2.1 pc = .ok (.lreturn, 1)) (hQ : EndR M X Po) (hr : M.2.2.2.1 = some .long) (hk : k ≤ M.2.2.2.2.2.cells) (hs : n ≤ M.2.2.2.2.2.slots) (hp : Po (some (.long v)) w) : J M X pc ls [.long v] w k n := by
  obtain ⟨p, l, e, R, s, m, args, below, meth, c, A, D, cA, Q⟩ := X
  intro ok H locs lsA hP hA hS hl
  obtain ⟨hx, hb, -, hrt, hlocks, -⟩ := ok
  exact hQ H locs k n _ hk hs (W.lret hx hb (hrt.trans hr) (fun t ht hW => ⟨⟨_, w, rfl, hp, by rw [ht]; exact hP, hA⟩, hS.F ht⟩) hS.2.2 hd)
theorem J_vret (hd : decode M.2.1 pc = .ok (.return_, 1)) (hQ : EndR M X Po) (hr : M.2.2.2.1 = none) (hk : k ≤ M.2.2.2.2.2.cells) (hs : n ≤ M.2.2.2.2.2.slots) (hp : Po none w) : J M X pc ls [] w k n := by
  obtain ⟨p, l, e, R, s, m, args, below, meth, c, A, D, cA, Q⟩ := X
  intro ok H locs lsA hP hA hS hl
  obtain ⟨hx, hb, -, hrt, hlocks, -⟩ := ok
  exact hQ H locs k n _ hk hs (W.vret hx hb (hrt.trans hr) (fun t ht hW => ⟨⟨_, w, rfl, hp, by rw [ht]; exact hP, hA⟩, hS.F ht⟩) hS.2.2 hd)
/-- entry -/
theorem Cn.of {l : Launch} {av : List Value} (hy : plainName M.1.cls = true) (hh : M.2.2.2.2.1 = []) (hlen : (lg_sl av).length ≤ M.2.2.1) (body : ∀ X : Cx, X.2.1 = l → Ok M X → EndR M X Po → J M X 0 (lv_args 0 av) [] w 0 0) : Cn l M av w Po := by
  intro hst D cA sz
  obtain ⟨y, cc, maxL, ret, hs, rm⟩ := M
  dsimp only at hh
  subst hh
  refine Met.ofW (cc := cc) (maxL := maxL) (ret := ret) (ws' := []) hy rfl ?_
  intro p e s m args below meth c s₁ B hml hv
  obtain ⟨rfl, hsz, hP, hK, hE, hU, hN⟩ := hv
  subst hsz
  have htab : c.exceptionTable.toList = [] := by
    obtain ⟨meth9, c9, h1, h2, -, -, -, -, h7, -⟩ := Cond.code_spec B.named (atoms_spec (ws := mws (y, cc, maxL, ret, [], rm)) B.pre _ List.mem_cons_self)
    cases Option.some.inj (h1.symm.trans B.method)
    cases Option.some.inj (h2.symm.trans (Stand.of_body B).code)
    rw [Array.isEmpty_iff.mp h7]
  have hnm : meth.name = y.name := (name_of_methodNamed B.named B.method).1
  have ok : Ok (y, cc, maxL, ret, [], rm) (p, l, e, (headSpec (mws (y, cc, maxL, ret, [], rm)) rm).room, s, m, av.toArray, below, meth, c, fA w s.heap.size, D, cA, MQ below (QcG Po D cA (fA w s.heap.size)) av.toArray s rm.cells rm.slots (fA w s.heap.size)) :=
    ⟨B.exec, B.bytes, hml, B.returns, B.notSynchronized, findClass_of_methodNamed B.named, hnm, htab, hst, rfl, hE, hK, fun q h => Or.inr h, hU, hN⟩
  have hb := body _ rfl ok (fun H locs k n g hk hn hw => W.widen hk hn hw) ok s.heap [] _ hP (fun q o h => Or.inl ⟨o, h⟩) va_S.rf (lv_entry av hlen)
  rw [lg_entry_eq]
  exact hb
theorem Ct.of {l : Launch} {av : List Value} (hy : plainName M.1.cls = true) (hh : M.2.2.2.2.1 = []) (hlen : (lg_sl av).length ≤ M.2.2.1) (body : ∀ X : Cx, X.2.1 = l → Ok M X → EndX M X Po Px → J M X 0 (lv_args 0 av) [] w 0 0) : Ct l M av w Po Px := by
  intro hst D cA sz
  obtain ⟨y, cc, maxL, ret, hs, rm⟩ := M
  dsimp only at hh
  subst hh
  refine vx_ofW (cc := cc) (maxL := maxL) (ret := ret) (ws' := []) hy rfl ?_
  intro p e s m args below meth c s₁ B hml htb hv
  obtain ⟨rfl, hsz, hP, hK, hE, hU, hN⟩ := hv
  subst hsz
  have htab : c.exceptionTable.toList = [] := by
    cases h : c.exceptionTable.toList with
    | nil => rfl
    | cons x t => exact (htb x (by rw [h]; exact List.mem_cons_self)).elim
  have hnm : meth.name = y.name := (name_of_methodNamed B.named B.method).1
  have ok : Ok (y, cc, maxL, ret, [], rm) (p, l, e, (headSpec (mws (y, cc, maxL, ret, [], rm)) rm).room, s, m, av.toArray, below, meth, c, fA w s.heap.size, D, cA, vx_MQ below (QcG Po D cA (fA w s.heap.size)) (XcG Px D cA (fA w s.heap.size)) av.toArray s rm.cells rm.slots (fA w s.heap.size)) :=
    ⟨B.exec, B.bytes, hml, B.returns, B.notSynchronized, findClass_of_methodNamed B.named, hnm, htab, hst, rfl, hE, hK, fun q h => Or.inr h, hU, hN⟩
  have hb := body _ rfl ok rfl ok s.heap [] _ hP (fun q o h => Or.inl ⟨o, h⟩) va_S.rf (lv_entry av hlen)
  rw [lg_entry_eq]
  exact hb
/-- a body with an exception table, that returns -/
theorem Cn.ofH {l : Launch} {av : List Value} {h0 : Nat × Nat × Nat × Nat} {ht : List (Nat × Nat × Nat × Nat)} (hy : plainName M.1.cls = true) (hh : M.2.2.2.2.1 = h0 :: ht) (hlen : (lg_sl av).length ≤ M.2.2.1) (body : ∀ X : Cx, X.2.1 = l → Ok M X → EndX M X Po (fun _ _ => False) → J M X 0 (lv_args 0 av) [] w 0 0) : Cn l M av w Po := by
  intro hst D cA sz
  obtain ⟨y, cc, maxL, ret, hs, rm⟩ := M
  dsimp only at hh
  subst hh
  have K : vx_Met l y (mws (y, cc, maxL, ret, h0 :: ht, rm)) rm (PcG av w D cA sz) (QcG Po D cA (fA w sz)) (XcG (fun _ _ => False) D cA (fA w sz)) rm.cells rm.slots (fA w sz) := by
    refine vx_ofWH (hh := h0 :: ht) (cc := cc) (maxL := maxL) (ret := ret) (ws' := []) hy rfl ?_
    intro p e s m args below meth c s₁ B hml hv
    obtain ⟨rfl, hsz, hP, hK, hE, hU, hN⟩ := hv
    subst hsz
    have htab : c.exceptionTable.toList = tableOf (h0 :: ht) := vx_table (x := y) B (atoms_spec (ws := mws (y, cc, maxL, ret, h0 :: ht, rm)) B.pre _ List.mem_cons_self)
    have hnm : meth.name = y.name := (name_of_methodNamed B.named B.method).1
    have ok : Ok (y, cc, maxL, ret, h0 :: ht, rm) (p, l, e, (headSpec (mws (y, cc, maxL, ret, h0 :: ht, rm)) rm).room, s, m, av.toArray, below, meth, c, fA w s.heap.size, D, cA, vx_MQ below (QcG Po D cA (fA w s.heap.size)) (XcG (fun _ _ => False) D cA (fA w s.heap.size)) av.toArray s rm.cells rm.slots (fA w s.heap.size)) :=
      ⟨B.exec, B.bytes, hml, B.returns, B.notSynchronized, findClass_of_methodNamed B.named, hnm, htab, hst, rfl, hE, hK, fun q h => Or.inr h, hU, hN⟩
    have hb := body _ rfl ok rfl ok s.heap [] _ hP (fun q o h => Or.inl ⟨o, h⟩) va_S.rf (lv_entry av hlen)
    rw [lg_entry_eq]
    exact hb
  refine MetFree.mono K (fun _ _ h => h) (fun _ _ _ _ _ h => h) (fun a s o s' _ h => ?_)
  rcases h with h | ⟨q, -, E, ce, L, ⟨w', hF, -⟩, -⟩
  · exact h
  · exact hF.elim
theorem PcG.blind {av : List Value} {D : va_G} {cA : Nat → ClassId} {sz : Nat} : FrameBlind (PcG av w D cA sz) := by
  intro a U g mk h
  obtain ⟨h0, h1, h2, h3, h4, h5, h6⟩ := h
  exact ⟨h0, h1, h2, va_K.moved (u := U) (U := U.calling g mk a) (Vm.Alike.refl U.vm) h3, h4.warm (State.WarmedH.refl U), vx_Zq.moved (u := U) (U := U.calling g mk a) (Vm.Alike.refl U.vm) h5, vx_Zq.moved (u := U) (U := U.calling g mk a) (Vm.Alike.refl U.vm) h6⟩
theorem j_call {p : Program} {l : Launch} {e : Env} {R : Room} {s : State} {m : MethodId} {args : Array Value} {below : List Frame} {meth : Method} {c : Code} {H : Heap} {locs : List Loc} {cells slots mc ms : Nat} {Q : State → Prop} {lsA : Array Slot} {rest st0 : List Value} {a : Array Value} {A0 A1 : Nat → Prop} {H0 : Heap} {D : va_G} {cA : Nat → ClassId}
    (hr : va_Run p l e R s m args below meth c H locs cells slots mc ms (F0 m pc lsA st0) rest (QcG Po D cA A1 a) A1) (hS : va_S A0 H0 H locs) (hf : ∀ q, A1 q → A0 q)
    (kk : ∀ (v : Option Value) (w' : Wd) (H1 : Heap) (locs1 : List Loc), Po v w' → j_P D cA w' H1 → (∀ q o, w' q = some o → A1 q) → va_S A0 H0 H1 locs1 → W p l e R s m args below meth c H1 locs1 (cells + mc) (slots + ms) Q (F0 m (pc + 3) lsA (v.toList ++ rest))) : W p l e R s m args below meth c H locs cells slots Q (F0 m pc lsA st0) := by
  intro T hT X
  obtain ⟨v, st₀, t, T', L, h0, X', hL, e1, e2, ⟨⟨v', w', hv, hp, hb, hd⟩, hz, hk⟩, st⟩ := hr T hT X
  cases hv
  rw [h0] at hz hk
  obtain ⟨t2, a1, b1⟩ := kk v w' T'.heap (locs ++ L) hp (by rw [e1]; exact hb) hd
    ⟨Nat.le_trans hS.1 (by rw [e1]; exact hz), fun q h1 h2 => by rw [e1, hk q (Nat.lt_of_lt_of_le h1 hS.1) (fun z => h2 (hf q z))]; exact hS.2.1 q h1 h2, fun q hq => by
      rcases List.mem_append.mp hq with h | h
      · exact hS.2.2 q h
      · exact hf _ (hL q h)⟩ T' rfl X'
  exact ⟨t2, st t2 a1, b1⟩
theorem j_callX {p : Program} {l : Launch} {e : Env} {R : Room} {s : State} {m : MethodId} {args : Array Value} {below : List Frame} {meth : Method} {c : Code} {H : Heap} {locs : List Loc} {cells slots mc ms : Nat} {Q : State → Prop} {lsA : Array Slot} {rest st0 : List Value} {a : Array Value} {A0 A1 : Nat → Prop} {H0 : Heap} {D : va_G} {cA : Nat → ClassId}
    (hr : vx_Run p l e R s m args below meth c H locs cells slots mc ms (F0 m pc lsA st0) rest (QcG Po D cA A1 a) (XcG Px D cA A1) A1) (hS : va_S A0 H0 H locs) (hf : ∀ q, A1 q → A0 q)
    (kx : ∀ (E : String) (w' : Wd) (H1 : Heap) (locs1 : List Loc) (q : Addr) (ce : Cell), Px E w' → j_P D cA w' H1 → (∀ q o, w' q = some o → A1 q) → va_S A0 H0 H1 locs1 → H1[q]? = some ce → ce.vm = .none → s.vm.findClass E = some ce.cls → vx_W p l e R s m args below meth c H1 locs1 (cells + mc) (slots + ms) Q (F0 m pc lsA rest) q)
    (kk : ∀ (v : Option Value) (w' : Wd) (H1 : Heap) (locs1 : List Loc), Po v w' → j_P D cA w' H1 → (∀ q o, w' q = some o → A1 q) → va_S A0 H0 H1 locs1 → W p l e R s m args below meth c H1 locs1 (cells + mc) (slots + ms) Q (F0 m (pc + 3) lsA (v.toList ++ rest))) : W p l e R s m args below meth c H locs cells slots Q (F0 m pc lsA st0) := by
  intro T hT X
  rcases hr T hT X with ⟨v, st₀, t, T', L, h0, X', hL, e1, e2, ⟨⟨v', w', hv, hp, hb, hd⟩, hz, hk⟩, st⟩ | ⟨q, st₀, t, T', L, E, ce, h0, X', hL, e1, e2, ⟨w', hp, hb, hd, hz, hk⟩, hce, hcv, hcl, st⟩
  · cases hv
    rw [h0] at hz hk
    obtain ⟨t2, a1, b1⟩ := kk v w' T'.heap (locs ++ L) hp (by rw [e1]; exact hb) hd
      ⟨Nat.le_trans hS.1 (by rw [e1]; exact hz), fun q h1 h2 => by rw [e1, hk q (Nat.lt_of_lt_of_le h1 hS.1) (fun z => h2 (hf q z))]; exact hS.2.1 q h1 h2, fun q hq => by
        rcases List.mem_append.mp hq with h | h
        · exact hS.2.2 q h
        · exact hf _ (hL q h)⟩ T' rfl X'
    exact ⟨t2, st t2 a1, b1⟩
  · rw [h0] at hz hk
    obtain ⟨t2, a1, b1⟩ := kx E w' T'.heap (locs ++ L) q ce hp (by rw [e1]; exact hb) hd
      ⟨Nat.le_trans hS.1 (by rw [e1]; exact hz), fun q h1 h2 => by rw [e1, hk q (Nat.lt_of_lt_of_le h1 hS.1) (fun z => h2 (hf q z))]; exact hS.2.1 q h1 h2, fun q hq => by
        rcases List.mem_append.mp hq with h | h
        · exact hS.2.2 q h
        · exact hf _ (hL q h)⟩ (by rw [e1]; exact hce) hcv hcl T' rfl X'
    exact ⟨t2, st.trans a1, b1⟩
/-- what every call asks: the room, and the callee's words -/
def CallOk (M M' : Mt) (k n : Nat) (nar : Nat) : Prop := M'.2.2.2.2.2.frames + 1 ≤ M.2.2.2.2.2.frames ∧ 8 + (M'.2.2.1 + 11) + M'.2.2.2.2.2.locals ≤ M.2.2.2.2.2.locals ∧ k + M'.2.2.2.2.2.cells ≤ M.2.2.2.2.2.cells ∧ n + M'.2.2.2.2.2.slots ≤ M.2.2.2.2.2.slots
def CL (M' : Mt) (nar : Nat) : Prop := M'.2.2.2.2.1 = [] ∧ Cond.code M'.1 M'.2.1 M'.2.2.1 M'.2.2.2.1 ∈ GW ∧ Cond.initialized M'.1.cls ∈ GW ∧ (M'.1.cls ≠ "java/lang/invoke/MethodHandle" ∧ M'.1.cls ≠ "java/lang/invoke/VarHandle") ∧ (parseMethodDescriptor M'.1.desc).map (fun d => d.parameters.length) = some nar
/-- invokevirtual to the method itself of the receiver's own kind -/
def VL (own : String) (idx : Nat) (M' : Mt) (nar : Nat) : Prop := CL M' nar ∧ Cond.methodLink own idx M'.1 ∈ GW ∧ Cond.instanceMethod M'.1 ∈ GW ∧ Cond.selects M'.1.cls M'.1 M'.1 ∈ GW
def SL (own : String) (idx : Nat) (M' : Mt) (nar : Nat) : Prop := CL M' nar ∧ (Cond.methodLink own idx M'.1 ∈ GW ∨ ∃ host, Cond.methodLinkNest own idx M'.1 host ∈ NW) ∧ Cond.static M'.1 ∈ GW
def IL (own : String) (idx : Nat) (M' : Mt) (nar : Nat) : Prop := CL M' nar ∧ (Cond.methodLink own idx M'.1 ∈ GW ∨ ∃ host, Cond.methodLinkNest own idx M'.1 host ∈ NW) ∧ Cond.instanceMethod M'.1 ∈ GW ∧ M'.1.name = "<init>" ∧ M'.2.2.2.1 = none
theorem j_pay {s : State} {M' : Mt} {nar : Nat} (hE : j_Env s) (h : CL M' nar) : ∀ w ∈ mws M', ∀ (a' : Array Value) (U : State), s.WarmedH U.vm → w.before a' U = true := by
  intro w hw a' U hW
  obtain ⟨h0, h1, -⟩ := h
  unfold mws at hw
  rw [h0] at hw
  rw [List.mem_singleton.mp hw]
  exact j_word (hE.warm hW) h1
theorem j_codeIn {M' : Mt} {nar : Nat} (h : CL M' nar) : Cond.code M'.1 M'.2.1 M'.2.2.1 M'.2.2.2.1 ∈ mws M' := by
  unfold mws
  rw [h.1]
  exact List.mem_cons_self
theorem j_plen {M' : Mt} {nar : Nat} (h : CL M' nar) : ∀ sig, parseMethodDescriptor M'.1.desc = some sig → nar = sig.parameters.length := by
  intro sig hs
  have h2 := h.2.2.2.2
  rw [hs] at h2
  exact (Option.some.inj h2).symm
theorem j_pre {l : Launch} {s : State} {A : Nat → Prop} {D : va_G} {cA : Nat → ClassId} {H : Heap} {locs : List Loc} {av : List Value} (hE : j_Env s) (hK : va_K D vwCl (j_tys cA) s) (hsz : ∀ q, s.heap.size ≤ q → A q) (hU : vx_Zq Bundle.tN "UNASSIGNED_STACK" Bundle.steD A s s.heap) (hN : vx_Zq Bundle.tN "SUPPRESSED_SENTINEL" Bundle.listD A s s.heap) (hP : j_P D cA w H) (hA : ∀ q o, w q = some o → A q) (hS : va_S A s.heap H locs) :
    ∀ U : State, U.heap = H → s.WarmedH U.vm → PcG av w D cA H.size av.toArray U := by
  intro U hU1 hW
  have hf : ∀ q, fA w H.size q → A q := fun q h => h.elim (fun ⟨o, h⟩ => hA q o h) (fun h => hsz q (Nat.le_trans hS.1 h))
  refine ⟨rfl, by rw [hU1], by rw [hU1]; exact hP, va_K.moved hW.alike hK, hE.warm hW, ?_, ?_⟩
  · rw [hU1]
    exact vx_Zq.narrow (vx_Zq.moved hW.alike (vx_Zq.kept hU hS.2.1)) hf
  · rw [hU1]
    exact vx_Zq.narrow (vx_Zq.moved hW.alike (vx_Zq.kept hN hS.2.1)) hf
theorem j_fA {A : Nat → Prop} {s : State} {H : Heap} {locs : List Loc} (hsz : ∀ q, s.heap.size ≤ q → A q) (hA : ∀ q o, w q = some o → A q) (hS : va_S A s.heap H locs) : ∀ q, fA w H.size q → A q := fun q h => h.elim (fun ⟨o, h⟩ => hA q o h) (fun h => hsz q (Nat.le_trans hS.1 h))
theorem J_callV {M' : Mt} {i b ci nar : Nat} {fs As rest : List Value} {r : vw_C} (hd : decode M.2.1 pc = .ok (.invokevirtual i, 3)) (hL : VL M.1.cls i M' nar) (hw : w b = some (.inl (ci, fs))) (hc : vwCl[ci]? = some r) (hrc : r.1 = M'.1.cls) (hst : st = As.reverse ++ .ref b :: rest) (hnar : As.length = nar) (hrest : (rest.map fun v => v.category).sum ≤ 8) (hok : CallOk M M' k n nar) (hM : Cn X.2.1 M' (.ref b :: As) w Po)
    (kk : ∀ (v : Option Value) (w' : Wd), Po v w' → J M X (pc + 3) ls (v.toList ++ rest) w' (k + M'.2.2.2.2.2.cells) (n + M'.2.2.2.2.2.slots)) : J M X pc ls st w k n := by
  obtain ⟨p, l, e, R, s, m, args, below, meth, c, A, D, cA, Q⟩ := X
  intro ok H locs lsA hP hA hS hl
  have hh := fun v w' hp H1 locs1 => kk v w' hp ok H1 locs1 lsA
  obtain ⟨hx, hb, hml, -, -, hown, -, -, hst0, hR, hE, hK, hsz, hU, hN⟩ := ok
  have hts : ∀ w ∈ GW, w.before args s = true := fun w hw => j_word hE hw
  have hM' := hM hst0 D cA H.size
  refine j_call (Po := Po) (va_runV (As := As) (rest := rest) (C := M'.1.cls) (Ts := GW) (n := nar) ⟨hx, hb, hml, hown, hts⟩ hM' ⟨⟨rfl, rfl, by rw [hR]; exact hok.1, by rw [hR]; exact hok.2.1, j_pay hE hL.1, j_codeIn hL.1, hts _ hL.1.2.1, hts _ hL.1.2.2.1, hL.1.2.2.2.1, j_plen hL.1, hts _ hL.2.1⟩, hts _ hL.2.2.1, hts _ hL.2.2.2⟩ ⟨PcG.blind, ?_, j_pre (l := l) hE hK hsz hU hN hP hA hS⟩ rfl hnar hl.1 hst (lv_room hrest) hd ⟨by rw [hR]; exact hok.2.2.1, by rw [hR]; exact hok.2.2.2⟩) hS (j_fA hsz hA hS) ?_
  · obtain ⟨cell, h1, h2, h3⟩ := va_recv hK (j_one hP hw) hc (q0 := 0) rfl
    exact ⟨cell, h1, h2, by rw [← hrc]; exact h3⟩
  · intro v w' H1 locs1 hp hP1 hA1 hS1
    exact hh v w' hp H1 locs1 hP1 (fun q o h => j_fA hsz hA hS q (hA1 q o h)) hS1 hl
theorem J_callVX {M' : Mt} {i b ci nar : Nat} {fs As rest : List Value} {r : vw_C} (hd : decode M.2.1 pc = .ok (.invokevirtual i, 3)) (hL : VL M.1.cls i M' nar) (hw : w b = some (.inl (ci, fs))) (hc : vwCl[ci]? = some r) (hrc : r.1 = M'.1.cls) (hst : st = As.reverse ++ .ref b :: rest) (hnar : As.length = nar) (hrest : (rest.map fun v => v.category).sum ≤ 8) (hok : CallOk M M' k n nar) (hM : Ct X.2.1 M' (.ref b :: As) w Po Px)
    (kx : ∀ (E : String) (w' : Wd), Px E w' → JX M X pc ls w' (k + M'.2.2.2.2.2.cells) (n + M'.2.2.2.2.2.slots) E)
    (kk : ∀ (v : Option Value) (w' : Wd), Po v w' → J M X (pc + 3) ls (v.toList ++ rest) w' (k + M'.2.2.2.2.2.cells) (n + M'.2.2.2.2.2.slots)) : J M X pc ls st w k n := by
  obtain ⟨p, l, e, R, s, m, args, below, meth, c, A, D, cA, Q⟩ := X
  intro ok H locs lsA hP hA hS hl
  have hh := fun v w' hp H1 locs1 => kk v w' hp ok H1 locs1 lsA
  have hx2 := fun E w' hp H1 locs1 => kx E w' hp ok H1 locs1 lsA
  obtain ⟨hx, hb, hml, -, -, hown, -, -, hst0, hR, hE, hK, hsz, hU, hN⟩ := ok
  have hts : ∀ w ∈ GW, w.before args s = true := fun w hw => j_word hE hw
  have hM' := hM hst0 D cA H.size
  refine j_callX (Po := Po) (Px := Px) (vx_runV (As := As) (rest := rest) (C := M'.1.cls) (Ts := GW) (n := nar) ⟨hx, hb, hml, hown, hts⟩ hM' ⟨⟨rfl, rfl, by rw [hR]; exact hok.1, by rw [hR]; exact hok.2.1, j_pay hE hL.1, j_codeIn hL.1, hts _ hL.1.2.1, hts _ hL.1.2.2.1, hL.1.2.2.2.1, j_plen hL.1, hts _ hL.2.1⟩, hts _ hL.2.2.1, hts _ hL.2.2.2⟩ ⟨PcG.blind, ?_, j_pre (l := l) hE hK hsz hU hN hP hA hS⟩ rfl hnar hl.1 hst (lv_room hrest) hd ⟨by rw [hR]; exact hok.2.2.1, by rw [hR]; exact hok.2.2.2⟩) hS (j_fA hsz hA hS) ?_ ?_
  · obtain ⟨cell, h1, h2, h3⟩ := va_recv hK (j_one hP hw) hc (q0 := 0) rfl
    exact ⟨cell, h1, h2, by rw [← hrc]; exact h3⟩
  · intro E w' H1 locs1 q ce hp hP1 hA1 hS1 h1 h2 h3
    exact hx2 E w' hp H1 locs1 q ce _ hP1 (fun q o h => j_fA hsz hA hS q (hA1 q o h)) hS1 hl h1 h2 h3
  · intro v w' H1 locs1 hp hP1 hA1 hS1
    exact hh v w' hp H1 locs1 hP1 (fun q o h => j_fA hsz hA hS q (hA1 q o h)) hS1 hl
theorem J_callS {M' : Mt} {i nar : Nat} {As rest : List Value} (hd : decode M.2.1 pc = .ok (.invokestatic i, 3)) (hL : SL M.1.cls i M' nar) (hst : st = As.reverse ++ rest) (hnar : As.length = nar) (hrest : (rest.map fun v => v.category).sum ≤ 8) (hok : CallOk M M' k n nar) (hM : Cn X.2.1 M' As w Po)
    (kk : ∀ (v : Option Value) (w' : Wd), Po v w' → J M X (pc + 3) ls (v.toList ++ rest) w' (k + M'.2.2.2.2.2.cells) (n + M'.2.2.2.2.2.slots)) : J M X pc ls st w k n := by
  obtain ⟨p, l, e, R, s, m, args, below, meth, c, A, D, cA, Q⟩ := X
  intro ok H locs lsA hP hA hS hl
  have hh := fun v w' hp H1 locs1 => kk v w' hp ok H1 locs1 lsA
  obtain ⟨hx, hb, hml, -, -, hown, -, -, hst0, hR, hE, hK, hsz, hU, hN⟩ := ok
  have hts : ∀ w ∈ GW, w.before args s = true := fun w hw => j_word hE hw
  have hM' := hM hst0 D cA H.size
  obtain ⟨hC, hlink, hstat⟩ := hL
  have hr : va_Run p l e R s m args below meth c H locs k n M'.2.2.2.2.2.cells M'.2.2.2.2.2.slots (F0 m pc lsA st) rest (QcG Po D cA (fA w H.size) As.toArray) (fA w H.size) := by
    rcases hlink with hlink | ⟨host, hlink⟩
    · exact va_runS (As := As) (rest := rest) (Ts := GW) (n := nar) ⟨hx, hb, hml, hown, hts⟩ hM' ⟨⟨rfl, rfl, by rw [hR]; exact hok.1, by rw [hR]; exact hok.2.1, j_pay hE hC, j_codeIn hC, hts _ hC.2.1, hts _ hC.2.2.1, hC.2.2.2.1, j_plen hC, hts _ hlink⟩, hts _ hstat⟩ ⟨PcG.blind, j_pre (l := l) hE hK hsz hU hN hP hA hS⟩ rfl hnar hl.1 hst (lv_room hrest) hd ⟨by rw [hR]; exact hok.2.2.1, by rw [hR]; exact hok.2.2.2⟩
    · exact va_runSN (As := As) (rest := rest) (Ts := GW) (n := nar) (host := host) ⟨hx, hb, hml, hown, hts⟩ hM' ⟨⟨⟨rfl, rfl, by rw [hR]; exact hok.1, by rw [hR]; exact hok.2.1, j_pay hE hC, j_codeIn hC⟩, hts _ hC.2.1, hts _ hC.2.2.1, hC.2.2.2.1, j_plen hC, va_Nw.use rfl (hE.2.2.1 _ hlink)⟩, hts _ hstat, trivial⟩ ⟨PcG.blind, j_pre (l := l) hE hK hsz hU hN hP hA hS⟩ rfl hnar hl.1 hst (lv_room hrest) hd ⟨by rw [hR]; exact hok.2.2.1, by rw [hR]; exact hok.2.2.2⟩
  refine j_call hr hS (j_fA hsz hA hS) ?_
  intro v w' H1 locs1 hp hP1 hA1 hS1
  exact hh v w' hp H1 locs1 hP1 (fun q o h => j_fA hsz hA hS q (hA1 q o h)) hS1 hl
theorem J_callI {M' : Mt} {i b nar : Nat} {As rest : List Value} (hd : decode M.2.1 pc = .ok (.invokespecial i, 3)) (hL : IL M.1.cls i M' nar) (hst : st = As.reverse ++ .ref b :: rest) (hnar : As.length = nar) (hrest : (rest.map fun v => v.category).sum ≤ 8) (hok : CallOk M M' k n nar) (hM : Cn X.2.1 M' (.ref b :: As) w Po)
    (kk : ∀ (v : Option Value) (w' : Wd), Po v w' → J M X (pc + 3) ls (v.toList ++ rest) w' (k + M'.2.2.2.2.2.cells) (n + M'.2.2.2.2.2.slots)) : J M X pc ls st w k n := by
  obtain ⟨p, l, e, R, s, m, args, below, meth, c, A, D, cA, Q⟩ := X
  intro ok H locs lsA hP hA hS hl
  have hh := fun v w' hp H1 locs1 => kk v w' hp ok H1 locs1 lsA
  obtain ⟨hx, hb, hml, -, -, hown, -, -, hst0, hR, hE, hK, hsz, hU, hN⟩ := ok
  have hts : ∀ w ∈ GW, w.before args s = true := fun w hw => j_word hE hw
  have hM' := hM hst0 D cA H.size
  obtain ⟨hC, hlink, hinst, hname, hret⟩ := hL
  have hcode : Cond.code M'.1 M'.2.1 M'.2.2.1 none ∈ mws M' := by rw [← hret]; exact j_codeIn hC
  have hcode2 : (Cond.code M'.1 M'.2.1 M'.2.2.1 none).before args s = true := by rw [← hret]; exact hts _ hC.2.1
  have hr : va_Run p l e R s m args below meth c H locs k n M'.2.2.2.2.2.cells M'.2.2.2.2.2.slots (F0 m pc lsA st) rest (QcG Po D cA (fA w H.size) (Value.ref b :: As).toArray) (fA w H.size) := by
    rcases hlink with hlink | ⟨host, hlink⟩
    · exact va_runI (As := As) (rest := rest) (Ts := GW) (n := nar) ⟨hx, hb, hml, hown, hts⟩ hM' ⟨⟨rfl, rfl, by rw [hR]; exact hok.1, by rw [hR]; exact hok.2.1, j_pay hE hC, hcode, hcode2, hts _ hC.2.2.1, hC.2.2.2.1, j_plen hC, hts _ hlink⟩, hname, hts _ hinst⟩ ⟨PcG.blind, j_pre (l := l) hE hK hsz hU hN hP hA hS⟩ rfl hnar hl.1 hst (lv_room hrest) hd ⟨by rw [hR]; exact hok.2.2.1, by rw [hR]; exact hok.2.2.2⟩
    · exact va_runIN (As := As) (rest := rest) (Ts := GW) (n := nar) (host := host) ⟨hx, hb, hml, hown, hts⟩ hM' ⟨⟨⟨rfl, rfl, by rw [hR]; exact hok.1, by rw [hR]; exact hok.2.1, j_pay hE hC, hcode⟩, hcode2, hts _ hC.2.2.1, hC.2.2.2.1, j_plen hC, va_Nw.use rfl (hE.2.2.1 _ hlink)⟩, hname, hts _ hinst⟩ ⟨PcG.blind, j_pre (l := l) hE hK hsz hU hN hP hA hS⟩ rfl hnar hl.1 hst (lv_room hrest) hd ⟨by rw [hR]; exact hok.2.2.1, by rw [hR]; exact hok.2.2.2⟩
  refine j_call hr hS (j_fA hsz hA hS) ?_
  intro v w' H1 locs1 hp hP1 hA1 hS1
  exact hh v w' hp H1 locs1 hP1 (fun q o h => j_fA hsz hA hS q (hA1 q o h)) hS1 hl
/-- Object's own constructor -/
def OL (own : String) (idx : Nat) : Prop := Cond.methodLink own idx objectInit ∈ GW ∧ Cond.instanceMethod objectInit ∈ GW ∧ Cond.code objectInit ⟨#[0xb1]⟩ 1 none ∈ GW
theorem J_objInit {i b : Nat} (hd : decode M.2.1 pc = .ok (.invokespecial i, 3)) (hL : OL M.1.cls i) (hf : 1 ≤ M.2.2.2.2.2.frames) (hlo : (st.map fun v => v.category).sum + 12 ≤ M.2.2.2.2.2.locals) (kk : J M X (pc + 3) ls st w k n) : J M X pc ls (.ref b :: st) w k n := by
  obtain ⟨p, l, e, R, s, m, args, below, meth, c, A, D, cA, Q⟩ := X
  intro ok H locs lsA hP hA hS hl
  have hh := kk ok H locs lsA hP hA hS hl
  obtain ⟨hx, hb, hml, -, -, hown, -, -, -, hR, hE, -⟩ := ok
  have hts : ∀ w ∈ GW, w.before args s = true := fun w hw => j_word hE hw
  refine W.objInit hx hb hown (hts _ hL.1) (hts _ hL.2.1) (hts _ hL.2.2) rfl (by rw [hml]; exact hl.1) rfl hd (by rw [hR]; exact hf) ?_ ?_
  · rw [hR]
    show 2 * 0 + _ + 12 ≤ _
    omega
  · exact hh
/-- invokevirtual by the name x, that the receiver's kind C answers by M' -/
def UL (own : String) (idx : Nat) (C owner : String) (x : MethodName) (M' : Mt) (nar : Nat) : Prop := CL M' nar ∧ Cond.methodLink own idx x ∈ GW ∧ Cond.sameMethod x.cls owner x.name x.desc ∈ GW ∧ (M'.1 = ⟨owner, x.name, x.desc⟩ ∨ Cond.declares ⟨owner, x.name, x.desc⟩ ∈ DW) ∧ Cond.selects C x M'.1 ∈ GW ∧ Cond.instanceMethod M'.1 ∈ GW ∧ (owner ≠ "java/lang/invoke/MethodHandle" ∧ owner ≠ "java/lang/invoke/VarHandle") ∧ x.desc = M'.1.desc
def AL (own : String) (idx : Nat) : Prop := Cond.methodLink own idx arraycopyName ∈ GW ∧ Cond.native arraycopyName ∈ GW ∧ Cond.static arraycopyName ∈ GW ∧ Cond.initialized "java/lang/System" ∈ GW
def MLk (own : String) (idx : Nat) (y : MethodName) (cc : ByteArray) : Prop := Cond.methodLink own idx y ∈ GW ∧ Cond.static y ∈ GW ∧ Cond.initialized "java/lang/Math" ∈ GW ∧ Cond.code y cc 2 (some .int) ∈ GW
/-- an exception that this method doesn't catch -/
theorem JX_out {E : String} (hQ : EndX M X Po Px) (hh : M.2.2.2.2.1 = []) (hp : Px E w) (hk : k ≤ M.2.2.2.2.2.cells) (hn : n ≤ M.2.2.2.2.2.slots) : JX M X pc ls w k n E := by
  obtain ⟨p, l, e, R, s, m, args, below, meth, c, A, D, cA, Q⟩ := X
  intro ok H locs lsA q ce rest hP hA hS hl h1 h2 h3
  obtain ⟨-, -, -, -, hlocks, -, -, htab, -⟩ := ok
  have h' : Q = vx_MQ below (QcG Po D cA A) (XcG Px D cA A) args s M.2.2.2.2.2.cells M.2.2.2.2.2.slots A := hQ
  subst h'
  refine vx_out (E := E) (fun x hx => ?_) hlocks h1 h2 h3 (fun t ht hv => ⟨w, hp, by rw [ht]; exact hP, hA, hS.F ht⟩) hS.2.2 hk hn
  rw [htab, hh] at hx
  cases hx
/-- new E(text) thrown: the five instructions -/
def TL (own : String) (ik is ic : Nat) (E : String) : Prop := Bundle.fit E = true ∧ Cond.classLink own ik E ∈ GW ∧ Cond.initialized E ∈ GW ∧ (∃ tx, Cond.stringRef own is tx ∈ lw_tbl) ∧ (∃ nms : List String, (∀ x ∈ nms, Bundle.fit x = true) ∧ nms.length ≤ 2 ∧ (∀ w ∈ (vx_atS own ic E nms).filter goodWord, w ∈ GW) ∧ (∀ w ∈ (vx_atS own ic E nms).filter (fun w => !goodWord w), w ∈ CW ++ DW) ∧ ∀ w ∈ Cond.classLink own ik E :: Cond.initialized E :: vx_atS own ic E nms, vx_ot w = true)
theorem J_throw {ik is ic : Nat} {E : String} (hL : TL M.1.cls ik is ic E) (hQ : EndX M X Po Px) (hh : M.2.2.2.2.1 = []) (d0 : decode M.2.1 pc = .ok (.new ik, 3)) (d3 : decode M.2.1 (pc + 3) = .ok (.dup, 1)) (d4 : decode M.2.1 (pc + 4) = .ok (.ldc is, 2)) (d6 : decode M.2.1 (pc + 6) = .ok (.invokespecial ic, 3)) (d9 : decode M.2.1 (pc + 9) = .ok (.athrow, 1)) (hf : 6 ≤ M.2.2.2.2.2.frames) (hlo : (st.map fun v => v.category).sum + 82 ≤ M.2.2.2.2.2.locals) (hk : k + 1 ≤ M.2.2.2.2.2.cells) (hn : n + 6 ≤ M.2.2.2.2.2.slots) (hp : Px E w) : J M X pc ls st w k n := by
  obtain ⟨p, l, e, R, s, m, args, below, meth, c, A, D, cA, Q⟩ := X
  intro ok H locs lsA hP hA hS hl
  obtain ⟨hx, hb, hml, -, hlocks, hown, -, htab, hst0, hR, hE, hK, hsz, hU, hN⟩ := ok
  have h' : Q = vx_MQ below (QcG Po D cA A) (XcG Px D cA A) args s M.2.2.2.2.2.cells M.2.2.2.2.2.slots A := hQ
  subst h'
  have hts : ∀ w ∈ GW, w.before args s = true := fun w hw => j_word hE hw
  obtain ⟨hfit, hk1, hini, ⟨tx, hstr⟩, nms, hnm, hl2, hg1, hg2, hot⟩ := hL
  obtain ⟨sa, hsa⟩ := hE.2.2.2.2.1 _ _ _ hstr
  refine vx_throwS hx hb hst0 (names := nms) hown hfit hnm (hts _ hk1) (hts _ hini) hsa (vx_hat (fun w hw => hts w (hg1 w hw)) hg2 (fun w hw => ?_)) hot hU hN hS (hl.1.trans hml.symm) d0 d3 d4 d6 d9 (fun x hx9 => ?_) (by rw [hR]; omega) (by rw [hR]; omega) (by rw [hR]; exact hk) (by rw [hR]; exact hn) hlocks (fun t hv hz ho => ⟨w, hp, fun q o hq => (hP q o hq).kept (ho q (hP q o hq).lt), hA, Nat.le_trans hS.1 hz, fun q h1 h2 => (ho q (Nat.lt_of_lt_of_le h1 hS.1)).trans (hS.2.1 q h1 h2)⟩) hS.2.2 hk hn
  · rcases List.mem_append.mp hw with hw | hw
    · have hv := (List.mem_filter.mp hw).2
      have hZ := hE.2.1 w hw
      cases w <;> first | (simp [isCst] at hv; done) | skip
      exact va_Nw.use rfl hZ
    · have hv := (List.mem_filter.mp hw).2
      have hZ := hE.2.2.2.1 w hw
      cases w <;> first | (simp [isDcl] at hv; done) | skip
      exact va_Nw.use rfl hZ
  · rw [htab, hh] at hx9
    cases hx9
end JC
