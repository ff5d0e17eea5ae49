/-! an exception whose own constructor goes to its superclass's by another link than number 7 -/
def nx_list (own : String) (ic : Nat) (X : String) (ix : Nat) (rx : ByteArray) (Y : String) (ns : List String) : List Cond :=
  [.methodLink own ic (Bundle.initS X), .instantiable X 6, .selects X Bundle.tFill0 Bundle.tFill0, .selects X Bundle.tFill Bundle.tFill, .isRef (.static Bundle.tN "UNASSIGNED_STACK" Bundle.steD), .isRef (.static Bundle.tN "SUPPRESSED_SENTINEL" Bundle.listD), .fieldLink Bundle.tN 198 Bundle.tN "backtrace" "Ljava/lang/Object;", .lays Bundle.tN Bundle.tN "backtrace" "Ljava/lang/Object;", .lays X Bundle.tN "backtrace" "Ljava/lang/Object;", .lays X Bundle.tN "cause" "Ljava/lang/Throwable;", .lays X Bundle.tN "stackTrace" Bundle.steD, .lays X Bundle.tN "suppressedExceptions" Bundle.listD, .lays X Bundle.tN "detailMessage" "Ljava/lang/String;", .instanceMethod (Bundle.initS X), .code (Bundle.initS X) rx 2 none] ++ (Bundle.passSAtoms X Y ix rx ++ (Bundle.chainSAtoms Y ns ++ (Bundle.throwableAtoms ++ Bundle.throwableSAtoms)))
section NX
variable {p : Program} {l : Launch} {e : Env} {R : Room} {s : State} {m₀ : MethodId} {args : Array Value} {below : List Frame} {meth : Method} {c : Code} {W9 : State} {locs : List Loc} {cells slots : Nat}
set_option maxHeartbeats 1000000 in
theorem nx_ctor (X : Stand p l e R s m₀ args below meth c W9 locs cells slots) (hexec : p.tables.exec = Jvm.exec) (htr : e.platform.stackTraces = false) {own cls Y : String} {ns : List String} {ic ix : Nat} {rx : ByteArray} (x0 : decode rx 0 = .ok (.aload_n 0, 1)) (x1 : decode rx 1 = .ok (.aload_n 1, 1)) (x2 : decode rx 2 = .ok (.invokespecial ix, 3)) (x5 : decode rx 5 = .ok (.return_, 1))
    (hown : s.vm.findClass own = some m₀.cls) (hcls : Bundle.fit cls = true) (hY : Bundle.fit Y = true) (hns : ∀ n ∈ ns, Bundle.fit n = true)
    (h : ∀ a ∈ nx_list own ic cls ix rx Y ns, a.before args s = true)
    (hlocs : ∀ x ∈ locs, ∀ cell, s.heap[x.base]? = some cell → cell.vm.isStatics = false)
    {a : Addr} {cX : ClassId} {kX : Class} (hfoundX : s.vm.findClass cls = some cX) (hkX : s.vm.classes[cX]? = some kX) (hcell : W9.heap[a]? = some (freshCell cX kX)) (hnew : s.heap.size ≤ a)
    {msg : Value} (hmsg : msg.isRef = true)
    {g : JFrame} (hg : g.method = m₀) (hsize : g.locals.size = c.maxLocals) (hlocked : g.locked = none) (hentered : g.entered = []) {rest : List Value} (hstack : g.stack = msg :: .ref a :: .ref a :: rest)
    (hd6 : decode c.code g.pc = .ok (.invokespecial ic, 3)) (hd9 : decode c.code (g.pc + 3) = .ok (.athrow, 1)) (hout : ∀ x ∈ c.exceptionTable.toList, covers x (g.pc + 3) = false)
    (hRf : ns.length + 4 < R.frames) (hRl : 2 * g.monitorRoom + ((Value.ref a :: rest).map fun v => v.category).sum + (13 * (ns.length + 2) + 42) ≤ R.locals) (hlocks : meth.locks = false) :
    ∃ U : State, Steps p.tables e below (W9.setTop g) U ∧ U.status = .running ∧ Ended U below (.threw a) ∧ s.WarmedH U.vm ∧ s.sameButNew ({ U with vm := s.vm } : State) locs cells slots ∧ ∃ ce, U.heap[a]? = some ce ∧ ce.vm = .none ∧ s.vm.findClass cls = some ce.cls := by
  have howns : e.platform.frameOwnsMonitors = true := by rw [X.admits.platform]
  have hfin : e.platform.finalization = false := by rw [X.admits.platform]
  have hpl : e.platform.magicAccessors = ({} : Platform).magicAccessors := by rw [X.admits.platform]
  have h0 := fun x hx => h x (List.mem_append.mpr (Or.inl hx))
  have h1 := fun x hx => h x (List.mem_append.mpr (Or.inr (List.mem_append.mpr (Or.inl hx))))
  have h2 := fun x hx => h x (List.mem_append.mpr (Or.inr (List.mem_append.mpr (Or.inr (List.mem_append.mpr (Or.inl hx))))))
  have h3 := fun x hx => h x (List.mem_append.mpr (Or.inr (List.mem_append.mpr (Or.inr (List.mem_append.mpr (Or.inr (List.mem_append.mpr (Or.inl hx))))))))
  have h4 := fun x hx => h x (List.mem_append.mpr (Or.inr (List.mem_append.mpr (Or.inr (List.mem_append.mpr (Or.inr (List.mem_append.mpr (Or.inr hx))))))))
  have a0 : ∀ x, x ∈ nx_list own ic cls ix rx Y ns → x.holds args s none s [] = true := fun x hx => h x hx
  obtain ⟨T, Z0, L, -, Yt⟩ := ThrowableC.of_atoms (args := args) howns hfin hpl h3
  obtain ⟨Z, M, LZ, LM, hnZ⟩ := Init0T.ofS_atoms (args := args) hpl L Yt h4
  obtain ⟨P2, Ps, hlen, L2, hL, hP2m, hsup, hpass⟩ := Bundle.chainS (args := args) hpl hnZ ns Y hY hns h2
  obtain ⟨P1, L1, hP1m, hs1⟩ := PassC.ofS_atoms (args := args) (s := s) hpl (X := cls) (Y := Y) (Bundle.fit_spec hcls).1 (Bundle.fit_spec hY).2 x0 x1 x2 x5 h1
  have hlink1 : P1.sup = P2.m := Option.some.inj (hs1.symm.trans hP2m)
  have hfound : s.vm.findClass cls = some P1.m.cls := findClass_of_methodNamed hP1m
  cases Option.some.inj (hfoundX.symm.trans hfound)
  obtain ⟨c1, kX', hc1, hk, hord, -, -, hn6⟩ := Cond.instantiable_spec (a0 (.instantiable cls 6) (by simp [nx_list]))
  cases Option.some.inj (hc1.symm.trans hfound)
  cases Option.some.inj (hkX.symm.trans hk)
  have hsel0 : selectMethod e.platform s.vm P1.m.cls T.fill0 = .method T.fill0 := by
    obtain ⟨c2, r2, m2, q1, q2, q3, q4, -⟩ := Cond.selects_spec (a0 (.selects cls Bundle.tFill0 Bundle.tFill0) (by simp [nx_list]))
    cases Option.some.inj (q1.symm.trans hfound)
    cases Option.some.inj (q2.symm.trans (State.methodFound?_of_named Yt.fill0 (by decide)))
    cases Option.some.inj (q3.symm.trans Yt.fill0)
    rw [Launch.admits_selectMethod X.admits]; exact q4
  have hselF : selectMethod e.platform s.vm P1.m.cls T.fill = .method T.fill := by
    obtain ⟨c2, r2, m2, q1, q2, q3, q4, -⟩ := Cond.selects_spec (a0 (.selects cls Bundle.tFill Bundle.tFill) (by simp [nx_list]))
    cases Option.some.inj (q1.symm.trans hfound)
    cases Option.some.inj (q2.symm.trans (State.methodFound?_of_named Yt.fill (by decide)))
    cases Option.some.inj (q3.symm.trans Yt.fill)
    rw [Launch.admits_selectMethod X.admits]; exact q4
  obtain ⟨cellS0, hcS0, hiss⟩ := Yt.statics
  obtain ⟨u0, hu0⟩ := Cond.staticRefV Yt.unassigned L.unassignedStatic L.statics hcS0 hiss (a0 (.isRef (.static Bundle.tN "UNASSIGNED_STACK" Bundle.steD)) (by simp [nx_list]))
  obtain ⟨sen, hsen⟩ := Cond.staticRefV Yt.sentinel L.sentinelStatic L.statics hcS0 hiss (a0 (.isRef (.static Bundle.tN "SUPPRESSED_SENTINEL" Bundle.listD)) (by simp [nx_list]))
  obtain ⟨ci198, i198, fB, hk198, hg198, ha198, hsB, -, hnB, htB, hffB⟩ := Cond.ownField (t := .object "java/lang/Object") Yt.found L.cls (by decide +kernel) (a0 (.fieldLink Bundle.tN 198 Bundle.tN "backtrace" "Ljava/lang/Object;") (by simp [nx_list])) (a0 (.lays Bundle.tN Bundle.tN "backtrace" "Ljava/lang/Object;") (by simp [nx_list])) e.platform hpl
  obtain ⟨cellS, hcS', heS, -, hkeep⟩ := X.same.2.2.2.2.2 T.aS cellS0 hcS0
  have hcellS : W9.heap[T.aS]? = some cellS := hcS'
  have hout' : ∀ i, (⟨T.aS, i⟩ : Loc) ∉ locs := fun i hmem => by
    have := hlocs _ hmem cellS0 hcS0
    rw [hiss] at this; cases this
  have hknownS : cellS.vm ≠ .unknown := by
    rw [heS]; intro hu
    rw [show cellS0.vm = .unknown from hu] at hiss
    cases hiss
  have hneS : T.aS ≠ a := Nat.ne_of_lt (Nat.lt_of_lt_of_le (Array.getElem?_eq_some_iff.mp hcS0).1 hnew)
  obtain ⟨iM, hffM⟩ := Yt.msg
  obtain ⟨tyC, dC, hdC, hdnC⟩ := Cond.laysAt hfound hk Yt.cause (a0 (.lays cls Bundle.tN "cause" "Ljava/lang/Throwable;") (by simp [nx_list]))
  obtain ⟨tyS, dS, hdS, hdnS⟩ := Cond.laysAt hfound hk Yt.stack (a0 (.lays cls Bundle.tN "stackTrace" Bundle.steD) (by simp [nx_list]))
  obtain ⟨tyP, dP, hdP, hdnP⟩ := Cond.laysAt hfound hk Yt.supp (a0 (.lays cls Bundle.tN "suppressedExceptions" Bundle.listD) (by simp [nx_list]))
  obtain ⟨tyM, dM, hdM, hdnM⟩ := Cond.laysAt hfound hk hffM (a0 (.lays cls Bundle.tN "detailMessage" "Ljava/lang/String;") (by simp [nx_list]))
  obtain ⟨tyB, dB, hdB, hdnB⟩ := Cond.laysAt hfound hk hffB (a0 (.lays cls Bundle.tN "backtrace" "Ljava/lang/Object;") (by simp [nx_list]))
  have bC := Cond.laysApart hdB hdC hdnB hdnC (by rw [hnB, Yt.causeName]; decide)
  have bS := Cond.laysApart hdB hdS hdnB hdnS (by rw [hnB, Yt.stackName]; decide)
  have bP := Cond.laysApart hdB hdP hdnB hdnP (by rw [hnB, Yt.suppName]; decide)
  have hskip : SkipFacts T e.platform s (fun u => u) u0 ((preparedCellV T.toThrowableT (freshCell P1.m.cls kX) a u0 sen).withEntry W9.cur) :=
    ⟨{ ci198 := ci198, i198 := i198, fBack := fB }, ⟨hk198, hg198, ha198, hsB⟩, by
      have := fresh_default (c := P1.m.cls) tyB
      rw [htB] at this
      simpa [preparedCellV, Cell.setSlot, Cell.withEntry, Array.getElem?_setIfInBounds, bC, bS, bP, bC.symm, bS.symm, bP.symm, defaultValue] using this, fun _ _ => rfl⟩
  obtain ⟨tm, methC, cdC, kC, vm₁, hnC, -, -, -, -, -, -, -, hW₁, st1⟩ := Steps.initColdS (tb := p.tables) (e := e) (below := below) (s := s) (U := W9) X.here hexec X.warmed hpl hown (t := Bundle.initS cls) rfl rfl (Bundle.fit_spec hcls).2
    (a0 (.methodLink own ic (Bundle.initS cls)) (by simp [nx_list])) (h (.instanceMethod (Bundle.initS cls)) (by simp [nx_list])) (bytes := rx) (maxL := 2) (h (.code (Bundle.initS cls) rx 2 none) (by simp [nx_list]))
    (f := g) hg (a := a) (msg := msg) (rest := .ref a :: rest) hstack hd6
  cases Option.some.inj (hnC.symm.trans hP1m)
  have X₁ := X.noted hW₁
  obtain ⟨vm₂, X₂, st2⟩ := X₁.ctorMessageOffV hexec (g := { g with stack := .ref a :: rest }) hg hsize T L Z LZ M LM (P1 :: P2 :: Ps)
    (fun P hP => by
      rcases List.mem_cons.mp hP with rfl | hP
      · exact L1
      · rcases List.mem_cons.mp hP with rfl | hP
        · exact L2
        · exact hL P hP) ⟨hlink1, hsup, hpass⟩ (u0 := u0) (sen := sen) (self := a) hmsg (cell := freshCell P1.m.cls kX) (cellS := cellS)
    hcell (fun _ => by simp) (by simp) rfl rfl hsel0 hselF hcellS hneS hknownS (by rw [hkeep _ (hout' _)]; exact hu0) (by rw [hkeep _ (hout' _)]; exact hsen)
    (Takes.of_laid hk hord tyC (by rw [Yt.causeType]; rfl)) (Takes.of_laid hk hord tyS (by rw [Yt.stackType]; exact fits_refV_array _ u0)) (Takes.of_laid hk hord tyP (by rw [Yt.suppType]; exact fits_refV_object _ sen))
    (Takes.of_laid hk hord tyM (by rw [Yt.msgType]; exact fits_refV_object _ ⟨msg, hmsg⟩)) Yt.objLocals hskip htr [] hd6
    (by simp only [List.length_cons, hlen]; omega) (by simp only [List.length_cons, hlen]; exact hRl)
  obtain ⟨hwalk, hrun, hended, hWU, hsame⟩ := X₂.athrowLeaves hexec (g := { g with stack := .ref a :: rest, pc := g.pc + 3 }) hg hlocked hentered hout (a := a) (rest := rest) rfl hd9
  have hlt : a < ((W9.setVm vm₁).setVm vm₂).heap.size := (Array.getElem?_eq_some_iff.mp hcell).1
  have hU := heapAt_setCell_self (s := (W9.setVm vm₁).setVm vm₂) (plainBareV T.toThrowableT (freshCell P1.m.cls kX) a u0 sen msg) hlt
  refine ⟨_, st1 _ (fun acts => ?_), hrun, hended, hWU, hsame.weaken (fun y hy hlt' => ?_) (Nat.le_refl _) (Nat.le_refl _), _, hU, rfl, hfound⟩
  · rw [doInvoke_state]
    exact st2 _ hwalk
  · rcases List.mem_append.mp hy with h1 | h1
    · exact h1
    · exfalso
      have hb : y.base = a := by
        simp only [List.mem_cons, List.not_mem_nil, or_false] at h1
        rcases h1 with rfl | rfl | rfl | rfl | rfl <;> rfl
      rw [hb] at hlt'
      exact Nat.not_lt.mpr hnew hlt'
end NX
section NX2
variable {p : Program} {l : Launch} {e : Env} {R : Room} {s : State} {m : MethodId} {args : Array Value} {below : List Frame} {meth : Method} {c : Code} {H : Heap} {locs : List Loc} {cells slots : Nat} {ls : Array Slot} {rest : List Value} {Qc : Array Value → State → Outcome → State → Prop} {XC : String → State → State → Prop} {free : Addr → Prop}
theorem nx_throw {cc : ByteArray} {pc : Nat} (hexec : p.tables.exec = Jvm.exec) (hb : c.code = cc) (hl : l.stackTraces = false) {own cls text Y : String} {ns : List String} {ik is ic ix mc ms sa : Nat} {A : Nat → Prop} {rx : ByteArray} (x0 : decode rx 0 = .ok (.aload_n 0, 1)) (x1 : decode rx 1 = .ok (.aload_n 1, 1)) (x2 : decode rx 2 = .ok (.invokespecial ix, 3)) (x5 : decode rx 5 = .ok (.return_, 1))
    (hown : s.vm.findClass own = some m.cls) (hcls : Bundle.fit cls = true) (hY : Bundle.fit Y = true) (hns : ∀ n ∈ ns, Bundle.fit n = true)
    (hk : (Cond.classLink own ik cls).before args s = true) (hini : (Cond.initialized cls).before args s = true) (hstr : vk_R own is text sa s) (hat : ∀ w ∈ (nx_list own ic cls ix rx Y ns).filter vx_no, w.before args s = true)
    (hgood : ∀ w ∈ Cond.classLink own ik cls :: Cond.initialized cls :: (nx_list own ic cls ix rx Y ns).filter vx_no, vx_ot w = true)
    (hU : vx_Zq Bundle.tN "UNASSIGNED_STACK" Bundle.steD A s s.heap) (hN : vx_Zq Bundle.tN "SUPPRESSED_SENTINEL" Bundle.listD A s s.heap) (hS : va_S A s.heap H locs) (hsize : ls.size = c.maxLocals)
    (d0 : decode cc pc = .ok (.new ik, 3)) (d3 : decode cc (pc + 3) = .ok (.dup, 1)) {wide : Bool} (d4 : decode cc (pc + 4) = .ok (if wide = true then (.ldc_w is, 3) else (.ldc is, 2))) (d6 : decode cc (pc + 4 + (if wide = true then 3 else 2)) = .ok (.invokespecial ic, 3)) (d9 : decode cc (pc + 4 + (if wide = true then 3 else 2) + 3) = .ok (.athrow, 1))
    (hout : ∀ x ∈ c.exceptionTable.toList, covers x (pc + 4 + (if wide = true then 3 else 2) + 3) = false)
    (hRf : ns.length + 4 < R.frames) (hRl : (rest.map fun v => v.category).sum + (13 * (ns.length + 2) + 43) ≤ R.locals) (hRcells : cells + 1 ≤ R.cells) (hRslots : slots + 6 ≤ R.slots) (hlocks : meth.locks = false)
    (hx : ∀ t : State, s.vm.Alike t.vm → H.size ≤ t.heap.size → (∀ q : Nat, q < H.size → t.heap[q]? = H[q]?) → XC cls s t)
    (hf : ∀ z ∈ locs, free z.base) (hc : cells + 1 ≤ mc) (hs : slots + 6 ≤ ms) :
    W p l e R s m args below meth c H locs cells slots (vx_MQ below Qc XC args s mc ms free) (F0 m pc ls rest) := by
  intro T hT X
  have htr : e.platform.stackTraces = false := (show e.platform.stackTraces = l.stackTraces by rw [X.admits.platform]).trans hl
  have Yb := vx_rebase X (R' := { frames := R.frames, locals := R.locals, cells := 1, slots := 6 }) (Nat.le_refl _) (Nat.le_refl _) hRcells hRslots
  obtain ⟨s', hA⟩ : ∃ z, z = (T.setVm s.vm).setFrames (.invoking m args :: below) := ⟨_, rfl⟩
  rw [← hA] at Yb
  have hvm : s'.vm = s.vm := by rw [hA]; rfl
  have hhp : s'.heap = H := by rw [hA]; exact hT
  have hW0 : s.WarmedH s'.vm := by rw [hvm]; exact State.WarmedH.refl s
  have hat' : ∀ w ∈ (nx_list own ic cls ix rx Y ns).filter vx_no, w.before args s' = true := fun w hw => vx_ot_at hW0 hvm.symm (hgood w (List.mem_cons_of_mem _ (List.mem_cons_of_mem _ hw))) (hat w hw)
  have hk' : (Cond.classLink own ik cls).before args s' = true := vx_ot_at hW0 hvm.symm (hgood _ List.mem_cons_self) hk
  have hini' : (Cond.initialized cls).before args s' = true := vx_ot_at hW0 hvm.symm (hgood _ (List.mem_cons_of_mem _ List.mem_cons_self)) hini
  have hU' : vx_Zq Bundle.tN "UNASSIGNED_STACK" Bundle.steD A s' s'.heap := by rw [hhp]; exact vx_Zq.moved hW0.alike (hU.kept hS.2.1)
  have hN' : vx_Zq Bundle.tN "SUPPRESSED_SENTINEL" Bundle.listD A s' s'.heap := by rw [hhp]; exact vx_Zq.moved hW0.alike (hN.kept hS.2.1)
  have h : ∀ w ∈ nx_list own ic cls ix rx Y ns, w.before args s' = true := vx_own hat' (vx_isRefq hU'.1) (vx_isRefq hN'.1) hU'.2.word hN'.2.word
  have hown' : s'.vm.findClass own = some m.cls := by rw [hvm]; exact hown
  have hins : (Cond.instantiable cls 6).before args s' = true := h _ (by simp [nx_list])
  obtain ⟨vm₁, cX, kX, hfX, hkX, -, -, X₁, st1⟩ := Yb.newCold hexec (own := own) (C := cls) (index := ik) (n := 6) hown' hk' hins hini'
    (g := F0 m pc ls rest) rfl (by rw [hb]; exact d0) (Nat.le_refl _) (Nat.le_refl _)
  generalize hT1 : (T.setVm vm₁).pushCell { cls := cX, slots := kX.instanceTypes.map defaultValue, vm := .none } = T1 at X₁ st1
  have hcat : (Value.ref T.heap.size).category = 1 := rfl
  have hcellA : T1.heap[T.heap.size]? = some (freshCell cX kX) := by rw [← hT1]; exact State.heap_pushCell_size _ _
  have d3' : decode c.code (pc + 3) = .ok (.dup, 1) := by rw [hb]; exact d3
  have hstr' : vk_R own is text sa s' := vk_R.warm hW0 hstr
  obtain ⟨U, hsteps, hrun, hend, hW, hsame, ce, hce, hO, hcl0⟩ := nx_ctor X₁ hexec htr (own := own) (cls := cls) (Y := Y) (ns := ns) (ic := ic) x0 x1 x2 x5 hown' hcls hY hns h (fun x hx => nomatch hx) hfX hkX hcellA (by rw [hhp, hT]; exact Nat.le_refl _) (msg := .ref sa) rfl
    (g := { method := m, pc := pc + 4 + (if wide = true then 3 else 2), locals := ls, stack := .ref sa :: .ref T.heap.size :: .ref T.heap.size :: rest, locked := none }) rfl hsize rfl rfl (rest := rest) rfl
    (by rw [hb]; exact d6) (by rw [hb]; exact d9) hout hRf (by simp only [List.map_cons, List.sum_cons, hcat]; omega) hlocks
  obtain ⟨f1, f2⟩ := vx_frame hsame
  rw [hhp] at f1 f2
  have hWs : s.WarmedH U.vm := State.WarmedH.trans hW0 hW
  have hcl : s.vm.findClass cls = some ce.cls := by rw [hvm] at hcl0; exact hcl0
  have hall : s.sameButNew ({ U with vm := s.vm } : State) locs mc ms := by
    subst hA
    obtain ⟨e1, e2⟩ := hsame
    rw [State.setFrames_setFrames] at e1
    have h2 : (T.setVm s.vm).sameButNew ({ U with vm := s.vm } : State) [] (0 + 1) (0 + 6) := ⟨e1, e2⟩
    have h3 := X.same.trans h2
    rw [List.append_nil] at h3
    exact h3.mono hc hs
  refine ⟨U, ?_, .threw T.heap.size, hrun, hend, Or.inr ⟨T.heap.size, rfl, cls, ce, locs, hx U hWs.alike f1 (fun q hq => f2 q hq (fun z hz => nomatch hz)), hce, hO, hcl, hWs, hall, hf⟩⟩
  refine st1 _ ?_
  show Steps p.tables e below (T1.setTop { method := m, pc := pc + 3, locals := ls, stack := .ref T.heap.size :: rest, locked := none }) _
  jvm_step X₁.here [X₁.here.top, hexec, d3', Value.category]
  cases wide with
  | false =>
    exact X₁.ldcString hexec (own := own) (text := text) (index := is) (a := sa) hown' hstr'.1 hstr'.2
      (g := { method := m, pc := pc + 4, locals := ls, stack := .ref T.heap.size :: .ref T.heap.size :: rest, locked := none }) rfl (by rw [hb]; exact d4) _ hsteps
  | true =>
    exact X₁.ldcStringW hexec (own := own) (text := text) (index := is) (a := sa) hown' hstr'.1 hstr'.2
      (g := { method := m, pc := pc + 4, locals := ls, stack := .ref T.heap.size :: .ref T.heap.size :: rest, locked := none }) rfl (by rw [hb]; exact d4) _ hsteps
end NX2
/-- .. over our worlds -/
def TN (own : String) (ik is ic : Nat) (E : String) (ix : Nat) (rx : ByteArray) (Y : String) (ns : List String) : Prop := Bundle.fit E = true ∧ Bundle.fit Y = true ∧ (∀ n ∈ ns, Bundle.fit n = true) ∧ ns.length ≤ 1 ∧ Cond.classLink own ik E ∈ GW ∧ Cond.initialized E ∈ GW ∧ (∃ tx, Cond.stringRef own is tx ∈ lw_tbl) ∧ (∀ w ∈ ((nx_list own ic E ix rx Y ns).filter vx_no).filter goodWord, w ∈ GW) ∧ (∀ w ∈ ((nx_list own ic E ix rx Y ns).filter vx_no).filter (fun w => !goodWord w), w ∈ CW ++ DW) ∧ ∀ w ∈ Cond.classLink own ik E :: Cond.initialized E :: (nx_list own ic E ix rx Y ns).filter vx_no, vx_ot w = true
theorem J_throwN {M : Mt} {X : Cx} {pc : Nat} {ls : List (Nat × Value)} {st : List Value} {w : Wd} {k n : Nat} {Po : Option Value → Wd → Prop} {Px : String → Wd → Prop} {ik is ic ix : Nat} {E Y : String} {ns : List String} {rx : ByteArray} (wide : Bool) (x0 : decode rx 0 = .ok (.aload_n 0, 1)) (x1 : decode rx 1 = .ok (.aload_n 1, 1)) (x2 : decode rx 2 = .ok (.invokespecial ix, 3)) (x5 : decode rx 5 = .ok (.return_, 1)) (hL : TN M.1.cls ik is ic E ix rx Y ns) (hQ : EndX M X Po Px) (hh : M.2.2.2.2.1 = []) (d0 : decode M.2.1 pc = .ok (.new ik, 3)) (d3 : decode M.2.1 (pc + 3) = .ok (.dup, 1)) (d4 : decode M.2.1 (pc + 4) = .ok (if wide = true then (.ldc_w is, 3) else (.ldc is, 2))) (d6 : decode M.2.1 (pc + 4 + (if wide = true then 3 else 2)) = .ok (.invokespecial ic, 3)) (d9 : decode M.2.1 (pc + 4 + (if wide = true then 3 else 2) + 3) = .ok (.athrow, 1)) (hf : 6 ≤ M.2.2.2.2.2.frames) (hlo : (st.map fun v => v.category).sum + 82 ≤ M.2.2.2.2.2.locals) (hk : k + 1 ≤ M.2.2.2.2.2.cells) (hn : n + 6 ≤ M.2.2.2.2.2.slots) (hp : Px E w) : J M X pc ls st w k n := by
  obtain ⟨p, l, e, R, s, m, args, below, meth, c, A, D, cA, Q⟩ := X
  intro ok H locs lsA hP hA hS hl
  obtain ⟨hx, hb, hml, -, hlocks, hown, -, htab, hst0, hR, hE, hK, hsz, hU, hN⟩ := ok
  have h' : Q = vx_MQ below (QcG Po D cA A) (XcG Px D cA A) args s M.2.2.2.2.2.cells M.2.2.2.2.2.slots A := hQ
  subst h'
  have hts : ∀ w ∈ GW, w.before args s = true := fun w hw => j_word hE hw
  obtain ⟨hfit, hY, hns, hl2, hk1, hini, ⟨tx, hstr⟩, hg1, hg2, hot⟩ := hL
  obtain ⟨sa, hsa⟩ := hE.2.2.2.2.1 _ _ _ hstr
  refine nx_throw (wide := wide) hx hb hst0 x0 x1 x2 x5 (ns := ns) hown hfit hY hns (hts _ hk1) (hts _ hini) hsa (vx_hat (fun w hw => hts w (hg1 w hw)) hg2 (fun w hw => ?_)) hot hU hN hS (hl.1.trans hml.symm) d0 d3 d4 d6 d9 (fun x hx9 => ?_) (by rw [hR]; omega) (by rw [hR]; omega) (by rw [hR]; exact hk) (by rw [hR]; exact hn) hlocks (fun t hv hz ho => ⟨w, hp, fun q o hq => (hP q o hq).kept (ho q (hP q o hq).lt), hA, Nat.le_trans hS.1 hz, fun q h1 h2 => (ho q (Nat.lt_of_lt_of_le h1 hS.1)).trans (hS.2.1 q h1 h2)⟩) hS.2.2 hk hn
  · rcases List.mem_append.mp hw with hw | hw
    · have hv := (List.mem_filter.mp hw).2
      have hZ := hE.2.1 w hw
      cases w <;> first | (simp [isCst] at hv; done) | skip
      exact va_Nw.use rfl hZ
    · have hv := (List.mem_filter.mp hw).2
      have hZ := hE.2.2.2.1 w hw
      cases w <;> first | (simp [isDcl] at hv; done) | skip
      exact va_Nw.use rfl hZ
  · rw [htab, hh] at hx9
    cases hx9
abbrev nxE : String := "java/util/NoSuchElementException"
theorem nx_words : (∀ w ∈ ((nx_list RX11 317 nxE 13 prog_25_method_4_code "java/lang/RuntimeException" ["java/lang/Exception"]).filter vx_no).filter goodWord, w ∈ GW) ∧ (∀ w ∈ ((nx_list RX11 317 nxE 13 prog_25_method_4_code "java/lang/RuntimeException" ["java/lang/Exception"]).filter vx_no).filter (fun w => !goodWord w), w ∈ CW ++ DW) ∧ ∀ w ∈ Cond.classLink RX11 313 nxE :: Cond.initialized nxE :: (nx_list RX11 317 nxE 13 prog_25_method_4_code "java/lang/RuntimeException" ["java/lang/Exception"]).filter vx_no, vx_ot w = true := ⟨by decide +kernel, by decide +kernel, by decide +kernel⟩
theorem tn_X11_315 : TN RX11 313 315 317 nxE 13 prog_25_method_4_code "java/lang/RuntimeException" ["java/lang/Exception"] := ⟨by decide +kernel, by decide +kernel, by decide +kernel, by decide, gw (i := 1029) (by decide +kernel) (by decide +kernel), gw (i := 64) (by decide +kernel) (by decide +kernel), ⟨"no such stack slot", List.mem_of_getElem? (i := 1049) (by decide +kernel)⟩, nx_words⟩
theorem tn_X11_318 : TN RX11 313 318 317 nxE 13 prog_25_method_4_code "java/lang/RuntimeException" ["java/lang/Exception"] := ⟨by decide +kernel, by decide +kernel, by decide +kernel, by decide, gw (i := 1029) (by decide +kernel) (by decide +kernel), gw (i := 64) (by decide +kernel) (by decide +kernel), ⟨"no such local variable", List.mem_of_getElem? (i := 1034) (by decide +kernel)⟩, nx_words⟩
theorem K_throwN {M : Mt} {X : Cx} {E : Ev} {pc : Nat} {ls : List (Nat × Value)} {st : List Value} {S : St} {k n : Nat} {α : Type} {t : (String ⊕ α) × St} {Po : Option Value → Wd → Prop} {is : Nat} (wide : Bool) (hL : TN M.1.cls 313 is 317 nxE 13 prog_25_method_4_code "java/lang/RuntimeException" ["java/lang/Exception"]) (hQ : EndX M X Po (PxX E t)) (hh : M.2.2.2.2.1 = []) (d0 : decode M.2.1 pc = .ok (.new 313, 3)) (d3 : decode M.2.1 (pc + 3) = .ok (.dup, 1)) (d4 : decode M.2.1 (pc + 4) = .ok (if wide = true then (.ldc_w is, 3) else (.ldc is, 2))) (d6 : decode M.2.1 (pc + 4 + (if wide = true then 3 else 2)) = .ok (.invokespecial 317, 3)) (d9 : decode M.2.1 (pc + 4 + (if wide = true then 3 else 2) + 3) = .ok (.athrow, 1)) (hf : 6 ≤ M.2.2.2.2.2.frames) (hlo : (st.map fun v => v.category).sum + 82 ≤ M.2.2.2.2.2.locals) (hk : k + 1 ≤ M.2.2.2.2.2.cells) (hn : n + 6 ≤ M.2.2.2.2.2.slots) : K M X E pc ls st S k n (some (.inl nxE, S)) t := fun e => by
  cases e
  exact J_throwN wide (by decide +kernel) (by decide +kernel) (by decide +kernel) (by decide +kernel) hL hQ hh d0 d3 d4 d6 d9 hf hlo hk hn ⟨rfl, rfl⟩
