/-! what the law's methods need: shifts; a static method that reads the script -/
section JS
variable {M M' : Mt} {X : Cx} {E : Ev} {pc : Nat} {ls : List (Nat × Value)} {st : List Value} {w : Wd} {S : St} {k n : Nat} {Po : Option Value → Wd → Prop}
theorem J_ishr {x y : Int32} (hd : decode M.2.1 pc = .ok (.ishr, 1)) (kk : J M X (pc + 1) ls (.int (x >>> (y &&& 31)) :: st) w k n) : J M X pc ls (.int y :: .int x :: st) w k n := by
  obtain ⟨p, l, e, R, s, m, args, below, meth, c, A, D, cA, Q⟩ := X
  intro ok H locs lsA hP hA hS hl
  have h := kk ok H locs lsA hP hA hS hl
  obtain ⟨hx, hb, -⟩ := ok
  exact lv_ishr hx hb hd h
theorem K_ishr {α : Type} {o : Option α} {t : α} {x y : Int32} (hd : decode M.2.1 pc = .ok (.ishr, 1)) (kk : K M X E (pc + 1) ls (.int (x >>> (y &&& 31)) :: st) S k n o t) : K M X E pc ls (.int y :: .int x :: st) S k n o t := fun e => J_ishr hd (kk e)
/-- the pre of a method that reads the script -/
def PcS (av : List Value) (w : Wd) (D : va_G) (cA : Nat → ClassId) (sz b L : Nat) (xs : Nat → Int32) : Array Value → State → Prop := fun a U => PcG av w D cA sz a U ∧ va_X b L xs U U.heap ∧ b < sz ∧ ¬ fA w sz b
def CnS (l : Launch) (M : Mt) (av : List Value) (w : Wd) (b L : Nat) (xs : Nat → Int32) (Po : Option Value → Wd → Prop) : Prop := l.stackTraces = false → ∀ (D : va_G) (cA : Nat → ClassId) (sz : Nat), Met l M.1 (mws M) M.2.2.2.2.2 (PcS av w D cA sz b L xs) (QcG Po D cA (fA w sz)) M.2.2.2.2.2.cells M.2.2.2.2.2.slots (fA w sz)
theorem CnS.of {l : Launch} {av : List Value} {b L : Nat} {xs : Nat → Int32} (hy : plainName M.1.cls = true) (hh : M.2.2.2.2.1 = []) (hlen : (lg_sl av).length ≤ M.2.2.1) (body : ∀ X : Cx, X.2.1 = l → Ok M X → EndR M X Po → Scr X b L xs → J M X 0 (lv_args 0 av) [] w 0 0) : CnS l M av w b L xs Po := by
  intro hst D cA sz
  obtain ⟨y, cc, maxL, ret, hs, rm⟩ := M
  dsimp only at hh
  subst hh
  refine Met.ofW (cc := cc) (maxL := maxL) (ret := ret) (ws' := []) hy rfl ?_
  intro p e s m args below meth c s₁ B hml hv
  obtain ⟨⟨rfl, hsz, hP, hK, hE, hU, hN⟩, hX, hb, hA⟩ := hv
  subst hsz
  have htab : c.exceptionTable.toList = [] := by
    obtain ⟨meth9, c9, h1, h2, -, -, -, -, h7, -⟩ := Cond.code_spec B.named (atoms_spec (ws := mws (y, cc, maxL, ret, [], rm)) B.pre _ List.mem_cons_self)
    cases Option.some.inj (h1.symm.trans B.method)
    cases Option.some.inj (h2.symm.trans (Stand.of_body B).code)
    rw [Array.isEmpty_iff.mp h7]
  have hnm : meth.name = y.name := (name_of_methodNamed B.named B.method).1
  have ok : Ok (y, cc, maxL, ret, [], rm) (p, l, e, (headSpec (mws (y, cc, maxL, ret, [], rm)) rm).room, s, m, av.toArray, below, meth, c, fA w s.heap.size, D, cA, MQ below (QcG Po D cA (fA w s.heap.size)) av.toArray s rm.cells rm.slots (fA w s.heap.size)) :=
    ⟨B.exec, B.bytes, hml, B.returns, B.notSynchronized, findClass_of_methodNamed B.named, hnm, htab, hst, rfl, hE, hK, fun q h => Or.inr h, hU, hN⟩
  have hb := body _ rfl ok (fun H locs k n g hk hn hw => W.widen hk hn hw) ⟨hX, hb, hA⟩ ok s.heap [] _ hP (fun q o h => Or.inl ⟨o, h⟩) va_S.rf (lv_entry av hlen)
  rw [lg_entry_eq]
  exact hb
theorem PcS.blind {av : List Value} {D : va_G} {cA : Nat → ClassId} {sz b L : Nat} {xs : Nat → Int32} : FrameBlind (PcS av w D cA sz b L xs) := by
  intro a U g mk h
  exact ⟨PcG.blind a U g mk h.1, va_X.moved (u := U) (U := U.calling g mk a) (Vm.Alike.refl U.vm) h.2.1, h.2.2⟩
theorem J_callSS {i nar b L : Nat} {xs : Nat → Int32} {As rest : List Value} (hs : Scr X b L xs) (hd : decode M.2.1 pc = .ok (.invokestatic i, 3)) (hL : SL M.1.cls i M' nar) (hst : st = As.reverse ++ rest) (hnar : As.length = nar) (hrest : (rest.map fun v => v.category).sum ≤ 8) (hok : CallOk M M' k n nar) (hM : CnS X.2.1 M' As w b L xs Po)
    (kk : ∀ (v : Option Value) (w' : Wd), Po v w' → J M X (pc + 3) ls (v.toList ++ rest) w' (k + M'.2.2.2.2.2.cells) (n + M'.2.2.2.2.2.slots)) : J M X pc ls st w k n := by
  obtain ⟨p, l, e, R, s, m, args, below, meth, c, A, D, cA, Q⟩ := X
  intro ok H locs lsA hP hA hS hl
  have hh := fun v w' hp H1 locs1 => kk v w' hp ok H1 locs1 lsA
  obtain ⟨hx, hb, hml, -, -, hown, -, -, hst0, hR, hE, hK, hsz, hU, hN⟩ := ok
  have hts : ∀ w ∈ GW, w.before args s = true := fun w hw => j_word hE hw
  have hM' := hM hst0 D cA H.size
  obtain ⟨hC, hlink, hstat⟩ := hL
  obtain ⟨s1, s2, s3⟩ := hs
  have hpre : ∀ U : State, U.heap = H → s.WarmedH U.vm → PcS As w D cA H.size b L xs As.toArray U := fun U hU1 hW => ⟨j_pre (l := l) hE hK hsz hU hN hP hA hS U hU1 hW, by rw [hU1]; exact (s1.kept (hS.2.1 b s2 s3)).moved hW.alike, Nat.lt_of_lt_of_le s2 hS.1, fun h => s3 (j_fA hsz hA hS b h)⟩
  have hr : va_Run p l e R s m args below meth c H locs k n M'.2.2.2.2.2.cells M'.2.2.2.2.2.slots (F0 m pc lsA st) rest (QcG Po D cA (fA w H.size) As.toArray) (fA w H.size) := by
    rcases hlink with hlink | ⟨host, hlink⟩
    · exact va_runS (As := As) (rest := rest) (Ts := GW) (n := nar) ⟨hx, hb, hml, hown, hts⟩ hM' ⟨⟨rfl, rfl, by rw [hR]; exact hok.1, by rw [hR]; exact hok.2.1, j_pay hE hC, j_codeIn hC, hts _ hC.2.1, hts _ hC.2.2.1, hC.2.2.2.1, j_plen hC, hts _ hlink⟩, hts _ hstat⟩ ⟨PcS.blind, hpre⟩ rfl hnar hl.1 hst (lv_room hrest) hd ⟨by rw [hR]; exact hok.2.2.1, by rw [hR]; exact hok.2.2.2⟩
    · exact va_runSN (As := As) (rest := rest) (Ts := GW) (n := nar) (host := host) ⟨hx, hb, hml, hown, hts⟩ hM' ⟨⟨⟨rfl, rfl, by rw [hR]; exact hok.1, by rw [hR]; exact hok.2.1, j_pay hE hC, j_codeIn hC⟩, hts _ hC.2.1, hts _ hC.2.2.1, hC.2.2.2.1, j_plen hC, va_Nw.use rfl (hE.2.2.1 _ hlink)⟩, hts _ hstat, trivial⟩ ⟨PcS.blind, hpre⟩ rfl hnar hl.1 hst (lv_room hrest) hd ⟨by rw [hR]; exact hok.2.2.1, by rw [hR]; exact hok.2.2.2⟩
  refine j_call hr hS (j_fA hsz hA hS) ?_
  intro v w' H1 locs1 hp hP1 hA1 hS1
  exact hh v w' hp H1 locs1 hP1 (fun q o h => j_fA hsz hA hS q (hA1 q o h)) hS1 hl
theorem K_callSS {α : Type} {o : Option α} {t : α} {i nar b L : Nat} {xs : Nat → Int32} {As rest : List Value} {r : Int32} (hs : Scr X b L xs) (hM : CnS X.2.1 M' As (hp E S) b L xs (fun v w' => v = some (.int r) ∧ w' = hp E S)) (hd : decode M.2.1 pc = .ok (.invokestatic i, 3)) (hL : SL M.1.cls i M' nar) (hst : st = As.reverse ++ rest) (hnar : As.length = nar) (hrest : (rest.map fun v => v.category).sum ≤ 8) (hok : CallOk M M' k n nar) (kk : K M X E (pc + 3) ls (.int r :: rest) S (k + M'.2.2.2.2.2.cells) (n + M'.2.2.2.2.2.slots) o t) : K M X E pc ls st S k n o t := fun e => J_callSS hs hd hL hst hnar hrest hok hM (fun v w' hp => by obtain ⟨rfl, rfl⟩ := hp; exact kk e)
end JS
