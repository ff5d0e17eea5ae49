/-! the judgement J: a method's frame over a world that is a function of addresses; one rule an instruction, out of the kit's rows -/
abbrev Ob : Type := (Nat × List Value) ⊕ (Nat × vp_A)
abbrev Wd : Type := Nat → Option Ob
def j_cv (cA : Nat → ClassId) (o : Ob) : va_E := match o with
  | .inl x => .inr x
  | .inr (k, a) => .inl (cA k, a)
def j_tys (cA : Nat → ClassId) : List (ClassId × FieldType) := [(cA 0, .int), (cA 1, .boolean), (cA 2, .boolean), (cA 3, .object "CodeVerifier$Frame")]
def j_P (D : va_G) (cA : Nat → ClassId) (w : Wd) (H : Heap) : Prop := ∀ q o, w q = some o → va_at D vwCl (q, j_cv cA o) H
def wup (w : Wd) (a : Nat) (o : Ob) : Wd := fun q => if q = a then some o else w q
theorem wup_s (w : Wd) (a : Nat) (o : Ob) : wup w a o a = some o := if_pos rfl
theorem wup_n (w : Wd) {a q : Nat} (o : Ob) (h : q ≠ a) : wup w a o q = w q := if_neg h
/-- which of Analysis's own methods its subclasses' objects answer by (they are of no other class's, so the tables don't say it of them) -/
def EX : List Cond := [.selects RX5 yX0_flowToHandlers yX0_flowToHandlers, .selects RX5 yX0_flowToSuccessors yX0_flowToSuccessors, .selects RX6 yX0_flowToHandlers yX0_flowToHandlers, .selects RX6 yX0_flowToSuccessors yX0_flowToSuccessors]
def GW : List Cond := (EX ++ lw_tbl).filter goodWord
theorem gw {i : Nat} {w : Cond} (h : (EX ++ lw_tbl)[i]? = some w) (hg : goodWord w = true) : w ∈ GW := List.mem_filter.mpr ⟨List.mem_of_getElem? h, hg⟩
def isCst (w : Cond) : Bool := match w with
  | .castable _ _ => true
  | _ => false
def CW : List Cond := lw_tbl.filter isCst
def isNst (w : Cond) : Bool := match w with
  | .methodLinkNest _ _ _ _ => true
  | _ => false
def NW : List Cond := lw_tbl.filter isNst
def isDcl (w : Cond) : Bool := match w with
  | .declares _ => true
  | _ => false
def DW : List Cond := lw_tbl.filter isDcl
def isStr (w : Cond) : Bool := match w with
  | .stringRef _ _ _ => true
  | _ => false
def NCL : List (String × String) := []
def j_Env (U : State) : Prop := (∀ w ∈ GW, w.before #[] U = true) ∧ (∀ w ∈ CW, va_Nw w U) ∧ (∀ w ∈ NW, va_Nw w U) ∧ (∀ w ∈ DW, va_Nw w U) ∧ (∀ c k tx, Cond.stringRef c k tx ∈ lw_tbl → ∃ a, vk_R c k tx a U) ∧ (∀ q ∈ NCL, va_Nc q.1 q.2 U) ∧ va_AO "CodeVerifier$Frame" U
theorem j_Env.warm {s U : State} (hW : s.WarmedH U.vm) (h : j_Env s) : j_Env U := by
  obtain ⟨h1, h2, h3, h5, h4, h6, h7⟩ := h
  refine ⟨fun w hw => word_at hW (good_of_word (List.mem_filter.mp hw).2) (h1 w hw), fun w hw => ?_, fun w hw => ?_, fun w hw => ?_, fun c k tx hw => ?_, fun q hq => (h6 q hq).moved hW.alike, h7.moved hW.alike⟩
  · have hv := (List.mem_filter.mp hw).2
    have hZ := h2 w hw
    cases w <;> first | (simp [isCst] at hv; done) | skip
    exact va_tabs rfl (rfl : (s.setVm U.vm).vm = U.vm) (by rw [Cond.castable_setVm hW.alike]; exact hZ)
  · have hv := (List.mem_filter.mp hw).2
    have hZ := h3 w hw
    cases w <;> first | (simp [isNst] at hv; done) | skip
    exact va_Nw.warmM hW hZ
  · have hv := (List.mem_filter.mp hw).2
    have hZ := h5 w hw
    cases w <;> first | (simp [isDcl] at hv; done) | skip
    exact va_Nw.warmD hW hZ
  · obtain ⟨a, ha⟩ := h4 c k tx hw
    exact ⟨a, ha.warm hW⟩
theorem j_word {s : State} {args : Array Value} (h : j_Env s) {w : Cond} (hw : w ∈ GW) : w.before args s = true := word_at (State.WarmedH.refl s) (good_of_word (List.mem_filter.mp hw).2) (h.1 w hw)
abbrev Mt : Type := MethodName × ByteArray × Nat × Option FieldType × List (Nat × Nat × Nat × Nat) × Room
abbrev Cx : Type := Program × Launch × Env × Room × State × MethodId × Array Value × List Frame × Method × Code × (Nat → Prop) × va_G × (Nat → ClassId) × (State → Prop)
def Ok (M : Mt) (X : Cx) : Prop := match X with
  | (p, l, _, R, s, m, _, _, meth, c, A, D, cA, _) => p.tables.exec = Jvm.exec ∧ c.code = M.2.1 ∧ c.maxLocals = M.2.2.1 ∧ meth.sig.returnType = M.2.2.2.1 ∧ meth.locks = false ∧ s.vm.findClass M.1.cls = some m.cls ∧ meth.name = M.1.name ∧ c.exceptionTable.toList = tableOf M.2.2.2.2.1 ∧ l.stackTraces = false ∧ R = M.2.2.2.2.2 ∧ j_Env s ∧ va_K D vwCl (j_tys cA) s ∧ (∀ q, s.heap.size ≤ q → A q) ∧ vx_Zq Bundle.tN "UNASSIGNED_STACK" Bundle.steD A s s.heap ∧ vx_Zq Bundle.tN "SUPPRESSED_SENTINEL" Bundle.listD A s s.heap
def J (M : Mt) (X : Cx) (pc : Nat) (ls : List (Nat × Value)) (st : List Value) (w : Wd) (k n : Nat) : Prop := match X with
  | (p, l, e, R, s, m, args, below, meth, c, A, D, cA, Q) => Ok M (p, l, e, R, s, m, args, below, meth, c, A, D, cA, Q) → ∀ (H : Heap) (locs : List Loc) (lsA : Array Slot), j_P D cA w H → (∀ q o, w q = some o → A q) → va_S A s.heap H locs → lv_has lsA M.2.2.1 ls → W p l e R s m args below meth c H locs k n Q (F0 m pc lsA st)
def lk : List (Nat × Value) → Nat → Option Value
  | [], _ => none
  | (j, v) :: t, i => if j = i then some v else lk t i
theorem lk_mem : ∀ {l : List (Nat × Value)} {i : Nat} {v : Value}, lk l i = some v → (i, v) ∈ l
  | [], _, _, h => by simp [lk] at h
  | (j, u) :: t, i, v, h => by
    simp only [lk] at h
    split at h
    · rename_i e
      cases h
      rw [e]
      exact List.mem_cons_self
    · exact List.mem_cons_of_mem _ (lk_mem h)
/-- a store of one slot -/
def stl : List (Nat × Value) → Nat → Value → List (Nat × Value)
  | [], i, v => [(i, v)]
  | (j, u) :: t, i, v => if j = i then (i, v) :: t.filter (fun q => !(q.1 == i) && !(q.1 + 1 == i && q.2.category == 2)) else if j + 1 = i ∧ u.category = 2 then stl t i v else (j, u) :: stl t i v
theorem stl_mem : ∀ {l : List (Nat × Value)} {i : Nat} {v : Value} {q : Nat × Value}, q ∈ stl l i v → q ∈ (i, v) :: l.filter (fun q => !(q.1 == i) && !(q.1 + 1 == i && q.2.category == 2))
  | [], i, v, q, h => by simpa [stl] using h
  | (j, u) :: t, i, v, q, h => by
    simp only [stl] at h
    split at h
    · rename_i e
      rcases List.mem_cons.mp h with h | h
      · rw [h]; exact List.mem_cons_self
      · refine List.mem_cons_of_mem _ ?_
        rw [List.mem_filter] at h ⊢
        exact ⟨List.mem_cons_of_mem _ h.1, h.2⟩
    · rename_i e
      split at h
      · rcases List.mem_cons.mp (stl_mem h) with h | h
        · rw [h]; exact List.mem_cons_self
        · refine List.mem_cons_of_mem _ ?_
          rw [List.mem_filter] at h ⊢
          exact ⟨List.mem_cons_of_mem _ h.1, h.2⟩
      · rename_i e2
        rcases List.mem_cons.mp h with h | h
        · refine List.mem_cons_of_mem _ ?_
          rw [List.mem_filter]
          refine ⟨by rw [h]; exact List.mem_cons_self, ?_⟩
          rw [h]
          simp only [Bool.and_eq_true, Bool.not_eq_true', Bool.and_eq_false_iff, beq_eq_false_iff_ne, ne_eq, beq_iff_eq]
          refine ⟨e, ?_⟩
          rcases Nat.lt_or_ge (j + 1) i with q | q
          · exact Or.inl (by omega)
          · by_cases e3 : j + 1 = i
            · exact Or.inr (fun z => e2 ⟨e3, z⟩)
            · exact Or.inl e3
        · rcases List.mem_cons.mp (stl_mem h) with h | h
          · rw [h]; exact List.mem_cons_self
          · refine List.mem_cons_of_mem _ ?_
            rw [List.mem_filter] at h ⊢
            exact ⟨List.mem_cons_of_mem _ h.1, h.2⟩
theorem lv_has.stl {lsA : Array Slot} {nL : Nat} {l : List (Nat × Value)} {i : Nat} {v : Value} (h : lv_has lsA nL ((i, v) :: l.filter (fun q => !(q.1 == i) && !(q.1 + 1 == i && q.2.category == 2)))) : lv_has lsA nL (stl l i v) := ⟨h.1, h.2.1, fun q hq => h.2.2 q (stl_mem hq)⟩
/-- fewer locals -/
theorem lv_has.fewer {lsA : Array Slot} {nL : Nat} {l l' : List (Nat × Value)} (h : lv_has lsA nL l) (hs : ∀ q ∈ l', q ∈ l) : lv_has lsA nL l' := ⟨h.1, h.2.1, fun q hq => h.2.2 q (hs q hq)⟩
section JR
variable {M : Mt} {X : Cx} {pc : Nat} {ls ls' : List (Nat × Value)} {st : List Value} {w : Wd} {k n : Nat}
theorem J.keep (h : J M X pc ls' st w k n) (hs : ∀ q ∈ ls', q ∈ ls) : J M X pc ls st w k n := by
  obtain ⟨p, l, e, R, s, m, args, below, meth, c, A, D, cA, Q⟩ := X
  intro ok H locs lsA hP hA hS hl
  exact h ok H locs lsA hP hA hS (hl.fewer hs)
theorem J.eq {st' : List Value} {w' : Wd} (h : J M X pc ls' st' w' k n) (h1 : ls = ls') (h2 : st = st') (h3 : w = w') : J M X pc ls st w k n := by subst h1; subst h2; subst h3; exact h
theorem J.wide {k' n' : Nat} (h : J M X pc ls st w k' n') (h1 : k ≤ k') (h2 : n ≤ n') : J M X pc ls st w k n := by
  obtain ⟨p, l, e, R, s, m, args, below, meth, c, A, D, cA, Q⟩ := X
  intro ok H locs lsA hP hA hS hl
  exact W.widen h1 h2 (h ok H locs lsA hP hA hS hl)
theorem J_iconst {i : Int} {v : Int32} (hd : decode M.2.1 pc = .ok (.iconst i, 1)) (hv : Int32.ofInt i = v) (kk : J M X (pc + 1) ls (.int v :: st) w k n) : J M X pc ls (st) w k n := by
  obtain ⟨p, l, e, R, s, m, args, below, meth, c, A, D, cA, Q⟩ := X
  intro ok H locs lsA hP hA hS hl
  have h := kk ok H locs lsA hP hA hS hl
  obtain ⟨hx, hb, -⟩ := ok
  exact lv_iconst hx hb hd hv h
theorem J_bipush {i : Int} {v : Int32} (hd : decode M.2.1 pc = .ok (.bipush i, 2)) (hv : (Int8.ofInt i).toInt32 = v) (kk : J M X (pc + 2) ls (.int v :: st) w k n) : J M X pc ls (st) w k n := by
  obtain ⟨p, l, e, R, s, m, args, below, meth, c, A, D, cA, Q⟩ := X
  intro ok H locs lsA hP hA hS hl
  have h := kk ok H locs lsA hP hA hS hl
  obtain ⟨hx, hb, -⟩ := ok
  exact lv_bipush hx hb hd hv h
theorem J_sipush {i : Int} {v : Int32} (hd : decode M.2.1 pc = .ok (.sipush i, 3)) (hv : (Int16.ofInt i).toInt32 = v) (kk : J M X (pc + 3) ls (.int v :: st) w k n) : J M X pc ls (st) w k n := by
  obtain ⟨p, l, e, R, s, m, args, below, meth, c, A, D, cA, Q⟩ := X
  intro ok H locs lsA hP hA hS hl
  have h := kk ok H locs lsA hP hA hS hl
  obtain ⟨hx, hb, -⟩ := ok
  exact lv_sipush hx hb hd hv h
theorem J_lconst {i : Fin 2} {v : Int64} (hd : decode M.2.1 pc = .ok (.lconst i, 1)) (hv : Int64.ofNat (i : Nat) = v) (kk : J M X (pc + 1) ls (.long v :: st) w k n) : J M X pc ls (st) w k n := by
  obtain ⟨p, l, e, R, s, m, args, below, meth, c, A, D, cA, Q⟩ := X
  intro ok H locs lsA hP hA hS hl
  have h := kk ok H locs lsA hP hA hS hl
  obtain ⟨hx, hb, -⟩ := ok
  exact lv_lconst hx hb hd hv h
theorem J_iload_n {i : Fin 4} {j : Nat} {x : Int32} (hd : decode M.2.1 pc = .ok (.iload_n i, 1)) (hi : (i : Nat) = j) (hv : lk ls j = some (.int x)) (kk : J M X (pc + 1) ls (.int x :: st) w k n) : J M X pc ls (st) w k n := by
  obtain ⟨p, l, e, R, s, m, args, below, meth, c, A, D, cA, Q⟩ := X
  intro ok H locs lsA hP hA hS hl
  have h := kk ok H locs lsA hP hA hS hl
  obtain ⟨hx, hb, -⟩ := ok
  exact lv_iload_n hx hb hd hi (hl.2.2 _ (lk_mem hv)) h
theorem J_iload {j : Nat} {x : Int32} (hd : decode M.2.1 pc = .ok (.iload j, 2)) (hv : lk ls j = some (.int x)) (kk : J M X (pc + 2) ls (.int x :: st) w k n) : J M X pc ls (st) w k n := by
  obtain ⟨p, l, e, R, s, m, args, below, meth, c, A, D, cA, Q⟩ := X
  intro ok H locs lsA hP hA hS hl
  have h := kk ok H locs lsA hP hA hS hl
  obtain ⟨hx, hb, -⟩ := ok
  exact lv_iload hx hb hd (hl.2.2 _ (lk_mem hv)) h
theorem J_lload_n {i : Fin 4} {j : Nat} {x : Int64} (hd : decode M.2.1 pc = .ok (.lload_n i, 1)) (hi : (i : Nat) = j) (hv : lk ls j = some (.long x)) (kk : J M X (pc + 1) ls (.long x :: st) w k n) : J M X pc ls (st) w k n := by
  obtain ⟨p, l, e, R, s, m, args, below, meth, c, A, D, cA, Q⟩ := X
  intro ok H locs lsA hP hA hS hl
  have h := kk ok H locs lsA hP hA hS hl
  obtain ⟨hx, hb, -⟩ := ok
  exact lv_lload_n hx hb hd hi (hl.2.2 _ (lk_mem hv)) h
theorem J_lload {j : Nat} {x : Int64} (hd : decode M.2.1 pc = .ok (.lload j, 2)) (hv : lk ls j = some (.long x)) (kk : J M X (pc + 2) ls (.long x :: st) w k n) : J M X pc ls (st) w k n := by
  obtain ⟨p, l, e, R, s, m, args, below, meth, c, A, D, cA, Q⟩ := X
  intro ok H locs lsA hP hA hS hl
  have h := kk ok H locs lsA hP hA hS hl
  obtain ⟨hx, hb, -⟩ := ok
  exact lv_lload hx hb hd (hl.2.2 _ (lk_mem hv)) h
theorem J_aload_n {i : Fin 4} {j : Nat} {x : Nat} (hd : decode M.2.1 pc = .ok (.aload_n i, 1)) (hi : (i : Nat) = j) (hv : lk ls j = some (.ref x)) (kk : J M X (pc + 1) ls (.ref x :: st) w k n) : J M X pc ls (st) w k n := by
  obtain ⟨p, l, e, R, s, m, args, below, meth, c, A, D, cA, Q⟩ := X
  intro ok H locs lsA hP hA hS hl
  have h := kk ok H locs lsA hP hA hS hl
  obtain ⟨hx, hb, -⟩ := ok
  exact lv_aload_n hx hb hd hi (hl.2.2 _ (lk_mem hv)) h
theorem J_aload {j : Nat} {x : Nat} (hd : decode M.2.1 pc = .ok (.aload j, 2)) (hv : lk ls j = some (.ref x)) (kk : J M X (pc + 2) ls (.ref x :: st) w k n) : J M X pc ls (st) w k n := by
  obtain ⟨p, l, e, R, s, m, args, below, meth, c, A, D, cA, Q⟩ := X
  intro ok H locs lsA hP hA hS hl
  have h := kk ok H locs lsA hP hA hS hl
  obtain ⟨hx, hb, -⟩ := ok
  exact lv_aload hx hb hd (hl.2.2 _ (lk_mem hv)) h
theorem J_istore_n {i : Fin 4} {j : Nat} {x : Int32} (hd : decode M.2.1 pc = .ok (.istore_n i, 1)) (hi : (i : Nat) = j) (hn : j < M.2.2.1) (he : stl ls j (.int x) = ls') (kk : J M X (pc + 1) ls' st w k n) : J M X pc ls (.int x :: st) w k n := by
  obtain ⟨p, l, e, R, s, m, args, below, meth, c, A, D, cA, Q⟩ := X
  intro ok H locs lsA hP hA hS hl
  subst he
  have h := fun lsB hlB => kk ok H locs lsB hP hA hS (lv_has.stl hlB)
  obtain ⟨hx, hb, -⟩ := ok
  exact lv_istore_n hx hb hd hi hl hn rfl h
theorem J_istore {j : Nat} {x : Int32} (hd : decode M.2.1 pc = .ok (.istore j, 2)) (hn : j < M.2.2.1) (he : stl ls j (.int x) = ls') (kk : J M X (pc + 2) ls' st w k n) : J M X pc ls (.int x :: st) w k n := by
  obtain ⟨p, l, e, R, s, m, args, below, meth, c, A, D, cA, Q⟩ := X
  intro ok H locs lsA hP hA hS hl
  subst he
  have h := fun lsB hlB => kk ok H locs lsB hP hA hS (lv_has.stl hlB)
  obtain ⟨hx, hb, -⟩ := ok
  exact lv_istore hx hb hd hl hn rfl h
theorem J_astore_n {i : Fin 4} {j : Nat} {x : Nat} (hd : decode M.2.1 pc = .ok (.astore_n i, 1)) (hi : (i : Nat) = j) (hn : j < M.2.2.1) (he : stl ls j (.ref x) = ls') (kk : J M X (pc + 1) ls' st w k n) : J M X pc ls (.ref x :: st) w k n := by
  obtain ⟨p, l, e, R, s, m, args, below, meth, c, A, D, cA, Q⟩ := X
  intro ok H locs lsA hP hA hS hl
  subst he
  have h := fun lsB hlB => kk ok H locs lsB hP hA hS (lv_has.stl hlB)
  obtain ⟨hx, hb, -⟩ := ok
  exact lv_astore_n hx hb hd hi hl hn rfl h
theorem J_astore {j : Nat} {x : Nat} (hd : decode M.2.1 pc = .ok (.astore j, 2)) (hn : j < M.2.2.1) (he : stl ls j (.ref x) = ls') (kk : J M X (pc + 2) ls' st w k n) : J M X pc ls (.ref x :: st) w k n := by
  obtain ⟨p, l, e, R, s, m, args, below, meth, c, A, D, cA, Q⟩ := X
  intro ok H locs lsA hP hA hS hl
  subst he
  have h := fun lsB hlB => kk ok H locs lsB hP hA hS (lv_has.stl hlB)
  obtain ⟨hx, hb, -⟩ := ok
  exact lv_astore hx hb hd hl hn rfl h
theorem J_lstore {j : Nat} {x : Int64} (hd : decode M.2.1 pc = .ok (.lstore j, 2)) (hn : j + 1 < M.2.2.1) (he : (j, Value.long x) :: ls.filter (fun q => !(q.1 == j) && (!(q.1 == j + 1) && !(q.1 + 1 == j && q.2.category == 2))) = ls') (kk : J M X (pc + 2) ls' st w k n) : J M X pc ls (.long x :: st) w k n := by
  obtain ⟨p, l, e, R, s, m, args, below, meth, c, A, D, cA, Q⟩ := X
  intro ok H locs lsA hP hA hS hl
  subst he
  have h := fun lsB hlB => kk ok H locs lsB hP hA hS hlB
  obtain ⟨hx, hb, -⟩ := ok
  exact lv_lstore hx hb hd hl hn rfl h
theorem J_lstore_n {i : Fin 4} {j : Nat} {x : Int64} (hd : decode M.2.1 pc = .ok (.lstore_n i, 1)) (hi : (i : Nat) = j) (hn : j + 1 < M.2.2.1) (he : (j, Value.long x) :: ls.filter (fun q => !(q.1 == j) && (!(q.1 == j + 1) && !(q.1 + 1 == j && q.2.category == 2))) = ls') (kk : J M X (pc + 1) ls' st w k n) : J M X pc ls (.long x :: st) w k n := by
  obtain ⟨p, l, e, R, s, m, args, below, meth, c, A, D, cA, Q⟩ := X
  intro ok H locs lsA hP hA hS hl
  subst he
  have h := fun lsB hlB => kk ok H locs lsB hP hA hS hlB
  obtain ⟨hx, hb, -⟩ := ok
  exact lv_lstore_n hx hb hd hi hl hn rfl h
theorem J_iinc {j : Nat} {i : Int} {x v : Int32} (hd : decode M.2.1 pc = .ok (.iinc j i, 3)) (hv : lk ls j = some (.int x)) (hy : x + Int32.ofInt i = v) (hn : j < M.2.2.1) (he : stl ls j (.int v) = ls') (kk : J M X (pc + 3) ls' st w k n) : J M X pc ls st w k n := by
  obtain ⟨p, l, e, R, s, m, args, below, meth, c, A, D, cA, Q⟩ := X
  intro ok H locs lsA hP hA hS hl
  subst he
  have h := fun lsB hlB => kk ok H locs lsB hP hA hS (lv_has.stl hlB)
  obtain ⟨hx, hb, -⟩ := ok
  obtain ⟨q, hq⟩ := List.getElem?_of_mem (lk_mem hv)
  exact lv_iinc hx hb hd hl hq hy hn rfl h
theorem J_iadd {x y : Int32} (hd : decode M.2.1 pc = .ok (.iadd, 1)) (kk : J M X (pc + 1) ls (.int (x + y) :: st) w k n) : J M X pc ls (.int y :: .int x :: st) w k n := by
  obtain ⟨p, l, e, R, s, m, args, below, meth, c, A, D, cA, Q⟩ := X
  intro ok H locs lsA hP hA hS hl
  have h := kk ok H locs lsA hP hA hS hl
  obtain ⟨hx, hb, -⟩ := ok
  exact lv_iadd hx hb hd h
theorem J_isub {x y : Int32} (hd : decode M.2.1 pc = .ok (.isub, 1)) (kk : J M X (pc + 1) ls (.int (x - y) :: st) w k n) : J M X pc ls (.int y :: .int x :: st) w k n := by
  obtain ⟨p, l, e, R, s, m, args, below, meth, c, A, D, cA, Q⟩ := X
  intro ok H locs lsA hP hA hS hl
  have h := kk ok H locs lsA hP hA hS hl
  obtain ⟨hx, hb, -⟩ := ok
  exact lv_isub hx hb hd h
theorem J_imul {x y : Int32} (hd : decode M.2.1 pc = .ok (.imul, 1)) (kk : J M X (pc + 1) ls (.int (x * y) :: st) w k n) : J M X pc ls (.int y :: .int x :: st) w k n := by
  obtain ⟨p, l, e, R, s, m, args, below, meth, c, A, D, cA, Q⟩ := X
  intro ok H locs lsA hP hA hS hl
  have h := kk ok H locs lsA hP hA hS hl
  obtain ⟨hx, hb, -⟩ := ok
  exact lv_imul hx hb hd h
theorem J_iand {x y : Int32} (hd : decode M.2.1 pc = .ok (.iand, 1)) (kk : J M X (pc + 1) ls (.int (x &&& y) :: st) w k n) : J M X pc ls (.int y :: .int x :: st) w k n := by
  obtain ⟨p, l, e, R, s, m, args, below, meth, c, A, D, cA, Q⟩ := X
  intro ok H locs lsA hP hA hS hl
  have h := kk ok H locs lsA hP hA hS hl
  obtain ⟨hx, hb, -⟩ := ok
  exact lv_iand hx hb hd h
theorem J_ior {x y : Int32} (hd : decode M.2.1 pc = .ok (.ior, 1)) (kk : J M X (pc + 1) ls (.int (x ||| y) :: st) w k n) : J M X pc ls (.int y :: .int x :: st) w k n := by
  obtain ⟨p, l, e, R, s, m, args, below, meth, c, A, D, cA, Q⟩ := X
  intro ok H locs lsA hP hA hS hl
  have h := kk ok H locs lsA hP hA hS hl
  obtain ⟨hx, hb, -⟩ := ok
  exact lv_ior hx hb hd h
theorem J_idiv {x y : Int32} (hd : decode M.2.1 pc = .ok (.idiv, 1)) (hne : ¬ y = 0) (kk : J M X (pc + 1) ls (.int (x / y) :: st) w k n) : J M X pc ls (.int y :: .int x :: st) w k n := by
  obtain ⟨p, l, e, R, s, m, args, below, meth, c, A, D, cA, Q⟩ := X
  intro ok H locs lsA hP hA hS hl
  have h := kk ok H locs lsA hP hA hS hl
  obtain ⟨hx, hb, -⟩ := ok
  exact lv_idiv hx hb hd hne h
theorem J_irem {x y : Int32} (hd : decode M.2.1 pc = .ok (.irem, 1)) (hne : ¬ y = 0) (kk : J M X (pc + 1) ls (.int (x - x / y * y) :: st) w k n) : J M X pc ls (.int y :: .int x :: st) w k n := by
  obtain ⟨p, l, e, R, s, m, args, below, meth, c, A, D, cA, Q⟩ := X
  intro ok H locs lsA hP hA hS hl
  have h := kk ok H locs lsA hP hA hS hl
  obtain ⟨hx, hb, -⟩ := ok
  exact lv_irem hx hb hd hne h
theorem J_ineg {x : Int32} (hd : decode M.2.1 pc = .ok (.ineg, 1)) (kk : J M X (pc + 1) ls (.int (-x) :: st) w k n) : J M X pc ls (.int x :: st) w k n := by
  obtain ⟨p, l, e, R, s, m, args, below, meth, c, A, D, cA, Q⟩ := X
  intro ok H locs lsA hP hA hS hl
  have h := kk ok H locs lsA hP hA hS hl
  obtain ⟨hx, hb, -⟩ := ok
  exact lv_ineg hx hb hd h
theorem J_ladd {x y : Int64} (hd : decode M.2.1 pc = .ok (.ladd, 1)) (kk : J M X (pc + 1) ls (.long (x + y) :: st) w k n) : J M X pc ls (.long y :: .long x :: st) w k n := by
  obtain ⟨p, l, e, R, s, m, args, below, meth, c, A, D, cA, Q⟩ := X
  intro ok H locs lsA hP hA hS hl
  have h := kk ok H locs lsA hP hA hS hl
  obtain ⟨hx, hb, -⟩ := ok
  exact lv_ladd hx hb hd h
theorem J_lmul {x y : Int64} (hd : decode M.2.1 pc = .ok (.lmul, 1)) (kk : J M X (pc + 1) ls (.long (x * y) :: st) w k n) : J M X pc ls (.long y :: .long x :: st) w k n := by
  obtain ⟨p, l, e, R, s, m, args, below, meth, c, A, D, cA, Q⟩ := X
  intro ok H locs lsA hP hA hS hl
  have h := kk ok H locs lsA hP hA hS hl
  obtain ⟨hx, hb, -⟩ := ok
  exact lv_lmul hx hb hd h
theorem J_i2l {x : Int32} (hd : decode M.2.1 pc = .ok (.i2l, 1)) (kk : J M X (pc + 1) ls (.long x.toInt64 :: st) w k n) : J M X pc ls (.int x :: st) w k n := by
  obtain ⟨p, l, e, R, s, m, args, below, meth, c, A, D, cA, Q⟩ := X
  intro ok H locs lsA hP hA hS hl
  have h := kk ok H locs lsA hP hA hS hl
  obtain ⟨hx, hb, -⟩ := ok
  exact lv_i2l hx hb hd rfl h
theorem J_dup {v : Value} (hd : decode M.2.1 pc = .ok (.dup, 1)) (hv : v.category = 1) (kk : J M X (pc + 1) ls (v :: v :: st) w k n) : J M X pc ls (v :: st) w k n := by
  obtain ⟨p, l, e, R, s, m, args, below, meth, c, A, D, cA, Q⟩ := X
  intro ok H locs lsA hP hA hS hl
  have h := kk ok H locs lsA hP hA hS hl
  obtain ⟨hx, hb, -⟩ := ok
  exact lv_dup hx hb hd hv h
theorem J_pop {v : Value} (hd : decode M.2.1 pc = .ok (.pop, 1)) (hv : v.category = 1) (kk : J M X (pc + 1) ls (st) w k n) : J M X pc ls (v :: st) w k n := by
  obtain ⟨p, l, e, R, s, m, args, below, meth, c, A, D, cA, Q⟩ := X
  intro ok H locs lsA hP hA hS hl
  have h := kk ok H locs lsA hP hA hS hl
  obtain ⟨hx, hb, -⟩ := ok
  exact lv_pop hx hb hd hv h
theorem J_dup_x1 {v u : Value} (hd : decode M.2.1 pc = .ok (.dup_x1, 1)) (hv : v.category = 1) (hu : u.category = 1) (kk : J M X (pc + 1) ls (v :: u :: v :: st) w k n) : J M X pc ls (v :: u :: st) w k n := by
  obtain ⟨p, l, e, R, s, m, args, below, meth, c, A, D, cA, Q⟩ := X
  intro ok H locs lsA hP hA hS hl
  have h := kk ok H locs lsA hP hA hS hl
  obtain ⟨hx, hb, -⟩ := ok
  exact lv_dup_x1 hx hb hd hv hu h
theorem J_dup2 {v u : Value} (hd : decode M.2.1 pc = .ok (.dup2, 1)) (hv : v.category = 1) (hu : u.category = 1) (kk : J M X (pc + 1) ls (v :: u :: v :: u :: st) w k n) : J M X pc ls (v :: u :: st) w k n := by
  obtain ⟨p, l, e, R, s, m, args, below, meth, c, A, D, cA, Q⟩ := X
  intro ok H locs lsA hP hA hS hl
  have h := kk ok H locs lsA hP hA hS hl
  obtain ⟨hx, hb, -⟩ := ok
  exact lv_dup2_11 hx hb hd hv hu h
theorem J_pop2 {v : Value} (hd : decode M.2.1 pc = .ok (.pop2, 1)) (hv : v.category = 2) (kk : J M X (pc + 1) ls (st) w k n) : J M X pc ls (v :: st) w k n := by
  obtain ⟨p, l, e, R, s, m, args, below, meth, c, A, D, cA, Q⟩ := X
  intro ok H locs lsA hP hA hS hl
  have h := kk ok H locs lsA hP hA hS hl
  obtain ⟨hx, hb, -⟩ := ok
  exact lv_pop2_2 hx hb hd hv h
end JR
