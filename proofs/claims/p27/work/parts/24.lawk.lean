/-! what the law's own methods need: handlers, calls of methods with handlers, the script -/
section JH
variable {M M' : Mt} {X : Cx} {E : Ev} {pc : Nat} {ls : List (Nat × Value)} {st : List Value} {w : Wd} {S : St} {k n : Nat}
theorem JX_catch {En name : String} (pre : List ExceptionTableEntry) (x : ExceptionTableEntry) (suf : List ExceptionTableEntry) (hsplit : tableOf M.2.2.2.2.1 = pre ++ x :: suf) (hpass : ∀ z ∈ pre, covers z pc = false ∨ (z.catchType ≠ 0 ∧ ∃ nm : String, Cond.classLink M.1.cls z.catchType nm ∈ GW ∧ (En, nm) ∈ NCL)) (hx : covers x pc = true) (h0 : x.catchType ≠ 0) (hlink : Cond.classLink M.1.cls x.catchType name ∈ GW) (hcast : Cond.castable En name ∈ CW) (kk : ∀ q : Nat, J M X x.handlerPc ls [.ref q] w k n) : JX M X pc ls w k n En := by
  obtain ⟨p, l, e, R, s, m, args, below, meth, c, A, D, cA, Q⟩ := X
  intro ok H locs lsA q ce rest hP hA hS hl h1 h2 h3
  have hh := kk q ok H locs lsA hP hA hS hl
  obtain ⟨-, -, -, -, -, hown, -, htab, -, -, hE, -⟩ := ok
  refine vx_catch (E := En) hown pre x suf (htab.trans hsplit) (fun z hz => ?_) hx h0 (j_word hE hlink) (va_Nw.use rfl (hE.2.1 _ hcast)) h1 h2 h3 hh
  rcases hpass z hz with h | ⟨g1, nm, g2, g3⟩
  · exact Or.inl h
  · exact Or.inr ⟨g1, nm, j_word hE g2, hE.2.2.2.2.2.1 _ g3⟩
def hcat (u : (String ⊕ Int32) × St) (l : List (String × Int32)) (f : Int32 → St → Option (Int32 × St)) : Option (Int32 × St) := match u.1 with
  | .inl e => (l.find? (fun q => q.1 == e)).map (fun q => (q.2, u.2))
  | .inr r => f r u.2
theorem K_callH {i b ci nar : Nat} {As rest : List Value} {r : vw_C} {u : (String ⊕ Int32) × St} {l : List (String × Int32)} {f : Int32 → St → Option (Int32 × St)} {t : Int32 × St} (hM : Ct X.2.1 M' (.ref b :: As) (hp E S) (PoXI E u) (PxX E u)) (hd : decode M.2.1 pc = .ok (.invokevirtual i, 3)) (hL : VL M.1.cls i M' nar) (hw : E.1 b = some (0, ci, 0)) (hc : vwCl[ci]? = some r) (hrc : r.1 = M'.1.cls) (hst : st = As.reverse ++ .ref b :: rest) (hnar : As.length = nar) (hrest : (rest.map fun v => v.category).sum ≤ 8) (hok : CallOk M M' k n nar) (hx : ∀ q ∈ l, ∀ S1, some (q.2, S1) = some t → JX M X pc ls (hp E S1) (k + M'.2.2.2.2.2.cells) (n + M'.2.2.2.2.2.slots) q.1)
    (kk : ∀ r S1, K M X E (pc + 3) ls (.int r :: rest) S1 (k + M'.2.2.2.2.2.cells) (n + M'.2.2.2.2.2.slots) (f r S1) t) : K M X E pc ls st S k n (hcat u l f) t := by
  intro e
  obtain ⟨u1, u2⟩ := u
  refine J_callVX hd hL (hp_o hw) hc hrc hst hnar hrest hok hM (fun En w' hp => ?_) (fun v w' hp => ?_)
  · obtain ⟨h1, rfl⟩ := hp
    dsimp only at h1
    subst h1
    have e1 : (l.find? (fun q => q.1 == En)).map (fun q => (q.2, u2)) = some t := e
    cases hf : l.find? (fun q => q.1 == En) with
    | none => rw [hf] at e1; cases e1
    | some q =>
      rw [hf] at e1
      have h2 : q.1 = En := by
        have := List.find?_some hf
        simpa using this
      have h3 := hx q (List.mem_of_find?_eq_some hf) u2 e1
      rw [h2] at h3
      exact h3
  · obtain ⟨q, h1, rfl, rfl⟩ := hp
    dsimp only at h1
    subst h1
    exact kk q u2 e
/-- a static method with handlers -/
def CLW (M' : Mt) (nar : Nat) : Prop := (∃ h0 ht, M'.2.2.2.2.1 = h0 :: ht) ∧ Cond.codeWith M'.1 M'.2.1 M'.2.2.1 M'.2.2.2.1 M'.2.2.2.2.1 ∈ GW ∧ Cond.initialized M'.1.cls ∈ GW ∧ (M'.1.cls ≠ "java/lang/invoke/MethodHandle" ∧ M'.1.cls ≠ "java/lang/invoke/VarHandle") ∧ (parseMethodDescriptor M'.1.desc).map (fun d => d.parameters.length) = some nar
def SLW (own : String) (idx : Nat) (M' : Mt) (nar : Nat) : Prop := CLW M' nar ∧ Cond.methodLink own idx M'.1 ∈ GW ∧ Cond.static M'.1 ∈ GW
theorem J_callSW {i nar : Nat} {As rest : List Value} {Po : Option Value → Wd → Prop} (hd : decode M.2.1 pc = .ok (.invokestatic i, 3)) (hL : SLW M.1.cls i M' nar) (hst : st = As.reverse ++ rest) (hnar : As.length = nar) (hrest : (rest.map fun v => v.category).sum ≤ 8) (hok : CallOk M M' k n nar) (hM : Cn X.2.1 M' As w Po)
    (kk : ∀ (v : Option Value) (w' : Wd), Po v w' → J M X (pc + 3) ls (v.toList ++ rest) w' (k + M'.2.2.2.2.2.cells) (n + M'.2.2.2.2.2.slots)) : J M X pc ls st w k n := by
  obtain ⟨p, l, e, R, s, m, args, below, meth, c, A, D, cA, Q⟩ := X
  intro ok H locs lsA hP hA hS hl
  have hh := fun v w' hp H1 locs1 => kk v w' hp ok H1 locs1 lsA
  obtain ⟨hx, hb, hml, -, -, hown, -, -, hst0, hR, hE, hK, hsz, hU, hN⟩ := ok
  have hts : ∀ w ∈ GW, w.before args s = true := fun w hw => j_word hE hw
  have hM' := hM hst0 D cA H.size
  obtain ⟨⟨⟨h0, ht, hhh⟩, hcode, hini, hy, hpl⟩, hlink, hstat⟩ := hL
  have hmw : mws M' = [Cond.codeWith M'.1 M'.2.1 M'.2.2.1 M'.2.2.2.1 M'.2.2.2.2.1] := by
    unfold mws
    rw [hhh]
  have hpay : ∀ w ∈ mws M', ∀ (a' : Array Value) (U : State), s.WarmedH U.vm → w.before a' U = true := by
    intro w hw a' U hW
    rw [hmw] at hw
    rw [List.mem_singleton.mp hw]
    exact j_word (hE.warm hW) hcode
  have hlen : ∀ sig, parseMethodDescriptor M'.1.desc = some sig → nar = sig.parameters.length := by
    intro sig hs
    rw [hs] at hpl
    exact (Option.some.inj hpl).symm
  have hr : va_Run p l e R s m args below meth c H locs k n M'.2.2.2.2.2.cells M'.2.2.2.2.2.slots (F0 m pc lsA st) rest (QcG Po D cA (fA w H.size) As.toArray) (fA w H.size) :=
    vx_runSW (As := As) (rest := rest) (Ts := GW) (n := nar) (hh := M'.2.2.2.2.1) ⟨hx, hb, hml, hown, hts⟩ hM' ⟨⟨rfl, rfl, by rw [hR]; exact hok.1, by rw [hR]; exact hok.2.1, hpay, by rw [hmw]; exact List.mem_cons_self⟩, hts _ hcode, hts _ hini, hy, hlen, hts _ hlink, hts _ hstat⟩ ⟨PcG.blind, j_pre (l := l) hE hK hsz hU hN hP hA hS⟩ rfl hnar hl.1 hst (lv_room hrest) hd ⟨by rw [hR]; exact hok.2.2.1, by rw [hR]; exact hok.2.2.2⟩
  refine j_call hr hS (j_fA hsz hA hS) ?_
  intro v w' H1 locs1 hp hP1 hA1 hS1
  exact hh v w' hp H1 locs1 hP1 (fun q o h => j_fA hsz hA hS q (hA1 q o h)) hS1 hl
theorem K_callSWI {α : Type} {t : α} {i nar : Nat} {As rest : List Value} {u : Int32 × St} {o : Option α} (hM : Cn X.2.1 M' As (hp E S) (PoI E u)) (hd : decode M.2.1 pc = .ok (.invokestatic i, 3)) (hL : SLW M.1.cls i M' nar) (hst : st = As.reverse ++ rest) (hnar : As.length = nar) (hrest : (rest.map fun v => v.category).sum ≤ 8) (hok : CallOk M M' k n nar) (kk : K M X E (pc + 3) ls (.int u.1 :: rest) u.2 (k + M'.2.2.2.2.2.cells) (n + M'.2.2.2.2.2.slots) o t) : K M X E pc ls st S k n o t := fun e => J_callSW hd hL hst hnar hrest hok hM (fun v w' hp => by obtain ⟨rfl, rfl⟩ := hp; exact kk e)
theorem K.wide {α : Type} {o : Option α} {t : α} {k' n' : Nat} (h : K M X E pc ls st S k' n' o t) (h1 : k ≤ k') (h2 : n ≤ n') : K M X E pc ls st S k n o t := fun e => J.wide (h e) h1 h2
/-- the script: an int array that no cell of the world is -/
def Scr (X : Cx) (b L : Nat) (xs : Nat → Int32) : Prop := match X with
  | (_, _, _, _, s, _, _, _, _, _, A, _, _, _) => va_X b L xs s s.heap ∧ b < s.heap.size ∧ ¬ A b
theorem K_sld {α : Type} {o : Option α} {t : α} {b L : Nat} {xs : Nat → Int32} {i : Int32} (hs : Scr X b L xs) (hd : decode M.2.1 pc = .ok (.iaload, 1)) (hi : inb i L = true) (kk : K M X E (pc + 1) ls (.int (xs i.toNatClampNeg) :: st) S k n o t) : K M X E pc ls (.int i :: .ref b :: st) S k n o t := by
  intro e9
  obtain ⟨p, l, e, R, s, m, args, below, meth, c, A, D, cA, Q⟩ := X
  intro ok H locs lsA hP hA hS hl
  have h := kk e9 ok H locs lsA hP hA hS hl
  obtain ⟨hx, hb, -⟩ := ok
  exact va_sld hx hb hs.1 hs.2.1 hs.2.2 hS (inb_in hi) hd h
theorem K_slen {α : Type} {o : Option α} {t : α} {b L : Nat} {xs : Nat → Int32} (hs : Scr X b L xs) (hd : decode M.2.1 pc = .ok (.arraylength, 1)) (kk : K M X E (pc + 1) ls (.int (Int32.ofNat L) :: st) S k n o t) : K M X E pc ls (.ref b :: st) S k n o t := by
  intro e9
  obtain ⟨p, l, e, R, s, m, args, below, meth, c, A, D, cA, Q⟩ := X
  intro ok H locs lsA hP hA hS hl
  have h := kk e9 ok H locs lsA hP hA hS hl
  obtain ⟨hx, hb, -⟩ := ok
  exact va_slen hx hb hs.1 hs.2.1 hs.2.2 hS hd h
/-- the law's end: only the answer 1 is one -/
def EndL (M : Mt) (X : Cx) : Prop := match X with
  | (p, l, e, R, s, m, args, below, meth, c, A, D, cA, Q) => ∀ (H : Heap) (locs : List Loc) (k n : Nat) (pc : Nat) (lsA : Array Slot), Ok M (p, l, e, R, s, m, args, below, meth, c, A, D, cA, Q) → decode M.2.1 pc = .ok (.ireturn, 1) → va_S A s.heap H locs → k ≤ M.2.2.2.2.2.cells → n ≤ M.2.2.2.2.2.slots → W p l e R s m args below meth c H locs k n Q (F0 m pc lsA [.int 1])
theorem K_lawret {t : Int32 × St} {v : Int32} (hQ : EndL M X) (ht : t.1 = 1) (hd : decode M.2.1 pc = .ok (.ireturn, 1)) (hk : k ≤ M.2.2.2.2.2.cells) (hn : n ≤ M.2.2.2.2.2.slots) : K M X E pc ls [.int v] S k n (some (v, S)) t := by
  intro e9
  obtain ⟨p, l, e, R, s, m, args, below, meth, c, A, D, cA, Q⟩ := X
  intro ok H locs lsA hP hA hS hl
  cases e9
  dsimp only at ht
  subst ht
  exact hQ H locs k n pc lsA ok hd hS hk hn
end JH
