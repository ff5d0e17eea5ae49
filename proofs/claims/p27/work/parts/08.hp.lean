/-! worlds of fixed shape: which cell is what (E.1), where the constant references go (E.2), and what is in them (S) -/

abbrev Ev : Type := (Nat → Option Tp) × (Nat → Nat → Nat)
abbrev St : Type := (Nat → Nat → Int32) × (Nat → Nat → Int32) × (Nat → Nat → Nat) × (Nat → Nat → Int64)
def up2 {α : Type} (f : Nat → Nat → α) (a j : Nat) (x : α) : Nat → Nat → α := fun q i => if q = a ∧ i = j then x else f q i
def sF (S : St) (a j : Nat) (x : Int32) : St := (up2 S.1 a j x, S.2)
def sG (S : St) (a i : Nat) (x : Int32) : St := (S.1, up2 S.2.1 a i x, S.2.2)
def sR (S : St) (a j : Nat) (b : Nat) : St := (S.1, S.2.1, up2 S.2.2.1 a j b, S.2.2.2)
def sL (S : St) (a i : Nat) (x : Int64) : St := (S.1, S.2.1, S.2.2.1, up2 S.2.2.2 a i x)
def sC (S : St) (a0 a : Nat) (sp dp n : Nat) : St := (S.1, (fun q => if q = a then va_cpy (S.2.1 a0) (S.2.1 a) sp dp n else S.2.1 q), S.2.2)
def inb (i : Int32) (N : Nat) : Bool := decide (0 ≤ i.toInt) && decide (i.toInt < N)
theorem inb_in {i : Int32} {N : Nat} (h : inb i N = true) : vp_in i N := by
  unfold inb at h
  rw [Bool.and_eq_true, decide_eq_true_eq, decide_eq_true_eq] at h
  exact vp_in_iff.mpr h
def isB (x : Int32) : Bool := x == 0 || x == 1
theorem isB_nar {x : Int32} (h : isB x = true) : narrow .boolean (.int x) = .int x ∧ fits .boolean (.int x) = true := by
  unfold isB at h
  rw [Bool.or_eq_true, beq_iff_eq, beq_iff_eq] at h
  rcases h with rfl | rfl <;> exact ⟨rfl, rfl⟩
theorem isB_vp {x : Int32} (h : isB x = true) : vp_nar .boolean x = x := by
  unfold isB at h
  rw [Bool.or_eq_true, beq_iff_eq, beq_iff_eq] at h
  rcases h with rfl | rfl <;> rfl
/-- the kinds of a class's fields: 0 an int, 1 a reference that is written, 2 a reference that stays -/
def nr (a : Nat) : Value := if a = 0 then .null else .ref a
theorem nr_ref {a : Nat} (h : a ≠ 0) : nr a = .ref a := if_neg h
def nq (a : Nat) : Option Nat := if a = 0 then none else some a
def fvs (E : Ev) (S : St) (q : Nat) : Nat → List Nat → List Value
  | _, [] => []
  | j, k :: t => (if k = 0 then .int (S.1 q j) else if k = 1 then nr (S.2.2.1 q j) else nr (E.2 q j)) :: fvs E S q (j + 1) t
theorem fvs_len (E : Ev) (S : St) (q : Nat) : ∀ (l : List Nat) (j : Nat), (fvs E S q j l).length = l.length
  | [], _ => rfl
  | _ :: t, j => by simp [fvs, fvs_len E S q t (j + 1)]
theorem fvs_get (E : Ev) (S : St) (q : Nat) : ∀ (l : List Nat) (j i k : Nat), l[i]? = some k → (fvs E S q j l)[i]? = some (if k = 0 then .int (S.1 q (j + i)) else if k = 1 then nr (S.2.2.1 q (j + i)) else nr (E.2 q (j + i)))
  | [], _, _, _, h => by simp at h
  | x :: t, j, 0, k, h => by
    simp at h
    subst h
    simp [fvs]
  | x :: t, j, i + 1, k, h => by
    simp only [List.getElem?_cons_succ] at h
    simp only [fvs, List.getElem?_cons_succ]
    rw [fvs_get E S q t (j + 1) i k h, show j + 1 + i = j + (i + 1) by omega]
theorem fvs_set (E : Ev) (S S' : St) (q : Nat) : ∀ (l : List Nat) (j i : Nat) (v : Value), (∀ k, l[i]? = some k → v = (if k = 0 then .int (S'.1 q (j + i)) else if k = 1 then nr (S'.2.2.1 q (j + i)) else nr (E.2 q (j + i)))) → (∀ x, x ≠ j + i → S'.1 q x = S.1 q x ∧ S'.2.2.1 q x = S.2.2.1 q x) → (fvs E S q j l).set i v = fvs E S' q j l
  | [], _, _, _, _, _ => rfl
  | x :: t, j, 0, v, hv, ho => by
    have h1 := hv x rfl
    simp only [fvs, List.set_cons_zero]
    rw [h1]
    refine congrArg (List.cons _) ?_
    have key : ∀ (t : List Nat) (j2 : Nat), j < j2 → fvs E S q j2 t = fvs E S' q j2 t := by
      intro t
      induction t with
      | nil => intro j2 _; rfl
      | cons y t ih =>
        intro j2 hj
        have h2 := ho j2 (by omega)
        simp only [fvs, h2.1, h2.2]
        rw [ih (j2 + 1) (by omega)]
    exact key t (j + 1) (by omega)
  | x :: t, j, i + 1, v, hv, ho => by
    have h2 := ho j (by omega)
    simp only [fvs, List.set_cons_succ, h2.1, h2.2]
    rw [fvs_set E S S' q t (j + 1) i v (fun k hk => by rw [show j + 1 + i = j + (i + 1) by omega]; exact hv k hk) (fun y hy => ho y (by omega))]
theorem fvs_same (E : Ev) (S S' : St) (q : Nat) : ∀ (l : List Nat) (j : Nat), (∀ x, S'.1 q x = S.1 q x ∧ S'.2.2.1 q x = S.2.2.1 q x) → fvs E S' q j l = fvs E S q j l
  | [], _, _ => rfl
  | x :: t, j, ho => by
    have h2 := ho j
    simp only [fvs, h2.1, h2.2]
    rw [fvs_same E S S' q t (j + 1) ho]
def hcell (E : Ev) (S : St) (q : Nat) (t : Tp) : Ob :=
  if t.1 = 0 then .inl (t.2.1, fvs E S q 0 (ctab t.2.1))
  else .inr (t.2.1, t.2.2, if t.2.1 = 2 then .inr (.inl (S.2.2.2 q)) else if t.2.1 = 3 then .inr (.inr (.inr (.inr (fun i => nq (E.2 q i))))) else .inl (S.2.1 q))
def hp (E : Ev) (S : St) : Wd := fun q => (E.1 q).map (hcell E S q)
/-- the constant references lead to what their fields say -/
def WE (E : Ev) : Prop := E.1 0 = none ∧ (∀ a ci j t, E.1 a = some (0, ci, 0) → (ftab ci)[j]? = some (some t) → E.1 (E.2 a j) = some t) ∧ ∀ a N i, E.1 a = some (1, 3, N) → i < N → E.1 (E.2 a i) = some (0, 2, 0)
section HP
variable {E : Ev} {S : St} {a j ci N : Nat}
theorem hp_o (h : E.1 a = some (0, ci, 0)) : hp E S a = some (.inl (ci, fvs E S a 0 (ctab ci))) := by simp [hp, h, hcell]
theorem hp_i (h : E.1 a = some (1, 0, N)) : hp E S a = some (.inr (0, N, .inl (S.2.1 a))) := by simp [hp, h, hcell]
theorem hp_z (h : E.1 a = some (1, 1, N)) : hp E S a = some (.inr (1, N, .inl (S.2.1 a))) := by simp [hp, h, hcell]
theorem hp_l (h : E.1 a = some (1, 2, N)) : hp E S a = some (.inr (2, N, .inr (.inl (S.2.2.2 a)))) := by simp [hp, h, hcell]
theorem hp_q (h : E.1 a = some (1, 3, N)) : hp E S a = some (.inr (3, N, .inr (.inr (.inr (.inr (fun i => nq (E.2 a i))))))) := by simp [hp, h, hcell]
theorem hp_up {S' : St} {ob : Ob} (h1 : hp E S' a = some ob) (h2 : ∀ q, q ≠ a → hp E S' q = hp E S q) : wup (hp E S) a ob = hp E S' := by
  funext q
  by_cases h : q = a
  · subst h
    rw [wup_s, h1]
  · rw [wup_n _ _ h, h2 q h]
theorem hcell_same {S' : St} {q : Nat} {t : Tp} (h1 : ∀ x, S'.1 q x = S.1 q x) (h2 : S'.2.1 q = S.2.1 q) (h3 : ∀ x, S'.2.2.1 q x = S.2.2.1 q x) (h4 : S'.2.2.2 q = S.2.2.2 q) : hcell E S' q t = hcell E S q t := by
  unfold hcell
  rw [fvs_same E S S' q _ _ (fun x => ⟨h1 x, h3 x⟩), h2, h4]
theorem hp_same {S' : St} {q : Nat} (h1 : ∀ x, S'.1 q x = S.1 q x) (h2 : S'.2.1 q = S.2.1 q) (h3 : ∀ x, S'.2.2.1 q x = S.2.2.1 q x) (h4 : S'.2.2.2 q = S.2.2.2 q) : hp E S' q = hp E S q := by
  unfold hp
  cases E.1 q with
  | none => rfl
  | some t => simp only [Option.map_some]; rw [hcell_same h1 h2 h3 h4]
theorem up2_s {α : Type} (f : Nat → Nat → α) (x : α) : up2 f a j x a j = x := if_pos ⟨rfl, rfl⟩
theorem up2_n {α : Type} (f : Nat → Nat → α) (x : α) {q i : Nat} (h : ¬ (q = a ∧ i = j)) : up2 f a j x q i = f q i := if_neg h
theorem hp_sF {x : Int32} (h : E.1 a = some (0, ci, 0)) (hk : (ctab ci)[j]? = some 0) : wup (hp E S) a (.inl (ci, (fvs E S a 0 (ctab ci)).set j (.int x))) = hp E (sF S a j x) := by
  refine hp_up ?_ (fun q hq => hp_same (fun y => up2_n _ _ (fun z => hq z.1)) rfl (fun _ => rfl) rfl)
  rw [hp_o h]
  refine congrArg (fun l => (some (Sum.inl (ci, l)) : Option Ob)) ?_
  symm
  refine fvs_set E S _ a _ 0 j _ (fun k hk2 => ?_) (fun y hy => ⟨up2_n _ _ (fun z => hy (by omega)), rfl⟩)
  cases hk.symm.trans hk2
  rw [if_pos rfl]
  show _ = Value.int (up2 S.1 a j x a (0 + j))
  rw [Nat.zero_add, up2_s]
theorem hp_sR {b : Nat} (hb : b ≠ 0) (h : E.1 a = some (0, ci, 0)) (hk : (ctab ci)[j]? = some 1) : wup (hp E S) a (.inl (ci, (fvs E S a 0 (ctab ci)).set j (.ref b))) = hp E (sR S a j b) := by
  refine hp_up ?_ (fun q hq => hp_same (fun _ => rfl) rfl (fun y => up2_n _ _ (fun z => hq z.1)) rfl)
  rw [hp_o h]
  refine congrArg (fun l => (some (Sum.inl (ci, l)) : Option Ob)) ?_
  symm
  refine fvs_set E S _ a _ 0 j _ (fun k hk2 => ?_) (fun y hy => ⟨rfl, up2_n _ _ (fun z => hy (by omega))⟩)
  cases hk.symm.trans hk2
  rw [if_neg (by decide), if_pos rfl]
  show _ = nr (up2 S.2.2.1 a j b a (0 + j))
  rw [Nat.zero_add, up2_s, nr_ref hb]
theorem hp_sG {kd i : Nat} {x : Int32} (h : E.1 a = some (1, kd, N)) (hk : kd = 0 ∨ kd = 1) : wup (hp E S) a (.inr (kd, N, .inl (upd (S.2.1 a) i x))) = hp E (sG S a i x) := by
  have e : up2 S.2.1 a i x a = upd (S.2.1 a) i x := by
    funext z
    by_cases hz : z = i
    · subst hz; rw [up2_s]; simp [upd]
    · rw [up2_n _ _ (fun y => hz y.2)]; simp [upd, hz]
  refine hp_up ?_ (fun q hq => hp_same (fun _ => rfl) (funext fun y => up2_n _ _ (fun z => hq z.1)) (fun _ => rfl) rfl)
  rcases hk with rfl | rfl
  · rw [hp_i h]; show some (Sum.inr (0, N, Sum.inl (up2 S.2.1 a i x a))) = _; rw [e]
  · rw [hp_z h]; show some (Sum.inr (1, N, Sum.inl (up2 S.2.1 a i x a))) = _; rw [e]
theorem hp_sL {i : Nat} {x : Int64} (h : E.1 a = some (1, 2, N)) : wup (hp E S) a (.inr (2, N, .inr (.inl (vp_updL (S.2.2.2 a) i x)))) = hp E (sL S a i x) := by
  have e : up2 S.2.2.2 a i x a = vp_updL (S.2.2.2 a) i x := by
    funext z
    by_cases hz : z = i
    · subst hz; rw [up2_s]; simp [vp_updL]
    · rw [up2_n _ _ (fun y => hz y.2)]; simp [vp_updL, hz]
  refine hp_up ?_ (fun q hq => hp_same (fun _ => rfl) rfl (fun _ => rfl) (funext fun y => up2_n _ _ (fun z => hq z.1)))
  rw [hp_l h]; show some (Sum.inr (2, N, Sum.inr (Sum.inl (up2 S.2.2.2 a i x a)))) = _; rw [e]
end HP
/-- J under a computed outcome -/
def K {α : Type} (M : Mt) (X : Cx) (E : Ev) (pc : Nat) (ls : List (Nat × Value)) (st : List Value) (S : St) (k n : Nat) (o : Option α) (t : α) : Prop := o = some t → J M X pc ls st (hp E S) k n
def j_pk (ls : List (Nat × Value)) : List Nat → List (Nat × Value)
  | [] => []
  | i :: t => match lk ls i with
    | none => j_pk ls t
    | some v => (i, v) :: j_pk ls t
theorem j_pkIn {ls : List (Nat × Value)} : ∀ {is : List Nat} {q : Nat × Value}, q ∈ j_pk ls is → q ∈ ls
  | [], q, h => by simp [j_pk] at h
  | i :: t, q, h => by
    simp only [j_pk] at h
    split at h
    · exact j_pkIn h
    · rename_i v hv
      rcases List.mem_cons.mp h with h | h
      · rw [h]; exact lk_mem hv
      · exact j_pkIn h
section KR
variable {α : Type} {M : Mt} {X : Cx} {E : Ev} {pc : Nat} {ls ls' : List (Nat × Value)} {st : List Value} {S : St} {k n : Nat} {o o1 o2 : Option α} {t : α}
theorem K.keep (is : List Nat) (h : K M X E pc (j_pk ls is) st S k n o t) : K M X E pc ls st S k n o t := fun e => J.keep (h e) (fun _ hq => j_pkIn hq)
theorem K_none : K M X E pc ls st S k n none t := fun h => by cases h
theorem K_ite {c : Prop} [Decidable c] (h1 : c → K M X E pc ls st S k n o1 t) (h2 : ¬ c → K M X E pc ls st S k n o2 t) : K M X E pc ls st S k n (if c then o1 else o2) t := by
  by_cases hc : c
  · rw [if_pos hc]; exact h1 hc
  · rw [if_neg hc]; exact h2 hc
theorem K_chk {b : Bool} (h1 : b = true → K M X E pc ls st S k n o t) : K M X E pc ls st S k n (if b = true then o else none) t := K_ite h1 (fun _ => K_none)
theorem K_iconst {i : Int} {v : Int32} (hd : decode M.2.1 pc = .ok (.iconst i, 1)) (hv : Int32.ofInt i = v) (kk : K M X E (pc + 1) ls (.int v :: st) S k n o t) : K M X E pc ls (st) S k n o t := fun e => J_iconst hd hv (kk e)
theorem K_bipush {i : Int} {v : Int32} (hd : decode M.2.1 pc = .ok (.bipush i, 2)) (hv : (Int8.ofInt i).toInt32 = v) (kk : K M X E (pc + 2) ls (.int v :: st) S k n o t) : K M X E pc ls (st) S k n o t := fun e => J_bipush hd hv (kk e)
theorem K_sipush {i : Int} {v : Int32} (hd : decode M.2.1 pc = .ok (.sipush i, 3)) (hv : (Int16.ofInt i).toInt32 = v) (kk : K M X E (pc + 3) ls (.int v :: st) S k n o t) : K M X E pc ls (st) S k n o t := fun e => J_sipush hd hv (kk e)
theorem K_lconst {i : Fin 2} {v : Int64} (hd : decode M.2.1 pc = .ok (.lconst i, 1)) (hv : Int64.ofNat (i : Nat) = v) (kk : K M X E (pc + 1) ls (.long v :: st) S k n o t) : K M X E pc ls (st) S k n o t := fun e => J_lconst hd hv (kk e)
theorem K_iload_n {i : Fin 4} {j : Nat} {x : Int32} (hd : decode M.2.1 pc = .ok (.iload_n i, 1)) (hi : (i : Nat) = j) (hv : lk ls j = some (.int x)) (kk : K M X E (pc + 1) ls (.int x :: st) S k n o t) : K M X E pc ls (st) S k n o t := fun e => J_iload_n hd hi hv (kk e)
theorem K_iload {j : Nat} {x : Int32} (hd : decode M.2.1 pc = .ok (.iload j, 2)) (hv : lk ls j = some (.int x)) (kk : K M X E (pc + 2) ls (.int x :: st) S k n o t) : K M X E pc ls (st) S k n o t := fun e => J_iload hd hv (kk e)
theorem K_lload_n {i : Fin 4} {j : Nat} {x : Int64} (hd : decode M.2.1 pc = .ok (.lload_n i, 1)) (hi : (i : Nat) = j) (hv : lk ls j = some (.long x)) (kk : K M X E (pc + 1) ls (.long x :: st) S k n o t) : K M X E pc ls (st) S k n o t := fun e => J_lload_n hd hi hv (kk e)
theorem K_lload {j : Nat} {x : Int64} (hd : decode M.2.1 pc = .ok (.lload j, 2)) (hv : lk ls j = some (.long x)) (kk : K M X E (pc + 2) ls (.long x :: st) S k n o t) : K M X E pc ls (st) S k n o t := fun e => J_lload hd hv (kk e)
theorem K_aload_n {i : Fin 4} {j : Nat} {x : Nat} (hd : decode M.2.1 pc = .ok (.aload_n i, 1)) (hi : (i : Nat) = j) (hv : lk ls j = some (.ref x)) (kk : K M X E (pc + 1) ls (.ref x :: st) S k n o t) : K M X E pc ls (st) S k n o t := fun e => J_aload_n hd hi hv (kk e)
theorem K_aload {j : Nat} {x : Nat} (hd : decode M.2.1 pc = .ok (.aload j, 2)) (hv : lk ls j = some (.ref x)) (kk : K M X E (pc + 2) ls (.ref x :: st) S k n o t) : K M X E pc ls (st) S k n o t := fun e => J_aload hd hv (kk e)
theorem K_istore_n {i : Fin 4} {j : Nat} {x : Int32} (hd : decode M.2.1 pc = .ok (.istore_n i, 1)) (hi : (i : Nat) = j) (hn : j < M.2.2.1) (he : stl ls j (.int x) = ls') (kk : K M X E (pc + 1) ls' (st) S k n o t) : K M X E pc ls (.int x :: st) S k n o t := fun e => J_istore_n hd hi hn he (kk e)
theorem K_istore {j : Nat} {x : Int32} (hd : decode M.2.1 pc = .ok (.istore j, 2)) (hn : j < M.2.2.1) (he : stl ls j (.int x) = ls') (kk : K M X E (pc + 2) ls' (st) S k n o t) : K M X E pc ls (.int x :: st) S k n o t := fun e => J_istore hd hn he (kk e)
theorem K_astore_n {i : Fin 4} {j : Nat} {x : Nat} (hd : decode M.2.1 pc = .ok (.astore_n i, 1)) (hi : (i : Nat) = j) (hn : j < M.2.2.1) (he : stl ls j (.ref x) = ls') (kk : K M X E (pc + 1) ls' (st) S k n o t) : K M X E pc ls (.ref x :: st) S k n o t := fun e => J_astore_n hd hi hn he (kk e)
theorem K_astore {j : Nat} {x : Nat} (hd : decode M.2.1 pc = .ok (.astore j, 2)) (hn : j < M.2.2.1) (he : stl ls j (.ref x) = ls') (kk : K M X E (pc + 2) ls' (st) S k n o t) : K M X E pc ls (.ref x :: st) S k n o t := fun e => J_astore hd hn he (kk e)
theorem K_lstore {j : Nat} {x : Int64} (hd : decode M.2.1 pc = .ok (.lstore j, 2)) (hn : j + 1 < M.2.2.1) (he : (j, Value.long x) :: ls.filter (fun q => !(q.1 == j) && (!(q.1 == j + 1) && !(q.1 + 1 == j && q.2.category == 2))) = ls') (kk : K M X E (pc + 2) ls' (st) S k n o t) : K M X E pc ls (.long x :: st) S k n o t := fun e => J_lstore hd hn he (kk e)
theorem K_lstore_n {i : Fin 4} {j : Nat} {x : Int64} (hd : decode M.2.1 pc = .ok (.lstore_n i, 1)) (hi : (i : Nat) = j) (hn : j + 1 < M.2.2.1) (he : (j, Value.long x) :: ls.filter (fun q => !(q.1 == j) && (!(q.1 == j + 1) && !(q.1 + 1 == j && q.2.category == 2))) = ls') (kk : K M X E (pc + 1) ls' (st) S k n o t) : K M X E pc ls (.long x :: st) S k n o t := fun e => J_lstore_n hd hi hn he (kk e)
theorem K_iinc {j : Nat} {i : Int} {x v : Int32} (hd : decode M.2.1 pc = .ok (.iinc j i, 3)) (hv : lk ls j = some (.int x)) (hy : x + Int32.ofInt i = v) (hn : j < M.2.2.1) (he : stl ls j (.int v) = ls') (kk : K M X E (pc + 3) ls' (st) S k n o t) : K M X E pc ls (st) S k n o t := fun e => J_iinc hd hv hy hn he (kk e)
theorem K_iadd {x y : Int32} (hd : decode M.2.1 pc = .ok (.iadd, 1)) (kk : K M X E (pc + 1) ls (.int (x + y) :: st) S k n o t) : K M X E pc ls (.int y :: .int x :: st) S k n o t := fun e => J_iadd hd (kk e)
theorem K_isub {x y : Int32} (hd : decode M.2.1 pc = .ok (.isub, 1)) (kk : K M X E (pc + 1) ls (.int (x - y) :: st) S k n o t) : K M X E pc ls (.int y :: .int x :: st) S k n o t := fun e => J_isub hd (kk e)
theorem K_imul {x y : Int32} (hd : decode M.2.1 pc = .ok (.imul, 1)) (kk : K M X E (pc + 1) ls (.int (x * y) :: st) S k n o t) : K M X E pc ls (.int y :: .int x :: st) S k n o t := fun e => J_imul hd (kk e)
theorem K_iand {x y : Int32} (hd : decode M.2.1 pc = .ok (.iand, 1)) (kk : K M X E (pc + 1) ls (.int (x &&& y) :: st) S k n o t) : K M X E pc ls (.int y :: .int x :: st) S k n o t := fun e => J_iand hd (kk e)
theorem K_ior {x y : Int32} (hd : decode M.2.1 pc = .ok (.ior, 1)) (kk : K M X E (pc + 1) ls (.int (x ||| y) :: st) S k n o t) : K M X E pc ls (.int y :: .int x :: st) S k n o t := fun e => J_ior hd (kk e)
theorem K_idiv {x y : Int32} (hd : decode M.2.1 pc = .ok (.idiv, 1)) (hne : ¬ y = 0) (kk : K M X E (pc + 1) ls (.int (x / y) :: st) S k n o t) : K M X E pc ls (.int y :: .int x :: st) S k n o t := fun e => J_idiv hd hne (kk e)
theorem K_irem {x y : Int32} (hd : decode M.2.1 pc = .ok (.irem, 1)) (hne : ¬ y = 0) (kk : K M X E (pc + 1) ls (.int (x - x / y * y) :: st) S k n o t) : K M X E pc ls (.int y :: .int x :: st) S k n o t := fun e => J_irem hd hne (kk e)
theorem K_ineg {x : Int32} (hd : decode M.2.1 pc = .ok (.ineg, 1)) (kk : K M X E (pc + 1) ls (.int (-x) :: st) S k n o t) : K M X E pc ls (.int x :: st) S k n o t := fun e => J_ineg hd (kk e)
theorem K_ladd {x y : Int64} (hd : decode M.2.1 pc = .ok (.ladd, 1)) (kk : K M X E (pc + 1) ls (.long (x + y) :: st) S k n o t) : K M X E pc ls (.long y :: .long x :: st) S k n o t := fun e => J_ladd hd (kk e)
theorem K_lmul {x y : Int64} (hd : decode M.2.1 pc = .ok (.lmul, 1)) (kk : K M X E (pc + 1) ls (.long (x * y) :: st) S k n o t) : K M X E pc ls (.long y :: .long x :: st) S k n o t := fun e => J_lmul hd (kk e)
theorem K_i2l {x : Int32} (hd : decode M.2.1 pc = .ok (.i2l, 1)) (kk : K M X E (pc + 1) ls (.long x.toInt64 :: st) S k n o t) : K M X E pc ls (.int x :: st) S k n o t := fun e => J_i2l hd (kk e)
theorem K_lcmp {x y : Int64} (hd : decode M.2.1 pc = .ok (.lcmp, 1)) (kk : K M X E (pc + 1) ls (.int (lg_cmp x y) :: st) S k n o t) : K M X E pc ls (.long y :: .long x :: st) S k n o t := fun e => J_lcmp hd (kk e)
theorem K_dup {v : Value} (hd : decode M.2.1 pc = .ok (.dup, 1)) (hv : v.category = 1) (kk : K M X E (pc + 1) ls (v :: v :: st) S k n o t) : K M X E pc ls (v :: st) S k n o t := fun e => J_dup hd hv (kk e)
theorem K_pop {v : Value} (hd : decode M.2.1 pc = .ok (.pop, 1)) (hv : v.category = 1) (kk : K M X E (pc + 1) ls (st) S k n o t) : K M X E pc ls (v :: st) S k n o t := fun e => J_pop hd hv (kk e)
theorem K_pop2 {v : Value} (hd : decode M.2.1 pc = .ok (.pop2, 1)) (hv : v.category = 2) (kk : K M X E (pc + 1) ls (st) S k n o t) : K M X E pc ls (v :: st) S k n o t := fun e => J_pop2 hd hv (kk e)
theorem K_dup_x1 {v u : Value} (hd : decode M.2.1 pc = .ok (.dup_x1, 1)) (hv : v.category = 1) (hu : u.category = 1) (kk : K M X E (pc + 1) ls (v :: u :: v :: st) S k n o t) : K M X E pc ls (v :: u :: st) S k n o t := fun e => J_dup_x1 hd hv hu (kk e)
theorem K_dup2 {v u : Value} (hd : decode M.2.1 pc = .ok (.dup2, 1)) (hv : v.category = 1) (hu : u.category = 1) (kk : K M X E (pc + 1) ls (v :: u :: v :: u :: st) S k n o t) : K M X E pc ls (v :: u :: st) S k n o t := fun e => J_dup2 hd hv hu (kk e)
theorem K_ldc2 {i : Nat} {v : Int64} (hd : decode M.2.1 pc = .ok (.ldc2_w i, 3)) (hc : Cond.constantLong M.1.cls i v ∈ GW) (kk : K M X E (pc + 3) ls (.long v :: st) S k n o t) : K M X E pc ls (st) S k n o t := fun e => J_ldc2 hd hc (kk e)
theorem K_ldc {i : Nat} {v : Int32} (hd : decode M.2.1 pc = .ok (.ldc i, 2)) (hc : Cond.constant M.1.cls i v ∈ GW) (kk : K M X E (pc + 2) ls (.int v :: st) S k n o t) : K M X E pc ls (st) S k n o t := fun e => J_ldc hd hc (kk e)
theorem K_if_eq {x : Int32} {off : Int} {tgt : Nat} (hd : decode M.2.1 pc = .ok (.ifCond .eq off, 3)) (ht : (pc : Int) + off = (tgt : Int)) (kt : x = 0 → K M X E tgt ls st S k n o1 t) (kf : ¬ x = 0 → K M X E (pc + 3) ls st S k n o2 t) : K M X E pc ls (.int x :: st) S k n (if x = 0 then o1 else o2) t := fun e => J_if_eq hd ht (fun z => kt z (by rw [if_pos z] at e; exact e)) (fun z => kf z (by rw [if_neg z] at e; exact e))
theorem K_icmp_eq {x y : Int32} {off : Int} {tgt : Nat} (hd : decode M.2.1 pc = .ok (.if_icmp .eq off, 3)) (ht : (pc : Int) + off = (tgt : Int)) (kt : x = y → K M X E tgt ls st S k n o1 t) (kf : ¬ x = y → K M X E (pc + 3) ls st S k n o2 t) : K M X E pc ls (.int y :: .int x :: st) S k n (if x = y then o1 else o2) t := fun e => J_icmp_eq hd ht (fun z => kt z (by rw [if_pos z] at e; exact e)) (fun z => kf z (by rw [if_neg z] at e; exact e))
theorem K_if_ne {x : Int32} {off : Int} {tgt : Nat} (hd : decode M.2.1 pc = .ok (.ifCond .ne off, 3)) (ht : (pc : Int) + off = (tgt : Int)) (kt : ¬ x = 0 → K M X E tgt ls st S k n o2 t) (kf : x = 0 → K M X E (pc + 3) ls st S k n o1 t) : K M X E pc ls (.int x :: st) S k n (if x = 0 then o1 else o2) t := fun e => J_if_ne hd ht (fun z => kt z (by rw [if_neg z] at e; exact e)) (fun z => kf z (by rw [if_pos z] at e; exact e))
theorem K_icmp_ne {x y : Int32} {off : Int} {tgt : Nat} (hd : decode M.2.1 pc = .ok (.if_icmp .ne off, 3)) (ht : (pc : Int) + off = (tgt : Int)) (kt : ¬ x = y → K M X E tgt ls st S k n o2 t) (kf : x = y → K M X E (pc + 3) ls st S k n o1 t) : K M X E pc ls (.int y :: .int x :: st) S k n (if x = y then o1 else o2) t := fun e => J_icmp_ne hd ht (fun z => kt z (by rw [if_neg z] at e; exact e)) (fun z => kf z (by rw [if_pos z] at e; exact e))
theorem K_if_lt {x : Int32} {off : Int} {tgt : Nat} (hd : decode M.2.1 pc = .ok (.ifCond .lt off, 3)) (ht : (pc : Int) + off = (tgt : Int)) (kt : x < 0 → K M X E tgt ls st S k n o1 t) (kf : ¬ x < 0 → K M X E (pc + 3) ls st S k n o2 t) : K M X E pc ls (.int x :: st) S k n (if x < 0 then o1 else o2) t := fun e => J_if_lt hd ht (fun z => kt z (by rw [if_pos z] at e; exact e)) (fun z => kf z (by rw [if_neg z] at e; exact e))
theorem K_icmp_lt {x y : Int32} {off : Int} {tgt : Nat} (hd : decode M.2.1 pc = .ok (.if_icmp .lt off, 3)) (ht : (pc : Int) + off = (tgt : Int)) (kt : x < y → K M X E tgt ls st S k n o1 t) (kf : ¬ x < y → K M X E (pc + 3) ls st S k n o2 t) : K M X E pc ls (.int y :: .int x :: st) S k n (if x < y then o1 else o2) t := fun e => J_icmp_lt hd ht (fun z => kt z (by rw [if_pos z] at e; exact e)) (fun z => kf z (by rw [if_neg z] at e; exact e))
theorem K_if_ge {x : Int32} {off : Int} {tgt : Nat} (hd : decode M.2.1 pc = .ok (.ifCond .ge off, 3)) (ht : (pc : Int) + off = (tgt : Int)) (kt : 0 ≤ x → K M X E tgt ls st S k n o1 t) (kf : ¬ 0 ≤ x → K M X E (pc + 3) ls st S k n o2 t) : K M X E pc ls (.int x :: st) S k n (if 0 ≤ x then o1 else o2) t := fun e => J_if_ge hd ht (fun z => kt z (by rw [if_pos z] at e; exact e)) (fun z => kf z (by rw [if_neg z] at e; exact e))
theorem K_icmp_ge {x y : Int32} {off : Int} {tgt : Nat} (hd : decode M.2.1 pc = .ok (.if_icmp .ge off, 3)) (ht : (pc : Int) + off = (tgt : Int)) (kt : y ≤ x → K M X E tgt ls st S k n o1 t) (kf : ¬ y ≤ x → K M X E (pc + 3) ls st S k n o2 t) : K M X E pc ls (.int y :: .int x :: st) S k n (if y ≤ x then o1 else o2) t := fun e => J_icmp_ge hd ht (fun z => kt z (by rw [if_pos z] at e; exact e)) (fun z => kf z (by rw [if_neg z] at e; exact e))
theorem K_if_gt {x : Int32} {off : Int} {tgt : Nat} (hd : decode M.2.1 pc = .ok (.ifCond .gt off, 3)) (ht : (pc : Int) + off = (tgt : Int)) (kt : 0 < x → K M X E tgt ls st S k n o1 t) (kf : ¬ 0 < x → K M X E (pc + 3) ls st S k n o2 t) : K M X E pc ls (.int x :: st) S k n (if 0 < x then o1 else o2) t := fun e => J_if_gt hd ht (fun z => kt z (by rw [if_pos z] at e; exact e)) (fun z => kf z (by rw [if_neg z] at e; exact e))
theorem K_icmp_gt {x y : Int32} {off : Int} {tgt : Nat} (hd : decode M.2.1 pc = .ok (.if_icmp .gt off, 3)) (ht : (pc : Int) + off = (tgt : Int)) (kt : y < x → K M X E tgt ls st S k n o1 t) (kf : ¬ y < x → K M X E (pc + 3) ls st S k n o2 t) : K M X E pc ls (.int y :: .int x :: st) S k n (if y < x then o1 else o2) t := fun e => J_icmp_gt hd ht (fun z => kt z (by rw [if_pos z] at e; exact e)) (fun z => kf z (by rw [if_neg z] at e; exact e))
theorem K_if_le {x : Int32} {off : Int} {tgt : Nat} (hd : decode M.2.1 pc = .ok (.ifCond .le off, 3)) (ht : (pc : Int) + off = (tgt : Int)) (kt : x ≤ 0 → K M X E tgt ls st S k n o1 t) (kf : ¬ x ≤ 0 → K M X E (pc + 3) ls st S k n o2 t) : K M X E pc ls (.int x :: st) S k n (if x ≤ 0 then o1 else o2) t := fun e => J_if_le hd ht (fun z => kt z (by rw [if_pos z] at e; exact e)) (fun z => kf z (by rw [if_neg z] at e; exact e))
theorem K_icmp_le {x y : Int32} {off : Int} {tgt : Nat} (hd : decode M.2.1 pc = .ok (.if_icmp .le off, 3)) (ht : (pc : Int) + off = (tgt : Int)) (kt : x ≤ y → K M X E tgt ls st S k n o1 t) (kf : ¬ x ≤ y → K M X E (pc + 3) ls st S k n o2 t) : K M X E pc ls (.int y :: .int x :: st) S k n (if x ≤ y then o1 else o2) t := fun e => J_icmp_le hd ht (fun z => kt z (by rw [if_pos z] at e; exact e)) (fun z => kf z (by rw [if_neg z] at e; exact e))
theorem K_goto {off : Int} {tgt : Nat} (hd : decode M.2.1 pc = .ok (.goto off, 3)) (ht : (pc : Int) + off = (tgt : Int)) (kk : K M X E tgt ls st S k n o t) : K M X E pc ls st S k n o t := fun e => J_goto hd ht (kk e)
theorem K_tswOut {dflt lo hi : Int} {offs : Array Int} {len : Nat} {x : Int32} {tgt : Nat} (hd : decode M.2.1 pc = .ok (.tableswitch dflt lo hi offs, len)) (hr : x.toInt < lo ∨ hi < x.toInt) (ht : (pc : Int) + dflt = (tgt : Int)) (kk : K M X E tgt ls st S k n o t) : K M X E pc ls (.int x :: st) S k n o t := fun e => J_tswOut hd hr ht (kk e)
theorem K_tswIn {dflt lo hi : Int} {offs : Array Int} {len : Nat} {x : Int32} (y : Int32) {off : Int} {tgt : Nat} (hd : decode M.2.1 pc = .ok (.tableswitch dflt lo hi offs, len)) (hxy : x = y) (h1 : ¬ y.toInt < lo) (h2 : ¬ hi < y.toInt) (ho : offs[(y.toInt - lo).toNat]? = some off) (ht : (pc : Int) + off = (tgt : Int)) (kk : K M X E tgt ls st S k n o t) : K M X E pc ls (.int x :: st) S k n o t := fun e => by subst hxy; exact J_tswIn hd h1 h2 ho ht (kk e)
theorem K_lsw {dflt : Int} {ps : Array (Int × Int)} {len : Nat} {x : Int32} {off : Int} {tgt : Nat} (hd : decode M.2.1 pc = .ok (.lookupswitch dflt ps, len)) (hp : (ps.toList.zip (ps.toList.drop 1)).all (fun (a, next) => a.1 < next.1) = true) (ho : Op.lookupswitch.offset ps.toList dflt x.toInt = off) (ht : (pc : Int) + off = (tgt : Int)) (kk : K M X E tgt ls st S k n o t) : K M X E pc ls (.int x :: st) S k n o t := fun e => J_lsw hd hp ho ht (kk e)
/-- fields -/
theorem K_getI {i ci j a : Nat} (hd : decode M.2.1 pc = .ok (.getfield i, 3)) (hF : FL M.1.cls i ci j) (h : E.1 a = some (0, ci, 0)) (hk : (ctab ci)[j]? = some 0) (kk : K M X E (pc + 3) ls (.int (S.1 a j) :: st) S k n o t) : K M X E pc ls (.ref a :: st) S k n o t := fun e => J_getf hd hF (hp_o h) (by have := fvs_get E S a _ 0 j 0 hk; rw [if_pos rfl, Nat.zero_add] at this; exact this) (kk e)
theorem WE.nz (h : WE E) {a : Nat} {tp : Tp} (ha : E.1 a = some tp) : a ≠ 0 := fun z => by rw [z, h.1] at ha; cases ha
theorem K_getM {i ci j a : Nat} {tp : Tp} (hE : WE E) (hd : decode M.2.1 pc = .ok (.getfield i, 3)) (hF : FL M.1.cls i ci j) (h : E.1 a = some (0, ci, 0)) (hk : (ctab ci)[j]? = some 1) (hb : E.1 (S.2.2.1 a j) = some tp) (kk : K M X E (pc + 3) ls (.ref (S.2.2.1 a j) :: st) S k n o t) : K M X E pc ls (.ref a :: st) S k n o t := fun e => J_getf hd hF (hp_o h) (by have := fvs_get E S a _ 0 j 1 hk; rw [if_neg (by decide), if_pos rfl, Nat.zero_add, nr_ref (hE.nz hb)] at this; exact this) (kk e)
theorem K_getC {i ci j a : Nat} {tp : Tp} (hE : WE E) (hd : decode M.2.1 pc = .ok (.getfield i, 3)) (hF : FL M.1.cls i ci j) (h : E.1 a = some (0, ci, 0)) (hk : (ctab ci)[j]? = some 2) (hf : (ftab ci)[j]? = some (some tp)) (kk : E.1 (E.2 a j) = some tp → K M X E (pc + 3) ls (.ref (E.2 a j) :: st) S k n o t) : K M X E pc ls (.ref a :: st) S k n o t := fun e => J_getf hd hF (hp_o h) (by have := fvs_get E S a _ 0 j 2 hk; rw [if_neg (by decide), if_neg (by decide), Nat.zero_add, nr_ref (hE.nz (hE.2.1 a ci j tp h hf))] at this; exact this) (kk (hE.2.1 a ci j tp h hf) e)
theorem K_putI {i ci j a : Nat} {x : Int32} (hd : decode M.2.1 pc = .ok (.putfield i, 3)) (hF : PL false M.1.cls i ci j .int) (h : E.1 a = some (0, ci, 0)) (hk : (ctab ci)[j]? = some 0) (kk : K M X E (pc + 3) ls st (sF S a j x) k n o t) : K M X E pc ls (.int x :: .ref a :: st) S k n o t := fun e => J_putf hd hF (hp_o h) rfl rfl (by rw [fvs_len]; exact (List.getElem?_eq_some_iff.mp hk).1) rfl (by rw [hp_sF h hk]; exact kk e)
theorem K_putZ {i ci j a : Nat} {x : Int32} (hd : decode M.2.1 pc = .ok (.putfield i, 3)) (hF : PL false M.1.cls i ci j .boolean) (h : E.1 a = some (0, ci, 0)) (hk : (ctab ci)[j]? = some 0) (hx : isB x = true) (kk : K M X E (pc + 3) ls st (sF S a j x) k n o t) : K M X E pc ls (.int x :: .ref a :: st) S k n o t := fun e => J_putf hd hF (hp_o h) (isB_nar hx).1 (isB_nar hx).2 (by rw [fvs_len]; exact (List.getElem?_eq_some_iff.mp hk).1) rfl (by rw [hp_sF h hk]; exact kk e)
theorem K_putM {i ci j a b : Nat} {C : String} (hb : b ≠ 0) (hd : decode M.2.1 pc = .ok (.putfield i, 3)) (hF : PL false M.1.cls i ci j (.object C)) (h : E.1 a = some (0, ci, 0)) (hk : (ctab ci)[j]? = some 1) (kk : K M X E (pc + 3) ls st (sR S a j b) k n o t) : K M X E pc ls (.ref b :: .ref a :: st) S k n o t := fun e => J_putf hd hF (hp_o h) rfl rfl (by rw [fvs_len]; exact (List.getElem?_eq_some_iff.mp hk).1) rfl (by rw [hp_sR hb h hk]; exact kk e)
/-- arrays -/
theorem K_iald {a N : Nat} {i : Int32} (hd : decode M.2.1 pc = .ok (.iaload, 1)) (h : E.1 a = some (1, 0, N)) (hi : inb i N = true) (kk : K M X E (pc + 1) ls (.int (S.2.1 a i.toNatClampNeg) :: st) S k n o t) : K M X E pc ls (.int i :: .ref a :: st) S k n o t := fun e => J_iald hd (hp_i h) (inb_in hi) (kk e)
theorem K_zald {a N : Nat} {i : Int32} (hd : decode M.2.1 pc = .ok (.baload, 1)) (h : E.1 a = some (1, 1, N)) (hi : inb i N = true) (kk : K M X E (pc + 1) ls (.int (S.2.1 a i.toNatClampNeg) :: st) S k n o t) : K M X E pc ls (.int i :: .ref a :: st) S k n o t := fun e => J_zald hd (hp_z h) (inb_in hi) (kk e)
theorem inb_lt {i : Int32} {N : Nat} (h : inb i N = true) : i.toNatClampNeg < N := Nat.not_le.mp fun q => inb_in h (Or.inr q)
theorem K_qald {a N : Nat} {i : Int32} (hE : WE E) (hd : decode M.2.1 pc = .ok (.aaload, 1)) (h : E.1 a = some (1, 3, N)) (hi : inb i N = true) (kk : E.1 (E.2 a i.toNatClampNeg) = some (0, 2, 0) → K M X E (pc + 1) ls (.ref (E.2 a i.toNatClampNeg) :: st) S k n o t) : K M X E pc ls (.int i :: .ref a :: st) S k n o t := fun e => J_qald hd (hp_q h) (inb_in hi) (by rw [show va_rf (nq (E.2 a i.toNatClampNeg)) = .ref (E.2 a i.toNatClampNeg) from by rw [nq, if_neg (hE.nz (hE.2.2 a N _ h (inb_lt hi)))]; rfl]; exact kk (hE.2.2 a N _ h (inb_lt hi)) e)
theorem K_iast {a N : Nat} {i x : Int32} (hd : decode M.2.1 pc = .ok (.iastore, 1)) (h : E.1 a = some (1, 0, N)) (hi : inb i N = true) (kk : K M X E (pc + 1) ls st (sG S a i.toNatClampNeg x) k n o t) : K M X E pc ls (.int x :: .int i :: .ref a :: st) S k n o t := fun e => J_iast hd (hp_i h) (inb_in hi) (by rw [hp_sG h (Or.inl rfl)]; exact kk e)
theorem K_zast {a N : Nat} {i x : Int32} (hd : decode M.2.1 pc = .ok (.bastore, 1)) (h : E.1 a = some (1, 1, N)) (hi : inb i N = true) (hx : isB x = true) (kk : K M X E (pc + 1) ls st (sG S a i.toNatClampNeg x) k n o t) : K M X E pc ls (.int x :: .int i :: .ref a :: st) S k n o t := fun e => J_zast hd (hp_z h) (inb_in hi) (by rw [isB_vp hx, hp_sG h (Or.inr rfl)]; exact kk e)
end KR
/-! ends: t is the answer and the state behind -/
section KE
variable {M : Mt} {X : Cx} {E : Ev} {pc : Nat} {ls : List (Nat × Value)} {S : St} {k n : Nat}
def PoI (E : Ev) (t : Int32 × St) : Option Value → Wd → Prop := fun v w' => v = some (.int t.1) ∧ w' = hp E t.2
def PoL (E : Ev) (t : Int64 × St) : Option Value → Wd → Prop := fun v w' => v = some (.long t.1) ∧ w' = hp E t.2
def PoV (E : Ev) (t : St) : Option Value → Wd → Prop := fun v w' => v = none ∧ w' = hp E t
theorem K_iret {v : Int32} {t : Int32 × St} (hd : decode M.2.1 pc = .ok (.ireturn, 1)) (hQ : EndR M X (PoI E t)) (hr : M.2.2.2.1 = some .int) (hk : k ≤ M.2.2.2.2.2.cells) (hs : n ≤ M.2.2.2.2.2.slots) : K M X E pc ls [.int v] S k n (some (v, S)) t := fun e => by cases e; exact J_iret hd hQ hr rfl hk hs ⟨rfl, rfl⟩
theorem K_zret {v : Int32} {t : Int32 × St} (hd : decode M.2.1 pc = .ok (.ireturn, 1)) (hQ : EndR M X (PoI E t)) (hr : M.2.2.2.1 = some .boolean) (hv : isB v = true) (hk : k ≤ M.2.2.2.2.2.cells) (hs : n ≤ M.2.2.2.2.2.slots) : K M X E pc ls [.int v] S k n (some (v, S)) t := fun e => by cases e; exact J_iret hd hQ hr (isB_nar hv).1 hk hs ⟨rfl, rfl⟩
theorem K_lret {v : Int64} {t : Int64 × St} (hd : decode M.2.1 pc = .ok (.lreturn, 1)) (hQ : EndR M X (PoL E t)) (hr : M.2.2.2.1 = some .long) (hk : k ≤ M.2.2.2.2.2.cells) (hs : n ≤ M.2.2.2.2.2.slots) : K M X E pc ls [.long v] S k n (some (v, S)) t := fun e => by cases e; exact J_lret hd hQ hr hk hs ⟨rfl, rfl⟩
theorem K_vret {t : St} (hd : decode M.2.1 pc = .ok (.return_, 1)) (hQ : EndR M X (PoV E t)) (hr : M.2.2.2.1 = none) (hk : k ≤ M.2.2.2.2.2.cells) (hs : n ≤ M.2.2.2.2.2.slots) : K M X E pc ls [] S k n (some S) t := fun e => by cases e; exact J_vret hd hQ hr hk hs ⟨rfl, rfl⟩
end KE
/-! calls: the outcome of the callee, then f of it -/
section KC
variable {α : Type} {M M' : Mt} {X : Cx} {E : Ev} {pc : Nat} {ls : List (Nat × Value)} {st : List Value} {S : St} {k n : Nat} {t : α}
theorem K_bind {β : Type} {oc : Option β} {f : β → Option α} (h : ∀ u, oc = some u → K M X E pc ls st S k n (f u) t) : K M X E pc ls st S k n (oc.bind f) t := by
  intro e
  cases h2 : oc with
  | none => rw [h2] at e; cases e
  | some u => rw [h2] at e; exact h u h2 e
variable {i b ci nar : Nat} {As rest : List Value} {r : vw_C}
theorem K_callVI {u : Int32 × St} {o : Option α} (hM : Cn X.2.1 M' (.ref b :: As) (hp E S) (PoI E u)) (hd : decode M.2.1 pc = .ok (.invokevirtual i, 3)) (hL : VL M.1.cls i M' nar) (hw : E.1 b = some (0, ci, 0)) (hc : vwCl[ci]? = some r) (hrc : r.1 = M'.1.cls) (hst : st = As.reverse ++ .ref b :: rest) (hnar : As.length = nar) (hrest : (rest.map fun v => v.category).sum ≤ 8) (hok : CallOk M M' k n nar) (kk : K M X E (pc + 3) ls (.int u.1 :: rest) u.2 (k + M'.2.2.2.2.2.cells) (n + M'.2.2.2.2.2.slots) o t) : K M X E pc ls st S k n o t := fun e => J_callV hd hL (hp_o hw) hc hrc hst hnar hrest hok hM (fun v w' hp => by obtain ⟨rfl, rfl⟩ := hp; exact kk e)
theorem K_callVL {u : Int64 × St} {o : Option α} (hM : Cn X.2.1 M' (.ref b :: As) (hp E S) (PoL E u)) (hd : decode M.2.1 pc = .ok (.invokevirtual i, 3)) (hL : VL M.1.cls i M' nar) (hw : E.1 b = some (0, ci, 0)) (hc : vwCl[ci]? = some r) (hrc : r.1 = M'.1.cls) (hst : st = As.reverse ++ .ref b :: rest) (hnar : As.length = nar) (hrest : (rest.map fun v => v.category).sum ≤ 8) (hok : CallOk M M' k n nar) (kk : K M X E (pc + 3) ls (.long u.1 :: rest) u.2 (k + M'.2.2.2.2.2.cells) (n + M'.2.2.2.2.2.slots) o t) : K M X E pc ls st S k n o t := fun e => J_callV hd hL (hp_o hw) hc hrc hst hnar hrest hok hM (fun v w' hp => by obtain ⟨rfl, rfl⟩ := hp; exact kk e)
theorem K_callVV {u : St} {o : Option α} (hM : Cn X.2.1 M' (.ref b :: As) (hp E S) (PoV E u)) (hd : decode M.2.1 pc = .ok (.invokevirtual i, 3)) (hL : VL M.1.cls i M' nar) (hw : E.1 b = some (0, ci, 0)) (hc : vwCl[ci]? = some r) (hrc : r.1 = M'.1.cls) (hst : st = As.reverse ++ .ref b :: rest) (hnar : As.length = nar) (hrest : (rest.map fun v => v.category).sum ≤ 8) (hok : CallOk M M' k n nar) (kk : K M X E (pc + 3) ls rest u (k + M'.2.2.2.2.2.cells) (n + M'.2.2.2.2.2.slots) o t) : K M X E pc ls st S k n o t := fun e => J_callV hd hL (hp_o hw) hc hrc hst hnar hrest hok hM (fun v w' hp => by obtain ⟨rfl, rfl⟩ := hp; exact kk e)
theorem K_callSI {u : Int32 × St} {o : Option α} (hM : Cn X.2.1 M' As (hp E S) (PoI E u)) (hd : decode M.2.1 pc = .ok (.invokestatic i, 3)) (hL : SL M.1.cls i M' nar) (hst : st = As.reverse ++ rest) (hnar : As.length = nar) (hrest : (rest.map fun v => v.category).sum ≤ 8) (hok : CallOk M M' k n nar) (kk : K M X E (pc + 3) ls (.int u.1 :: rest) u.2 (k + M'.2.2.2.2.2.cells) (n + M'.2.2.2.2.2.slots) o t) : K M X E pc ls st S k n o t := fun e => J_callS hd hL hst hnar hrest hok hM (fun v w' hp => by obtain ⟨rfl, rfl⟩ := hp; exact kk e)
end KC
