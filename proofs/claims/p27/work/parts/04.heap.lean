/-! branches, switches, the heap's instructions over worlds that are functions -/
section JB
variable {M : Mt} {X : Cx} {pc : Nat} {ls ls' : List (Nat × Value)} {st : List Value} {w : Wd} {k n : Nat}
theorem J_if_eq {x : Int32} {off : Int} {tgt : Nat} (hd : decode M.2.1 pc = .ok (.ifCond .eq off, 3)) (ht : (pc : Int) + off = (tgt : Int)) (kt : x = 0 → J M X tgt ls st w k n) (kf : ¬ x = 0 → J M X (pc + 3) ls st w k n) : J M X pc ls (.int x :: st) w k n := by
  obtain ⟨p, l, e, R, s, m, args, below, meth, c, A, D, cA, Q⟩ := X
  intro ok H locs lsA hP hA hS hl
  have h1 := fun z => kt z ok H locs lsA hP hA hS hl
  have h2 := fun z => kf z ok H locs lsA hP hA hS hl
  obtain ⟨hx, hb, -⟩ := ok
  exact lv_if_eq hx hb hd ht h1 h2
theorem J_icmp_eq {x y : Int32} {off : Int} {tgt : Nat} (hd : decode M.2.1 pc = .ok (.if_icmp .eq off, 3)) (ht : (pc : Int) + off = (tgt : Int)) (kt : x = y → J M X tgt ls st w k n) (kf : ¬ x = y → J M X (pc + 3) ls st w k n) : J M X pc ls (.int y :: .int x :: st) w k n := by
  obtain ⟨p, l, e, R, s, m, args, below, meth, c, A, D, cA, Q⟩ := X
  intro ok H locs lsA hP hA hS hl
  have h1 := fun z => kt z ok H locs lsA hP hA hS hl
  have h2 := fun z => kf z ok H locs lsA hP hA hS hl
  obtain ⟨hx, hb, -⟩ := ok
  exact lv_icmp_eq hx hb hd ht h1 h2
theorem J_if_ne {x : Int32} {off : Int} {tgt : Nat} (hd : decode M.2.1 pc = .ok (.ifCond .ne off, 3)) (ht : (pc : Int) + off = (tgt : Int)) (kt : ¬ x = 0 → J M X tgt ls st w k n) (kf : x = 0 → J M X (pc + 3) ls st w k n) : J M X pc ls (.int x :: st) w k n := by
  obtain ⟨p, l, e, R, s, m, args, below, meth, c, A, D, cA, Q⟩ := X
  intro ok H locs lsA hP hA hS hl
  have h1 := fun z => kt z ok H locs lsA hP hA hS hl
  have h2 := fun z => kf z ok H locs lsA hP hA hS hl
  obtain ⟨hx, hb, -⟩ := ok
  exact lv_if_ne hx hb hd ht h1 h2
theorem J_icmp_ne {x y : Int32} {off : Int} {tgt : Nat} (hd : decode M.2.1 pc = .ok (.if_icmp .ne off, 3)) (ht : (pc : Int) + off = (tgt : Int)) (kt : ¬ x = y → J M X tgt ls st w k n) (kf : x = y → J M X (pc + 3) ls st w k n) : J M X pc ls (.int y :: .int x :: st) w k n := by
  obtain ⟨p, l, e, R, s, m, args, below, meth, c, A, D, cA, Q⟩ := X
  intro ok H locs lsA hP hA hS hl
  have h1 := fun z => kt z ok H locs lsA hP hA hS hl
  have h2 := fun z => kf z ok H locs lsA hP hA hS hl
  obtain ⟨hx, hb, -⟩ := ok
  exact lv_icmp_ne hx hb hd ht h1 h2
theorem J_if_lt {x : Int32} {off : Int} {tgt : Nat} (hd : decode M.2.1 pc = .ok (.ifCond .lt off, 3)) (ht : (pc : Int) + off = (tgt : Int)) (kt : x < 0 → J M X tgt ls st w k n) (kf : ¬ x < 0 → J M X (pc + 3) ls st w k n) : J M X pc ls (.int x :: st) w k n := by
  obtain ⟨p, l, e, R, s, m, args, below, meth, c, A, D, cA, Q⟩ := X
  intro ok H locs lsA hP hA hS hl
  have h1 := fun z => kt z ok H locs lsA hP hA hS hl
  have h2 := fun z => kf z ok H locs lsA hP hA hS hl
  obtain ⟨hx, hb, -⟩ := ok
  exact lv_if_lt hx hb hd ht h1 h2
theorem J_icmp_lt {x y : Int32} {off : Int} {tgt : Nat} (hd : decode M.2.1 pc = .ok (.if_icmp .lt off, 3)) (ht : (pc : Int) + off = (tgt : Int)) (kt : x < y → J M X tgt ls st w k n) (kf : ¬ x < y → J M X (pc + 3) ls st w k n) : J M X pc ls (.int y :: .int x :: st) w k n := by
  obtain ⟨p, l, e, R, s, m, args, below, meth, c, A, D, cA, Q⟩ := X
  intro ok H locs lsA hP hA hS hl
  have h1 := fun z => kt z ok H locs lsA hP hA hS hl
  have h2 := fun z => kf z ok H locs lsA hP hA hS hl
  obtain ⟨hx, hb, -⟩ := ok
  exact lv_icmp_lt hx hb hd ht h1 h2
theorem J_if_ge {x : Int32} {off : Int} {tgt : Nat} (hd : decode M.2.1 pc = .ok (.ifCond .ge off, 3)) (ht : (pc : Int) + off = (tgt : Int)) (kt : 0 ≤ x → J M X tgt ls st w k n) (kf : ¬ 0 ≤ x → J M X (pc + 3) ls st w k n) : J M X pc ls (.int x :: st) w k n := by
  obtain ⟨p, l, e, R, s, m, args, below, meth, c, A, D, cA, Q⟩ := X
  intro ok H locs lsA hP hA hS hl
  have h1 := fun z => kt z ok H locs lsA hP hA hS hl
  have h2 := fun z => kf z ok H locs lsA hP hA hS hl
  obtain ⟨hx, hb, -⟩ := ok
  exact lv_if_ge hx hb hd ht h1 h2
theorem J_icmp_ge {x y : Int32} {off : Int} {tgt : Nat} (hd : decode M.2.1 pc = .ok (.if_icmp .ge off, 3)) (ht : (pc : Int) + off = (tgt : Int)) (kt : y ≤ x → J M X tgt ls st w k n) (kf : ¬ y ≤ x → J M X (pc + 3) ls st w k n) : J M X pc ls (.int y :: .int x :: st) w k n := by
  obtain ⟨p, l, e, R, s, m, args, below, meth, c, A, D, cA, Q⟩ := X
  intro ok H locs lsA hP hA hS hl
  have h1 := fun z => kt z ok H locs lsA hP hA hS hl
  have h2 := fun z => kf z ok H locs lsA hP hA hS hl
  obtain ⟨hx, hb, -⟩ := ok
  exact lv_icmp_ge hx hb hd ht h1 h2
theorem J_if_gt {x : Int32} {off : Int} {tgt : Nat} (hd : decode M.2.1 pc = .ok (.ifCond .gt off, 3)) (ht : (pc : Int) + off = (tgt : Int)) (kt : 0 < x → J M X tgt ls st w k n) (kf : ¬ 0 < x → J M X (pc + 3) ls st w k n) : J M X pc ls (.int x :: st) w k n := by
  obtain ⟨p, l, e, R, s, m, args, below, meth, c, A, D, cA, Q⟩ := X
  intro ok H locs lsA hP hA hS hl
  have h1 := fun z => kt z ok H locs lsA hP hA hS hl
  have h2 := fun z => kf z ok H locs lsA hP hA hS hl
  obtain ⟨hx, hb, -⟩ := ok
  exact lv_if_gt hx hb hd ht h1 h2
theorem J_icmp_gt {x y : Int32} {off : Int} {tgt : Nat} (hd : decode M.2.1 pc = .ok (.if_icmp .gt off, 3)) (ht : (pc : Int) + off = (tgt : Int)) (kt : y < x → J M X tgt ls st w k n) (kf : ¬ y < x → J M X (pc + 3) ls st w k n) : J M X pc ls (.int y :: .int x :: st) w k n := by
  obtain ⟨p, l, e, R, s, m, args, below, meth, c, A, D, cA, Q⟩ := X
  intro ok H locs lsA hP hA hS hl
  have h1 := fun z => kt z ok H locs lsA hP hA hS hl
  have h2 := fun z => kf z ok H locs lsA hP hA hS hl
  obtain ⟨hx, hb, -⟩ := ok
  exact lv_icmp_gt hx hb hd ht h1 h2
theorem J_if_le {x : Int32} {off : Int} {tgt : Nat} (hd : decode M.2.1 pc = .ok (.ifCond .le off, 3)) (ht : (pc : Int) + off = (tgt : Int)) (kt : x ≤ 0 → J M X tgt ls st w k n) (kf : ¬ x ≤ 0 → J M X (pc + 3) ls st w k n) : J M X pc ls (.int x :: st) w k n := by
  obtain ⟨p, l, e, R, s, m, args, below, meth, c, A, D, cA, Q⟩ := X
  intro ok H locs lsA hP hA hS hl
  have h1 := fun z => kt z ok H locs lsA hP hA hS hl
  have h2 := fun z => kf z ok H locs lsA hP hA hS hl
  obtain ⟨hx, hb, -⟩ := ok
  exact lv_if_le hx hb hd ht h1 h2
theorem J_icmp_le {x y : Int32} {off : Int} {tgt : Nat} (hd : decode M.2.1 pc = .ok (.if_icmp .le off, 3)) (ht : (pc : Int) + off = (tgt : Int)) (kt : x ≤ y → J M X tgt ls st w k n) (kf : ¬ x ≤ y → J M X (pc + 3) ls st w k n) : J M X pc ls (.int y :: .int x :: st) w k n := by
  obtain ⟨p, l, e, R, s, m, args, below, meth, c, A, D, cA, Q⟩ := X
  intro ok H locs lsA hP hA hS hl
  have h1 := fun z => kt z ok H locs lsA hP hA hS hl
  have h2 := fun z => kf z ok H locs lsA hP hA hS hl
  obtain ⟨hx, hb, -⟩ := ok
  exact lv_icmp_le hx hb hd ht h1 h2
theorem J_goto {off : Int} {tgt : Nat} (hd : decode M.2.1 pc = .ok (.goto off, 3)) (ht : (pc : Int) + off = (tgt : Int)) (kk : J M X tgt ls st w k n) : J M X pc ls st w k n := by
  obtain ⟨p, l, e, R, s, m, args, below, meth, c, A, D, cA, Q⟩ := X
  intro ok H locs lsA hP hA hS hl
  have h := kk ok H locs lsA hP hA hS hl
  obtain ⟨hx, hb, -⟩ := ok
  exact lv_goto hx hb hd ht h
theorem J_tswOut {dflt lo hi : Int} {offs : Array Int} {len : Nat} {x : Int32} {tgt : Nat} (hd : decode M.2.1 pc = .ok (.tableswitch dflt lo hi offs, len)) (hr : x.toInt < lo ∨ hi < x.toInt) (ht : (pc : Int) + dflt = (tgt : Int)) (kk : J M X tgt ls st w k n) : J M X pc ls (.int x :: st) w k n := by
  obtain ⟨p, l, e, R, s, m, args, below, meth, c, A, D, cA, Q⟩ := X
  intro ok H locs lsA hP hA hS hl
  have h := kk ok H locs lsA hP hA hS hl
  obtain ⟨hx, hb, -⟩ := ok
  exact lv_tableOut hx hb hd hr ht h
theorem J_tswIn {dflt lo hi : Int} {offs : Array Int} {len : Nat} {x : Int32} {off : Int} {tgt : Nat} (hd : decode M.2.1 pc = .ok (.tableswitch dflt lo hi offs, len)) (h1 : ¬ x.toInt < lo) (h2 : ¬ hi < x.toInt) (ho : offs[(x.toInt - lo).toNat]? = some off) (ht : (pc : Int) + off = (tgt : Int)) (kk : J M X tgt ls st w k n) : J M X pc ls (.int x :: st) w k n := by
  obtain ⟨p, l, e, R, s, m, args, below, meth, c, A, D, cA, Q⟩ := X
  intro ok H locs lsA hP hA hS hl
  have h := kk ok H locs lsA hP hA hS hl
  obtain ⟨hx, hb, -⟩ := ok
  exact lv_tableIn hx hb hd h1 h2 ho ht h
theorem J_lsw {dflt : Int} {ps : Array (Int × Int)} {len : Nat} {x : Int32} {off : Int} {tgt : Nat} (hd : decode M.2.1 pc = .ok (.lookupswitch dflt ps, len)) (hp : (ps.toList.zip (ps.toList.drop 1)).all (fun (a, next) => a.1 < next.1) = true) (ho : Op.lookupswitch.offset ps.toList dflt x.toInt = off) (ht : (pc : Int) + off = (tgt : Int)) (kk : J M X tgt ls st w k n) : J M X pc ls (.int x :: st) w k n := by
  obtain ⟨p, l, e, R, s, m, args, below, meth, c, A, D, cA, Q⟩ := X
  intro ok H locs lsA hP hA hS hl
  have h := kk ok H locs lsA hP hA hS hl
  obtain ⟨hx, hb, -⟩ := ok
  exact lv_lookup hx hb hd hp ho ht h
theorem J_lcmp {x y : Int64} (hd : decode M.2.1 pc = .ok (.lcmp, 1)) (kk : J M X (pc + 1) ls (.int (lg_cmp x y) :: st) w k n) : J M X pc ls (.long y :: .long x :: st) w k n := by
  obtain ⟨p, l, e, R, s, m, args, below, meth, c, A, D, cA, Q⟩ := X
  intro ok H locs lsA hP hA hS hl
  have h := kk ok H locs lsA hP hA hS hl
  obtain ⟨hx, hb, -⟩ := ok
  exact W.lcmp hx hb hd h
theorem J_ldc2 {i : Nat} {v : Int64} (hd : decode M.2.1 pc = .ok (.ldc2_w i, 3)) (hc : Cond.constantLong M.1.cls i v ∈ GW) (kk : J M X (pc + 3) ls (.long v :: st) w k n) : J M X pc ls st w k n := by
  obtain ⟨p, l, e, R, s, m, args, below, meth, c, A, D, cA, Q⟩ := X
  intro ok H locs lsA hP hA hS hl
  have h := kk ok H locs lsA hP hA hS hl
  obtain ⟨hx, hb, -, -, -, hown, -, -, -, -, hE, -⟩ := ok
  exact lv_ldc2 hx hb hown (j_word hE hc) hd h
theorem J_ldc {i : Nat} {v : Int32} (hd : decode M.2.1 pc = .ok (.ldc i, 2)) (hc : Cond.constant M.1.cls i v ∈ GW) (kk : J M X (pc + 2) ls (.int v :: st) w k n) : J M X pc ls st w k n := by
  obtain ⟨p, l, e, R, s, m, args, below, meth, c, A, D, cA, Q⟩ := X
  intro ok H locs lsA hP hA hS hl
  have h := kk ok H locs lsA hP hA hS hl
  obtain ⟨hx, hb, -, -, -, hown, -, -, -, -, hE, -⟩ := ok
  exact lv_ldc hx hb hown (j_word hE hc) hd h
/-- the heap -/
theorem j_one {D : va_G} {cA : Nat → ClassId} {H : Heap} {a : Nat} {ob : Ob} (hP : j_P D cA w H) (hw : w a = some ob) : va_P D vwCl [(a, j_cv cA ob)] H := by
  intro i q hq
  cases i with
  | zero =>
    cases hq
    exact hP a ob hw
  | succ i => simp at hq
theorem j_P.set {D : va_G} {cA : Nat → ClassId} {H H1 : Heap} {a : Nat} {ob : Ob} (hP : j_P D cA w H) (he : va_at D vwCl (a, j_cv cA ob) H1) (oq : ∀ q : Nat, q ≠ a → H1[q]? = H[q]?) : j_P D cA (wup w a ob) H1 := by
  intro q x hq
  by_cases h : q = a
  · subst h
    rw [wup_s] at hq
    cases hq
    exact he
  · rw [wup_n w ob h] at hq
    exact (hP q x hq).kept (oq q h)
theorem j_dom {A : Nat → Prop} {a : Nat} {ob : Ob} (hA : ∀ q x, w q = some x → A q) (ha : A a) : ∀ q x, wup w a ob q = some x → A q := by
  intro q x hq
  by_cases h : q = a
  · rw [h]; exact ha
  · rw [wup_n w ob h] at hq
    exact hA q x hq
def FL (own : String) (idx ci j : Nat) : Prop := ∃ (C : String) (T : u_T) (N : Nat) (ref : String), vwCl[ci]? = some (C, T, N) ∧ j < N ∧ (∀ w ∈ u_ws C T N, w ∈ GW) ∧ Cond.fieldLink own idx ref (T j).2.1 (T j).2.2.1 ∈ GW ∧ (ref = (T j).1 ∨ Cond.sameField ref (T j).1 (T j).2.1 (T j).2.2.1 ∈ GW)
theorem j_same {s : State} {T : u_T} {j : Nat} {ref : String} (hE : j_Env s) (h : ref = (T j).1 ∨ Cond.sameField ref (T j).1 (T j).2.1 (T j).2.2.1 ∈ GW) : ∀ x, s.fieldFound? (T j).1 (T j).2.1 (T j).2.2.1 = some x → s.fieldFound? ref (T j).2.1 (T j).2.2.1 = some x := by
  intro x hx
  rcases h with h | h
  · rw [h]; exact hx
  · exact u_same (j_word (args := #[]) hE h) x hx
theorem J_getf {i ci j a : Nat} {fs : List Value} {v : Value} (hd : decode M.2.1 pc = .ok (.getfield i, 3)) (hF : FL M.1.cls i ci j) (hw : w a = some (.inl (ci, fs))) (hv : fs[j]? = some v) (kk : J M X (pc + 3) ls (v :: st) w k n) : J M X pc ls (.ref a :: st) w k n := by
  obtain ⟨p, l, e, R, s, m, args, below, meth, c, A, D, cA, Q⟩ := X
  intro ok H locs lsA hP hA hS hl
  have h := kk ok H locs lsA hP hA hS hl
  obtain ⟨hx, hb, -, -, -, hown, -, -, -, -, hE, hK, -⟩ := ok
  obtain ⟨C, T, N, ref, hc, hj, hws, hlink, hsame⟩ := hF
  exact va_get (Ts := GW) hx hb (fun w hw => j_word hE hw) hws hown hK (j_one hP hw) 0 rfl hc j hj (j_word hE hlink) (j_same hE hsame) hv hd h
def PL (fin : Bool) (own : String) (idx ci j : Nat) (ty : FieldType) : Prop := ∃ (C : String) (T : u_T) (N : Nat) (ref : String) (ty0 : Nat → FieldType), vwCl[ci]? = some (C, T, N) ∧ j < N ∧ (∀ w ∈ u_ws C T N, w ∈ GW) ∧ Cond.fieldLink own idx ref (T j).2.1 (T j).2.2.1 ∈ GW ∧ (ref = (T j).1 ∨ Cond.sameField ref (T j).1 (T j).2.1 (T j).2.2.1 ∈ GW) ∧ (T j).2.2.2 = fin ∧ parseFieldDescriptor (T j).2.2.1 = some ty ∧ (∀ z, z < N → parseFieldDescriptor (T z).2.2.1 = some (ty0 z)) ∧ (∀ a, a < N → ∀ b, b < N → a ≠ b → (T a).2.1 ≠ (T b).2.1) ∧ (fin = true → (T j).1 = own)
theorem J_putf {i ci j a : Nat} {ty : FieldType} {fs fs' : List Value} {v : Value} (hd : decode M.2.1 pc = .ok (.putfield i, 3)) (hF : PL false M.1.cls i ci j ty) (hw : w a = some (.inl (ci, fs))) (hn : narrow ty v = v) (hf : fits ty v = true) (hj : j < fs.length) (he : fs.set j v = fs') (kk : J M X (pc + 3) ls st (wup w a (.inl (ci, fs'))) k n) : J M X pc ls (v :: .ref a :: st) w k n := by
  obtain ⟨p, l, e, R, s, m, args, below, meth, c, A, D, cA, Q⟩ := X
  intro ok H locs lsA hP hA hS hl
  subst he
  have hh := fun H1 locs1 => kk ok H1 locs1 lsA
  obtain ⟨hx, hb, -, -, -, hown, -, -, -, -, hE, hK, -⟩ := ok
  obtain ⟨C, T, N, ref, ty0, hc, hjN, hws, hlink, hsame, hfin, hpt, hty, hnm, -⟩ := hF
  have hts : ∀ w ∈ GW, w.before args s = true := fun w hw => j_word hE hw
  have hap := va_apart (own := M.1.cls) hts hws ty0 hty hnm hK hc
  obtain ⟨r, h1, cell, q1, q2, q3, q4⟩ := hP a _ hw
  have hr : r = (C, T, N) := Option.some.inj (h1.symm.trans hc)
  subst hr
  obtain ⟨hSl, hfc, kC, hkC, hkind⟩ := hK.1 ci _ hc
  obtain ⟨cf, kf, fi, f, hi, hsl⟩ := hSl j hjN
  have hlay := hts _ (hws _ (u_in_lay hjN))
  unfold u_lay at hlay
  rw [if_neg (by rw [hfin]; decide)] at hlay
  have hst := (u_facts hfc hkC (u_lays hts hws hjN) hi).1
  have h6 := u_store hfc hkC hkind hlay hi hpt hn hf
  refine W.putK hx hb (f := f) ⟨hown, j_word hE hlink, ⟨_, _, _, j_same hE hsame _ hi⟩, hst⟩ (by rw [q2]; exact h6) q1 q3 (by rw [hsl]; exact k2_hasslot (q4 j hjN)) rfl rfl hd fun H' e1 e2 e3 => ?_
  rw [hsl] at e1 ⊢
  exact hh H' _ (hP.set ⟨_, hc, t_OB.to (V := updV (vp_V fs) j v) ⟨_, e1, q2, q3, t_set q4 hap hjN v⟩ (fun z _ => vp_updV_set hj v z)⟩ e3) (j_dom hA (hA a _ hw)) (hS.put e2 e3 (hA a _ hw)) hl
theorem J_putF {i ci j a : Nat} {ty : FieldType} {fs fs' : List Value} {v : Value} (hd : decode M.2.1 pc = .ok (.putfield i, 3)) (hF : PL true M.1.cls i ci j ty) (hin : M.1.name = "<init>") (hw : w a = some (.inl (ci, fs))) (hn : narrow ty v = v) (hf : fits ty v = true) (hj : j < fs.length) (he : fs.set j v = fs') (kk : J M X (pc + 3) ls st (wup w a (.inl (ci, fs'))) k n) : J M X pc ls (v :: .ref a :: st) w k n := by
  obtain ⟨p, l, e, R, s, m, args, below, meth, c, A, D, cA, Q⟩ := X
  intro ok H locs lsA hP hA hS hl
  subst he
  have hh := fun H1 locs1 => kk ok H1 locs1 lsA
  obtain ⟨hx, hb, -, -, -, hown, hname, -, -, -, hE, hK, -⟩ := ok
  obtain ⟨C, T, N, ref, ty0, hc, hjN, hws, hlink, hsame, hfin, hpt, hty, hnm, hdecl⟩ := hF
  have hdecl := hdecl rfl
  have hts : ∀ w ∈ GW, w.before args s = true := fun w hw => j_word hE hw
  have hap := va_apart (own := M.1.cls) hts hws ty0 hty hnm hK hc
  obtain ⟨r, h1, cell, q1, q2, q3, q4⟩ := hP a _ hw
  have hr : r = (C, T, N) := Option.some.inj (h1.symm.trans hc)
  subst hr
  obtain ⟨hSl, hfc, kC, hkC, hkind⟩ := hK.1 ci _ hc
  obtain ⟨cf, kf, fi, f, hi, hsl⟩ := hSl j hjN
  have hlay := hts _ (hws _ (u_in_lay hjN))
  unfold u_lay at hlay
  rw [if_pos hfin] at hlay
  have hst := (u_facts hfc hkC (u_lays hts hws hjN) hi).1
  have hcf : m.cls = cf := by
    obtain ⟨_, _, c', _, _, _, -, -, hf', -, -, -, hown2, -⟩ := Cond.laysFinal_spec hlay
    have e1 : c' = cf := by have := hi.symm.trans hf'; simp at this; exact this.1.symm
    rw [hdecl] at hown2
    rw [← e1]; exact Option.some.inj (hown.symm.trans hown2)
  have h6 := u_fits hfc hkC hkind (Or.inr hlay) hi hpt hn hf
  refine W.putFinK hx hb hown (j_word hE hlink) (j_same hE hsame _ hi) hst hcf (hname.trans hin) (by rw [q2]; exact h6) q1 q3 (by rw [hsl]; exact k2_hasslot (q4 j hjN)) rfl rfl hd fun H' e1 e2 e3 => ?_
  rw [hsl] at e1 ⊢
  exact hh H' _ (hP.set ⟨_, hc, t_OB.to (V := updV (vp_V fs) j v) ⟨_, e1, q2, q3, t_set q4 hap hjN v⟩ (fun z _ => vp_updV_set hj v z)⟩ e3) (j_dom hA (hA a _ hw)) (hS.put e2 e3 (hA a _ hw)) hl
theorem J_iald {a N : Nat} {f : Nat → Int32} {i : Int32} (hd : decode M.2.1 pc = .ok (.iaload, 1)) (hw : w a = some (.inr (0, N, .inl f))) (hi : vp_in i N) (kk : J M X (pc + 1) ls (.int (f i.toNatClampNeg) :: st) w k n) : J M X pc ls (.int i :: .ref a :: st) w k n := by
  obtain ⟨p, l, e, R, s, m, args, below, meth, c, A, D, cA, Q⟩ := X
  intro ok H locs lsA hP hA hS hl
  have h := kk ok H locs lsA hP hA hS hl
  obtain ⟨hx, hb, -, -, -, -, -, -, -, -, -, hK, -⟩ := ok
  exact va_iald hx hb hK (j_one hP hw) 0 0 rfl rfl hi hd h
theorem J_zald {a N : Nat} {f : Nat → Int32} {i : Int32} (hd : decode M.2.1 pc = .ok (.baload, 1)) (hw : w a = some (.inr (1, N, .inl f))) (hi : vp_in i N) (kk : J M X (pc + 1) ls (.int (f i.toNatClampNeg) :: st) w k n) : J M X pc ls (.int i :: .ref a :: st) w k n := by
  obtain ⟨p, l, e, R, s, m, args, below, meth, c, A, D, cA, Q⟩ := X
  intro ok H locs lsA hP hA hS hl
  have h := kk ok H locs lsA hP hA hS hl
  obtain ⟨hx, hb, -, -, -, -, -, -, -, -, -, hK, -⟩ := ok
  exact va_zald hx hb hK (j_one hP hw) 0 1 rfl rfl hi hd h
theorem J_qald {a N : Nat} {f : Nat → Option Nat} {i : Int32} (hd : decode M.2.1 pc = .ok (.aaload, 1)) (hw : w a = some (.inr (3, N, .inr (.inr (.inr (.inr f)))))) (hi : vp_in i N) (kk : J M X (pc + 1) ls (va_rf (f i.toNatClampNeg) :: st) w k n) : J M X pc ls (.int i :: .ref a :: st) w k n := by
  obtain ⟨p, l, e, R, s, m, args, below, meth, c, A, D, cA, Q⟩ := X
  intro ok H locs lsA hP hA hS hl
  have h := kk ok H locs lsA hP hA hS hl
  obtain ⟨hx, hb, -, -, -, -, -, -, -, -, -, hK, -⟩ := ok
  exact va_aldq hx hb hK (j_one hP hw) 0 3 rfl rfl hi hd h
theorem J_iast {a N : Nat} {f : Nat → Int32} {i : Int32} {x : Int32} (hd : decode M.2.1 pc = .ok (.iastore, 1)) (hw : w a = some (.inr (0, N, .inl f))) (hi : vp_in i N) (kk : J M X (pc + 1) ls st (wup w a (.inr (0, N, .inl (upd f i.toNatClampNeg x)))) k n) : J M X pc ls (.int x :: .int i :: .ref a :: st) w k n := by
  obtain ⟨p, l, e, R, s, m, args, below, meth, c, A, D, cA, Q⟩ := X
  intro ok H locs lsA hP hA hS hl
  have hh := fun H1 locs1 => kk ok H1 locs1 lsA
  obtain ⟨hx, hb, -, -, -, -, -, -, -, -, -, hK, -⟩ := ok
  refine W.iast hx hb (j_one hP hw 0 _ rfl) ((hK.2 0 _ rfl).1 N (fun j => .int (f j))) (fun q => by cases q) (by show ¬ (i < 0 ∨ (arrV _ _ _).slots.size ≤ _); rw [arrV_size]; exact hi) rfl rfl hd fun H1 e1 z oq => ?_
  refine hh H1 _ (hP.set ?_ oq) (j_dom hA (hA a _ hw)) (hS.put z oq (hA a _ hw)) hl
  show H1[a]? = some (vp_cell _ _)
  rw [e1]
  rw [vp_cell_i, vp_cell_i, arrV_store]
  congr 2
  funext q
  by_cases hq : q = i.toNatClampNeg
  · subst hq
    simp [updV, upd]
    try rfl
  · simp [updV, upd, hq]
theorem J_zast {a N : Nat} {f : Nat → Int32} {i : Int32} {x : Int32} (hd : decode M.2.1 pc = .ok (.bastore, 1)) (hw : w a = some (.inr (1, N, .inl f))) (hi : vp_in i N) (kk : J M X (pc + 1) ls st (wup w a (.inr (1, N, .inl (upd f i.toNatClampNeg (vp_nar .boolean x))))) k n) : J M X pc ls (.int x :: .int i :: .ref a :: st) w k n := by
  obtain ⟨p, l, e, R, s, m, args, below, meth, c, A, D, cA, Q⟩ := X
  intro ok H locs lsA hP hA hS hl
  have hh := fun H1 locs1 => kk ok H1 locs1 lsA
  obtain ⟨hx, hb, -, -, -, -, -, -, -, -, -, hK, -⟩ := ok
  refine W.zast hx hb (j_one hP hw 0 _ rfl) ((hK.2 1 _ rfl).1 N (fun j => .int (f j))) (fun q => by cases q) (by show ¬ (i < 0 ∨ (arrV _ _ _).slots.size ≤ _); rw [arrV_size]; exact hi) rfl rfl hd fun H1 e1 z oq => ?_
  refine hh H1 _ (hP.set ?_ oq) (j_dom hA (hA a _ hw)) (hS.put z oq (hA a _ hw)) hl
  show H1[a]? = some (vp_cell _ _)
  rw [e1]
  rw [vp_cell_i, vp_cell_i, arrV_store]
  congr 2
  funext q
  by_cases hq : q = i.toNatClampNeg
  · subst hq
    simp [updV, upd, vp_nar]
    try rfl
  · simp [updV, upd, vp_nar, hq]
theorem J_qast {a v N ci : Nat} {vs : List Value} {f : Nat → Option Nat} {i : Int32} {r : vw_C} (hd : decode M.2.1 pc = .ok (.aastore, 1)) (hw : w a = some (.inr (3, N, .inr (.inr (.inr (.inr f)))))) (hv : w v = some (.inl (ci, vs))) (hc : vwCl[ci]? = some r) (hr : r.1 = "CodeVerifier$Frame") (hi : vp_in i N) (kk : J M X (pc + 1) ls st (wup w a (.inr (3, N, .inr (.inr (.inr (.inr (va_up f i.toNatClampNeg (some v)))))))) k n) : J M X pc ls (.ref v :: .int i :: .ref a :: st) w k n := by
  obtain ⟨p, l, e, R, s, m, args, below, meth, c, A, D, cA, Q⟩ := X
  intro ok H locs lsA hP hA hS hl
  have hh := fun H1 locs1 => kk ok H1 locs1 lsA
  obtain ⟨hx, hb, -, -, -, -, -, -, -, -, -, hK, -⟩ := ok
  have hlt : i.toNatClampNeg < N := Nat.not_le.mp fun q => hi (Or.inr q)
  have h0 : ¬ i < 0 := fun q => hi (Or.inl q)
  obtain ⟨r', hr', cellV, g1, g2, g3, -⟩ := j_one hP hv 0 _ rfl
  have hcls := (hK.1 ci r hc).2
  obtain ⟨kA, comp, k1, k2, k3, -⟩ := (hK.2 3 _ rfl).2
  rw [hr] at hcls
  have hcomp : comp = D.1 ci := Option.some.inj (k3.symm.trans hcls.1)
  subst hcomp
  obtain ⟨kC, hkC, -⟩ := id hcls.2
  refine W.aast hx hb (j_one hP hw 0 _ rfl) (fun q h => by cases h) (fun h => by cases h) k1 k2 rfl hkC ⟨h0, by show _ < (arrV _ _ _).slots.size; rw [arrV_size]; exact hlt⟩ g1 (fun q h => by rw [g3] at h; cases h) (by rw [g2]; exact hkC) (by rw [g2]; exact va_assign hcls) rfl rfl hd fun H1 e1 z oq => ?_
  refine hh H1 _ (hP.set ?_ oq) (j_dom hA (hA a _ hw)) (hS.put z oq (hA a _ hw)) hl
  show H1[a]? = some (vp_cell _ _)
  rw [e1]
  rw [vp_cell_q, vp_cell_q, arrV_store]
  congr 2
  funext q
  by_cases hq : q = i.toNatClampNeg
  · subst hq
    simp [updV, va_up, va_rf]
  · simp [updV, va_up, hq]
theorem J_alen {a kd : Nat} {x : vp_A} (hd : decode M.2.1 pc = .ok (.arraylength, 1)) (hw : w a = some (.inr (kd, x))) (hk : kd < 4) {v : Int32} (hv : Int32.ofNat x.1 = v) (kk : J M X (pc + 1) ls (.int v :: st) w k n) : J M X pc ls (.ref a :: st) w k n := by
  obtain ⟨p, l, e, R, s, m, args, below, meth, c, A, D, cA, Q⟩ := X
  intro ok H locs lsA hP hA hS hl
  have h := kk ok H locs lsA hP hA hS hl
  obtain ⟨hx, hb, -, -, -, -, -, -, -, -, -, hK, -⟩ := ok
  rcases (show kd = 0 ∨ kd = 1 ∨ kd = 2 ∨ kd = 3 by omega) with rfl | rfl | rfl | rfl
  · exact va_alen hx hb hK (j_one hP hw) 0 0 rfl rfl hv hd h
  · exact va_alen hx hb hK (j_one hP hw) 0 1 rfl rfl hv hd h
  · exact va_alen hx hb hK (j_one hP hw) 0 2 rfl rfl hv hd h
  · exact va_alen hx hb hK (j_one hP hw) 0 3 rfl rfl hv hd h
theorem j_P.new {D : va_G} {cA : Nat → ClassId} {H H1 : Heap} {a : Nat} {ob : Ob} (hP : j_P D cA w H) (he : va_at D vwCl (a, j_cv cA ob) H1) (oq : ∀ q : Nat, q < a → H1[q]? = H[q]?) (ha : a = H.size) : j_P D cA (wup w a ob) H1 := by
  intro q x hq
  by_cases h : q = a
  · subst h
    rw [wup_s] at hq
    cases hq
    exact he
  · rw [wup_n w ob h] at hq
    have hlt := (hP q x hq).lt
    exact (hP q x hq).kept (oq q (by rw [ha]; exact hlt))
theorem j_fresh {D : va_G} {cA : Nat → ClassId} {H : Heap} {a : Nat} (hP : j_P D cA w H) (ha : H.size ≤ a) : w a = none := by
  cases h : w a with
  | none => rfl
  | some x => exact absurd (hP a x h).lt (Nat.not_lt.mpr ha)
def NL (own : String) (idx ci : Nat) (fs : List Value) : Prop := ∃ (C : String) (T : u_T) (N : Nat) (ty : Nat → FieldType), vwCl[ci]? = some (C, T, N) ∧ (∀ w ∈ u_ws C T N, w ∈ GW) ∧ (∀ z, z < N → parseFieldDescriptor (T z).2.2.1 = some (ty z)) ∧ Cond.classLink own idx C ∈ GW ∧ Cond.instantiable C N ∈ GW ∧ Cond.initialized C ∈ GW ∧ (∀ j, j < N → defaultValue (ty j) = vp_V fs j) ∧ N = fs.length
theorem J_new {i ci : Nat} {fs : List Value} (hd : decode M.2.1 pc = .ok (.new i, 3)) (hN : NL M.1.cls i ci fs) (hk : k + 1 ≤ M.2.2.2.2.2.cells) (hn : n + fs.length ≤ M.2.2.2.2.2.slots) (kk : ∀ q : Nat, w q = none → J M X (pc + 3) ls (.ref q :: st) (wup w q (.inl (ci, fs))) (k + 1) (n + fs.length)) : J M X pc ls st w k n := by
  obtain ⟨p, l, e, R, s, m, args, below, meth, c, A, D, cA, Q⟩ := X
  intro ok H locs lsA hP hA hS hl
  have hh := fun q hq H1 => kk q hq ok H1 locs lsA
  obtain ⟨hx, hb, -, -, -, hown, -, -, -, hR, hE, hK, hsz, -⟩ := ok
  obtain ⟨C, T, N, ty, hc, hws, hty, hlink, hinst, hini, hdf, hlen⟩ := hN
  have hts : ∀ w ∈ GW, w.before args s = true := fun w hw => j_word hE hw
  have hKn := hK.1 ci _ hc
  subst hlen
  refine W.newcK hx hb hown (j_word hE hlink) (j_word hE hinst) (j_word hE hini) rfl hd (by rw [hR]; exact hk) (by rw [hR]; exact hn) hKn.2.1 rfl fun H1 kC hkC e1 z1 o1 => ?_
  exact hh H.size (j_fresh hP (Nat.le_refl _)) H1 (hP.new ⟨_, hc, (u_born ty hts hws hKn hkC e1 hty).to hdf⟩ o1 rfl) (j_dom hA (hsz _ hS.1)) ⟨Nat.le_trans hS.1 (by omega), fun x h1 h2 => (o1 x (Nat.lt_of_lt_of_le h1 hS.1)).trans (hS.2.1 x h1 h2), hS.2.2⟩ hl
def j_arr (kd N : Nat) : Ob := .inr (kd, N, if kd = 2 then .inr (.inl (fun _ => 0)) else if kd = 3 then .inr (.inr (.inr (.inr (fun _ => none)))) else .inl (fun _ => 0))
theorem J_newarr {at' : ArrayType} {kd N : Nat} {v : Int32} {ty : FieldType} (hd : decode M.2.1 pc = .ok (.newarray at', 2)) (hty : newarray.typeOf at' = ty) (hkd : (kd = 0 ∧ ty = .int) ∨ (kd = 1 ∧ ty = .boolean) ∨ (kd = 2 ∧ False)) (hg : Cond.arrayClass ty ∈ GW) (hv : ¬ v < 0) (hN : v.toNatClampNeg = N) (hsm : N ≤ 10000) (hk : k + 1 ≤ M.2.2.2.2.2.cells) (hn : n + N ≤ M.2.2.2.2.2.slots) (kk : ∀ q : Nat, w q = none → J M X (pc + 2) ls (.ref q :: st) (wup w q (j_arr kd N)) (k + 1) (n + N)) : J M X pc ls (.int v :: st) w k n := by
  obtain ⟨p, l, e, R, s, m, args, below, meth, c, A, D, cA, Q⟩ := X
  intro ok H locs lsA hP hA hS hl
  have hh := fun q hq H1 => kk q hq ok H1 locs lsA
  obtain ⟨hx, hb, -, -, -, hown, -, -, -, hR, hE, hK, hsz, -⟩ := ok
  subst hty
  have hby : N * componentBytes (newarray.typeOf at') ≤ 536870912 := by
    have h8 : componentBytes (newarray.typeOf at') ≤ 8 := by cases at' <;> decide
    exact Nat.le_trans (Nat.mul_le_mul hsm h8) (by decide)
  refine va_newaK hx hb (j_word hE hg) rfl hd rfl hv hN hby (by rw [hR]; exact hk) (by rw [hR]; exact hn) rfl fun H1 cB e1 z1 o1 hAr hNm => ?_
  have hS1 : va_S A s.heap H1 locs := ⟨Nat.le_trans hS.1 (by omega), fun x h1 h2 => (o1 x (Nat.lt_of_lt_of_le h1 hS.1)).trans (hS.2.1 x h1 h2), hS.2.2⟩
  refine hh H.size (j_fresh hP (Nat.le_refl _)) H1 (hP.new ?_ o1 rfl) (j_dom hA (hsz _ hS.1)) hS1 hl
  show H1[H.size]? = some (vp_cell _ _)
  rw [e1]
  rcases hkd with ⟨rfl, ht⟩ | ⟨rfl, ht⟩ | ⟨rfl, ht⟩
  · have h2 := (hK.2 0 _ rfl).2
    rw [ht] at hNm ⊢
    have e : cB = cA 0 := Option.some.inj (hNm.symm.trans h2)
    rw [e]; rfl
  · have h2 := (hK.2 1 _ rfl).2
    rw [ht] at hNm ⊢
    have e : cB = cA 1 := Option.some.inj (hNm.symm.trans h2)
    rw [e]; rfl
  · exact ht.elim
theorem J_newq {i N : Nat} {v : Int32} (hd : decode M.2.1 pc = .ok (.anewarray i, 3)) (hcl : Cond.classLink M.1.cls i "CodeVerifier$Frame" ∈ GW) (hov : Cond.arrayOver (.object "CodeVerifier$Frame") ∈ GW) (hv : ¬ v < 0) (hN : v.toNatClampNeg = N) (hsm : N ≤ 10000) (hk : k + 1 ≤ M.2.2.2.2.2.cells) (hn : n + N ≤ M.2.2.2.2.2.slots) (kk : ∀ q : Nat, w q = none → J M X (pc + 3) ls (.ref q :: st) (wup w q (j_arr 3 N)) (k + 1) (n + N)) : J M X pc ls (.int v :: st) w k n := by
  obtain ⟨p, l, e, R, s, m, args, below, meth, c, A, D, cA, Q⟩ := X
  intro ok H locs lsA hP hA hS hl
  have hh := fun q hq H1 => kk q hq ok H1 locs lsA
  obtain ⟨hx, hb, -, -, -, hown, -, -, -, hR, hE, hK, hsz, -⟩ := ok
  subst hN
  refine W.anew hx hb hown (j_word hE hcl) (j_word hE hov) rfl hd rfl hv (by omega) (by rw [hR]; exact hk) (by rw [hR]; exact hn) fun cB kA comp f1 f2 f3 f4 => ?_
  generalize hH1 : H.push ({ cls := cB, slots := Array.replicate v.toNatClampNeg .null, vm := .none } : Cell) = H1
  have z1 : H1.size = H.size + 1 := by rw [← hH1, Array.size_push]
  have e1 : H1[H.size]? = some (arrV cB v.toNatClampNeg (fun _ => .null)) := by rw [← hH1, Array.getElem?_push_size, ← arrV_new]
  have o1 : ∀ q : Nat, q < H.size → H1[q]? = H[q]? := fun q hq => by rw [← hH1, Array.getElem?_push, if_neg (Nat.ne_of_lt hq)]
  have hS1 : va_S A s.heap H1 locs := ⟨Nat.le_trans hS.1 (by omega), fun x h1 h2 => (o1 x (Nat.lt_of_lt_of_le h1 hS.1)).trans (hS.2.1 x h1 h2), hS.2.2⟩
  refine hh H.size (j_fresh hP (Nat.le_refl _)) H1 (hP.new ?_ o1 rfl) (j_dom hA (hsz _ hS.1)) hS1 hl
  show H1[H.size]? = some (vp_cell _ _)
  rw [e1]
  obtain ⟨kB, compB, k1, k2, k3, k4⟩ := (hK.2 3 _ rfl).2
  have e : cB = cA 3 := Option.some.inj (f1.symm.trans k4)
  rw [e]; rfl
end JB
