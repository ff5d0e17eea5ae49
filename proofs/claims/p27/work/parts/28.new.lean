/-! new objects; constructors -/
def NZ (X : Cx) (w : Wd) : Prop := (∃ a o, w a = some o) ∨ (match X with | (_, _, _, _, s, _, _, _, _, _, _, _, _, _) => 0 < s.heap.size)
section JN0
variable {M : Mt} {X : Cx} {pc : Nat} {ls ls' : List (Nat × Value)} {st : List Value} {w : Wd} {k n : Nat}
theorem J_new0 {i ci : Nat} {fs : List Value} (hd : decode M.2.1 pc = .ok (.new i, 3)) (hN : NL M.1.cls i ci fs) (hk : k + 1 ≤ M.2.2.2.2.2.cells) (hn : n + fs.length ≤ M.2.2.2.2.2.slots) (hz : NZ X w) (kk : ∀ q : Nat, w q = none → q ≠ 0 → J M X (pc + 3) ls (.ref q :: st) (wup w q (.inl (ci, fs))) (k + 1) (n + fs.length)) : J M X pc ls st w k n := by
  obtain ⟨p, l, e, R, s, m, args, below, meth, c, A, D, cA, Q⟩ := X
  intro ok H locs lsA hP hA hS hl
  have hh := fun q hq h0 H1 => kk q hq h0 ok H1 locs lsA
  have hne : H.size ≠ 0 := by
    rcases hz with ⟨a9, o9, h9⟩ | h9
    · exact Nat.ne_of_gt (Nat.lt_of_le_of_lt (Nat.zero_le _) (hP a9 o9 h9).lt)
    · exact Nat.ne_of_gt (Nat.lt_of_lt_of_le h9 hS.1)
  obtain ⟨hx, hb, -, -, -, hown, -, -, -, hR, hE, hK, hsz, -⟩ := ok
  obtain ⟨C, T, N, ty, hc, hws, hty, hlink, hinst, hini, hdf, hlen⟩ := hN
  have hts : ∀ w ∈ GW, w.before args s = true := fun w hw => j_word hE hw
  have hKn := hK.1 ci _ hc
  subst hlen
  refine W.newcK hx hb hown (j_word hE hlink) (j_word hE hinst) (j_word hE hini) rfl hd (by rw [hR]; exact hk) (by rw [hR]; exact hn) hKn.2.1 rfl fun H1 kC hkC e1 z1 o1 => ?_
  exact hh H.size (j_fresh hP (Nat.le_refl _)) hne H1 (hP.new ⟨_, hc, (u_born ty hts hws hKn hkC e1 hty).to hdf⟩ o1 rfl) (j_dom hA (hsz _ hS.1)) ⟨Nat.le_trans hS.1 (by omega), fun x h1 h2 => (o1 x (Nat.lt_of_lt_of_le h1 hS.1)).trans (hS.2.1 x h1 h2), hS.2.2⟩ hl
theorem J_newarr0 {at' : ArrayType} {kd N : Nat} {v : Int32} {ty : FieldType} (hd : decode M.2.1 pc = .ok (.newarray at', 2)) (hty : newarray.typeOf at' = ty) (hkd : (kd = 0 ∧ ty = .int) ∨ (kd = 1 ∧ ty = .boolean) ∨ (kd = 2 ∧ False)) (hg : Cond.arrayClass ty ∈ GW) (hv : ¬ v < 0) (hN : v.toNatClampNeg = N) (hsm : N ≤ 10000) (hk : k + 1 ≤ M.2.2.2.2.2.cells) (hn : n + N ≤ M.2.2.2.2.2.slots) (hz : NZ X w) (kk : ∀ q : Nat, w q = none → q ≠ 0 → J M X (pc + 2) ls (.ref q :: st) (wup w q (j_arr kd N)) (k + 1) (n + N)) : J M X pc ls (.int v :: st) w k n := by
  obtain ⟨p, l, e, R, s, m, args, below, meth, c, A, D, cA, Q⟩ := X
  intro ok H locs lsA hP hA hS hl
  have hh := fun q hq h0 H1 => kk q hq h0 ok H1 locs lsA
  have hne : H.size ≠ 0 := by
    rcases hz with ⟨a9, o9, h9⟩ | h9
    · exact Nat.ne_of_gt (Nat.lt_of_le_of_lt (Nat.zero_le _) (hP a9 o9 h9).lt)
    · exact Nat.ne_of_gt (Nat.lt_of_lt_of_le h9 hS.1)
  obtain ⟨hx, hb, -, -, -, hown, -, -, -, hR, hE, hK, hsz, -⟩ := ok
  subst hty
  have hby : N * componentBytes (newarray.typeOf at') ≤ 536870912 := by
    have h8 : componentBytes (newarray.typeOf at') ≤ 8 := by cases at' <;> decide
    exact Nat.le_trans (Nat.mul_le_mul hsm h8) (by decide)
  refine va_newaK hx hb (j_word hE hg) rfl hd rfl hv hN hby (by rw [hR]; exact hk) (by rw [hR]; exact hn) rfl fun H1 cB e1 z1 o1 hAr hNm => ?_
  have hS1 : va_S A s.heap H1 locs := ⟨Nat.le_trans hS.1 (by omega), fun x h1 h2 => (o1 x (Nat.lt_of_lt_of_le h1 hS.1)).trans (hS.2.1 x h1 h2), hS.2.2⟩
  refine hh H.size (j_fresh hP (Nat.le_refl _)) hne H1 (hP.new ?_ o1 rfl) (j_dom hA (hsz _ hS.1)) hS1 hl
  show H1[H.size]? = some (vp_cell _ _)
  rw [e1]
  rcases hkd with ⟨rfl, ht⟩ | ⟨rfl, ht⟩ | ⟨rfl, ht⟩
  · have h2 := (hK.2 0 _ rfl).2
    rw [ht] at hNm ⊢
    have e : cB = cA 0 := Option.some.inj (hNm.symm.trans h2)
    rw [e]; rfl
  · have h2 := (hK.2 1 _ rfl).2
    rw [ht] at hNm ⊢
    have e : cB = cA 1 := Option.some.inj (hNm.symm.trans h2)
    rw [e]; rfl
  · exact ht.elim
theorem J_newq0 {i N : Nat} {v : Int32} (hd : decode M.2.1 pc = .ok (.anewarray i, 3)) (hcl : Cond.classLink M.1.cls i "CodeVerifier$Frame" ∈ GW) (hv : ¬ v < 0) (hN : v.toNatClampNeg = N) (hsm : N ≤ 10000) (hk : k + 1 ≤ M.2.2.2.2.2.cells) (hn : n + N ≤ M.2.2.2.2.2.slots) (hz : NZ X w) (kk : ∀ q : Nat, w q = none → q ≠ 0 → J M X (pc + 3) ls (.ref q :: st) (wup w q (j_arr 3 N)) (k + 1) (n + N)) : J M X pc ls (.int v :: st) w k n := by
  obtain ⟨p, l, e, R, s, m, args, below, meth, c, A, D, cA, Q⟩ := X
  intro ok H locs lsA hP hA hS hl
  have hh := fun q hq h0 H1 => kk q hq h0 ok H1 locs lsA
  have hne : H.size ≠ 0 := by
    rcases hz with ⟨a9, o9, h9⟩ | h9
    · exact Nat.ne_of_gt (Nat.lt_of_le_of_lt (Nat.zero_le _) (hP a9 o9 h9).lt)
    · exact Nat.ne_of_gt (Nat.lt_of_lt_of_le h9 hS.1)
  obtain ⟨hx, hb, -, -, -, hown, -, -, -, hR, hE, hK, hsz, -⟩ := ok
  subst hN
  refine W.anew hx hb hown (j_word hE hcl) (va_AO.use hE.2.2.2.2.2.2) rfl hd rfl hv (by omega) (by rw [hR]; exact hk) (by rw [hR]; exact hn) fun cB kA comp f1 f2 f3 f4 => ?_
  generalize hH1 : H.push ({ cls := cB, slots := Array.replicate v.toNatClampNeg .null, vm := .none } : Cell) = H1
  have z1 : H1.size = H.size + 1 := by rw [← hH1, Array.size_push]
  have e1 : H1[H.size]? = some (arrV cB v.toNatClampNeg (fun _ => .null)) := by rw [← hH1, Array.getElem?_push_size, ← arrV_new]
  have o1 : ∀ q : Nat, q < H.size → H1[q]? = H[q]? := fun q hq => by rw [← hH1, Array.getElem?_push, if_neg (Nat.ne_of_lt hq)]
  have hS1 : va_S A s.heap H1 locs := ⟨Nat.le_trans hS.1 (by omega), fun x h1 h2 => (o1 x (Nat.lt_of_lt_of_le h1 hS.1)).trans (hS.2.1 x h1 h2), hS.2.2⟩
  refine hh H.size (j_fresh hP (Nat.le_refl _)) hne H1 (hP.new ?_ o1 rfl) (j_dom hA (hsz _ hS.1)) hS1 hl
  show H1[H.size]? = some (vp_cell _ _)
  rw [e1]
  obtain ⟨kB, compB, k1, k2, k3, k4⟩ := (hK.2 3 _ rfl).2
  have e : cB = cA 3 := Option.some.inj (f1.symm.trans k4)
  rw [e]; rfl
end JN0
def eN (E : Ev) (q : Nat) (t : Tp) : Ev := (fun a => if a = q then some t else E.1 a, fun a j => if a = q then 0 else E.2 a j)
def sN (S : St) (q : Nat) : St := (fun a j => if a = q then 0 else S.1 a j, fun a j => if a = q then 0 else S.2.1 a j, fun a j => if a = q then 0 else S.2.2.1 a j, fun a j => if a = q then 0 else S.2.2.2 a j)
def eP (E : Ev) (a j b : Nat) : Ev := (E.1, up2 E.2 a j b)
def dfl (l : List Nat) : List Value := l.map fun k => if k = 0 then .int 0 else .null
section EN
variable {E : Ev} {S : St} {q : Nat} {t : Tp}
theorem eN1s : (eN E q t).1 q = some t := if_pos rfl
theorem eN1n {a : Nat} (h : a ≠ q) : (eN E q t).1 a = E.1 a := if_neg h
theorem eN2s : (eN E q t).2 q = fun _ => 0 := by funext j; exact if_pos rfl
theorem eN2n {a : Nat} (h : a ≠ q) : (eN E q t).2 a = E.2 a := by funext j; exact if_neg h
theorem sN1s : (sN S q).1 q = fun _ => 0 := by funext j; exact if_pos rfl
theorem sN1n {a : Nat} (h : a ≠ q) : (sN S q).1 a = S.1 a := by funext j; exact if_neg h
theorem sN2s : (sN S q).2.1 q = fun _ => 0 := by funext j; exact if_pos rfl
theorem sN2n {a : Nat} (h : a ≠ q) : (sN S q).2.1 a = S.2.1 a := by funext j; exact if_neg h
theorem sN3n {a : Nat} (h : a ≠ q) : (sN S q).2.2.1 a = S.2.2.1 a := by funext j; exact if_neg h
theorem sN4s : (sN S q).2.2.2 q = fun _ => 0 := by funext j; exact if_pos rfl
theorem sN4n {a : Nat} (h : a ≠ q) : (sN S q).2.2.2 a = S.2.2.2 a := by funext j; exact if_neg h
theorem fvs_zero (E : Ev) (S : St) (q : Nat) (h1 : ∀ j, S.1 q j = 0) (h2 : ∀ j, S.2.2.1 q j = 0) (h3 : ∀ j, E.2 q j = 0) : ∀ (l : List Nat) (j : Nat), fvs E S q j l = dfl l
  | [], _ => rfl
  | k :: t, j => by
    simp only [fvs, dfl, List.map_cons, h1, h2, h3]
    rw [fvs_zero E S q h1 h2 h3 t (j + 1)]
    by_cases hk : k = 0 <;> simp [hk, nr, dfl]
theorem hp_eN (hq : E.1 q = none) {ob : Ob} (h : hcell (eN E q t) (sN S q) q t = ob) : wup (hp E S) q ob = hp (eN E q t) (sN S q) := by
  funext a
  by_cases ha : a = q
  · subst ha
    rw [wup_s]
    show some ob = ((eN E a t).1 a).map _
    rw [eN1s, Option.map_some, h]
  · rw [wup_n _ _ ha]
    show (E.1 a).map _ = ((eN E q t).1 a).map _
    rw [eN1n ha]
    cases E.1 a with
    | none => rfl
    | some u =>
      simp only [Option.map_some]
      have hf : ∀ (l : List Nat) (j : Nat), fvs E S a j l = fvs (eN E q t) (sN S q) a j l := by
        intro l
        induction l with
        | nil => intro j; rfl
        | cons k l ih =>
          intro j
          simp only [fvs, eN2n ha, sN1n ha, sN3n ha]
          rw [ih]
      unfold hcell
      rw [hf, eN2n ha, sN2n ha, sN4n ha]
theorem hp_eNo {ci : Nat} (hq : E.1 q = none) : wup (hp E S) q (.inl (ci, dfl (ctab ci))) = hp (eN E q (0, ci, 0)) (sN S q) := by
  refine hp_eN hq ?_
  show Sum.inl (ci, fvs _ _ _ _ _) = _
  rw [fvs_zero _ _ _ (fun j => by rw [sN1s]) (fun j => if_pos rfl) (fun j => by rw [eN2s])]
theorem hp_eNa {kd N : Nat} (hq : E.1 q = none) : wup (hp E S) q (j_arr kd N) = hp (eN E q (1, kd, N)) (sN S q) := by
  refine hp_eN hq ?_
  unfold hcell j_arr
  rw [if_neg (show ¬ ((1 : Nat) = 0) by decide), eN2s, sN2s, sN4s]
  rfl
theorem hp_eP {a ci j b : Nat} (hb : b ≠ 0) (h : E.1 a = some (0, ci, 0)) (hk : (ctab ci)[j]? = some 2) : wup (hp E S) a (.inl (ci, (fvs E S a 0 (ctab ci)).set j (.ref b))) = hp (eP E a j b) S := by
  funext q
  by_cases hq : q = a
  · subst hq
    rw [wup_s]
    show _ = ((eP E q j b).1 q).map _
    rw [show (eP E q j b).1 q = E.1 q from rfl, h, Option.map_some]
    show some (Sum.inl (ci, _)) = some (Sum.inl (ci, fvs (eP E q j b) S q 0 (ctab ci)))
    have key : ∀ (l : List Nat) (i z : Nat), l[z]? = some 2 → i + z = j → (fvs E S q i l).set z (.ref b) = fvs (eP E q j b) S q i l := by
      intro l
      induction l with
      | nil => intro i z hz; simp at hz
      | cons k l ih =>
        intro i z hz hi
        cases z with
        | zero =>
          have e : k = 2 := by simpa using hz
          have ei : i = j := by omega
          subst e
          subst ei
          have rest : ∀ (l : List Nat) (z : Nat), i < z → fvs E S q z l = fvs (eP E q i b) S q z l := by
            intro l
            induction l with
            | nil => intro z _; rfl
            | cons k l ih =>
              intro z hz
              simp only [fvs]
              rw [ih (z + 1) (by omega), show (eP E q i b).2 q z = E.2 q z from up2_n _ _ (fun y => by omega)]
          simp only [fvs, List.set_cons_zero]
          rw [rest l (i + 1) (by omega), if_neg (by decide), if_neg (by decide), show (eP E q i b).2 q i = b from up2_s _ _, nr_ref hb]
        | succ z =>
          simp only [fvs, List.set_cons_succ]
          rw [ih (i + 1) z (by simpa using hz) (by omega), show (eP E q j b).2 q i = E.2 q i from up2_n _ _ (fun y => by omega)]
    rw [key _ 0 j hk (by omega)]
  · rw [wup_n _ _ hq]
    show (E.1 q).map _ = (E.1 q).map _
    cases E.1 q with
    | none => rfl
    | some u =>
      have e2 : (eP E a j b).2 q = E.2 q := by funext z; exact up2_n _ _ (fun y => hq y.1)
      have hf : ∀ (l : List Nat) (i : Nat), fvs E S q i l = fvs (eP E a j b) S q i l := by
        intro l
        induction l with
        | nil => intro j; rfl
        | cons k l ih =>
          intro i
          simp only [fvs]
          rw [e2, ih]
      simp only [Option.map_some]
      unfold hcell
      rw [hf, e2]
theorem hp_ePq {a i b N : Nat} (hb : b ≠ 0) (h : E.1 a = some (1, 3, N)) : wup (hp E S) a (.inr (3, N, .inr (.inr (.inr (.inr (va_up (fun z => nq (E.2 a z)) i (some b))))))) = hp (eP E a i b) S := by
  funext q
  by_cases hq : q = a
  · subst hq
    rw [wup_s]
    show _ = ((eP E q i b).1 q).map _
    rw [show (eP E q i b).1 q = E.1 q from rfl, h, Option.map_some]
    refine congrArg some ?_
    unfold hcell
    rw [if_neg (show ¬ ((1 : Nat) = 0) by decide), if_neg (show ¬ ((3 : Nat) = 2) by decide), if_pos rfl]
    refine congrArg (fun f => Sum.inr (3, N, Sum.inr (Sum.inr (Sum.inr (Sum.inr f))))) ?_
    funext z
    by_cases hz : z = i
    · subst hz
      rw [show (eP E q z b).2 q z = b from up2_s _ _]
      simp [va_up, nq, hb]
    · simp only [va_up, if_neg hz]
      rw [show (eP E q i b).2 q z = E.2 q z from up2_n _ _ (fun y => hz y.2)]
  · rw [wup_n _ _ hq]
    show (E.1 q).map _ = (E.1 q).map _
    cases E.1 q with
    | none => rfl
    | some u =>
      have e2 : (eP E a i b).2 q = E.2 q := by funext z; exact up2_n _ _ (fun y => hq y.1)
      have hf : ∀ (l : List Nat) (z : Nat), fvs E S q z l = fvs (eP E a i b) S q z l := by
        intro l
        induction l with
        | nil => intro j; rfl
        | cons k l ih =>
          intro z
          simp only [fvs]
          rw [e2, ih]
      simp only [Option.map_some]
      unfold hcell
      rw [hf, e2]
end EN
section JN
variable {M : Mt} {X : Cx} {E : Ev} {S : St} {pc : Nat} {ls ls' : List (Nat × Value)} {st : List Value} {k n : Nat}
theorem hp_none {q : Nat} (h : hp E S q = none) : E.1 q = none := by
  cases h2 : E.1 q with
  | none => rfl
  | some u => simp [hp, h2] at h
theorem JN_new {i ci : Nat} (hd : decode M.2.1 pc = .ok (.new i, 3)) (hN : NL M.1.cls i ci (dfl (ctab ci))) (hk : k + 1 ≤ M.2.2.2.2.2.cells) (hn : n + (dfl (ctab ci)).length ≤ M.2.2.2.2.2.slots) (hz : NZ X (hp E S)) (kk : ∀ q : Nat, E.1 q = none → q ≠ 0 → J M X (pc + 3) ls (.ref q :: st) (hp (eN E q (0, ci, 0)) (sN S q)) (k + 1) (n + (dfl (ctab ci)).length)) : J M X pc ls st (hp E S) k n :=
  J_new0 hd hN hk hn hz (fun q hq h0 => by rw [hp_eNo (hp_none hq)]; exact kk q (hp_none hq) h0)
theorem JN_arr {at' : ArrayType} {kd N : Nat} {v : Int32} {ty : FieldType} (hd : decode M.2.1 pc = .ok (.newarray at', 2)) (hty : newarray.typeOf at' = ty) (hkd : (kd = 0 ∧ ty = .int) ∨ (kd = 1 ∧ ty = .boolean) ∨ (kd = 2 ∧ False)) (hg : Cond.arrayClass ty ∈ GW) (hv : ¬ v < 0) (hN : v.toNatClampNeg = N) (hsm : N ≤ 10000) (hk : k + 1 ≤ M.2.2.2.2.2.cells) (hn : n + N ≤ M.2.2.2.2.2.slots) (hz : NZ X (hp E S)) (kk : ∀ q : Nat, E.1 q = none → q ≠ 0 → J M X (pc + 2) ls (.ref q :: st) (hp (eN E q (1, kd, N)) (sN S q)) (k + 1) (n + N)) : J M X pc ls (.int v :: st) (hp E S) k n :=
  J_newarr0 hd hty hkd hg hv hN hsm hk hn hz (fun q hq h0 => by rw [hp_eNa (hp_none hq)]; exact kk q (hp_none hq) h0)
theorem JN_arrq {i N : Nat} {v : Int32} (hd : decode M.2.1 pc = .ok (.anewarray i, 3)) (hcl : Cond.classLink M.1.cls i "CodeVerifier$Frame" ∈ GW) (hv : ¬ v < 0) (hN : v.toNatClampNeg = N) (hsm : N ≤ 10000) (hk : k + 1 ≤ M.2.2.2.2.2.cells) (hn : n + N ≤ M.2.2.2.2.2.slots) (hz : NZ X (hp E S)) (kk : ∀ q : Nat, E.1 q = none → q ≠ 0 → J M X (pc + 3) ls (.ref q :: st) (hp (eN E q (1, 3, N)) (sN S q)) (k + 1) (n + N)) : J M X pc ls (.int v :: st) (hp E S) k n :=
  J_newq0 hd hcl hv hN hsm hk hn hz (fun q hq h0 => by rw [hp_eNa (hp_none hq)]; exact kk q (hp_none hq) h0)
theorem JN_putC {fin : Bool} {i ci j a b : Nat} {ty : FieldType} (hd : decode M.2.1 pc = .ok (.putfield i, 3)) (hF : PL fin M.1.cls i ci j ty) (hin : M.1.name = "<init>") (h : E.1 a = some (0, ci, 0)) (hk : (ctab ci)[j]? = some 2) (hb : b ≠ 0) (hn : narrow ty (.ref b) = .ref b) (hf : fits ty (.ref b) = true) (kk : J M X (pc + 3) ls st (hp (eP E a j b) S) k n) : J M X pc ls (.ref b :: .ref a :: st) (hp E S) k n := by
  cases fin with
  | false => exact J_putf hd hF (hp_o h) hn hf (by rw [fvs_len]; exact (List.getElem?_eq_some_iff.mp hk).1) rfl (by rw [hp_eP hb h hk]; exact kk)
  | true => exact J_putF hd hF hin (hp_o h) hn hf (by rw [fvs_len]; exact (List.getElem?_eq_some_iff.mp hk).1) rfl (by rw [hp_eP hb h hk]; exact kk)
theorem JN_putI {i ci j a : Nat} {x : Int32} (hd : decode M.2.1 pc = .ok (.putfield i, 3)) (hF : PL false M.1.cls i ci j .int) (h : E.1 a = some (0, ci, 0)) (hk : (ctab ci)[j]? = some 0) (kk : J M X (pc + 3) ls st (hp E (sF S a j x)) k n) : J M X pc ls (.int x :: .ref a :: st) (hp E S) k n := J_putf hd hF (hp_o h) rfl rfl (by rw [fvs_len]; exact (List.getElem?_eq_some_iff.mp hk).1) rfl (by rw [hp_sF h hk]; exact kk)
theorem JN_putM {i ci j a b : Nat} {C : String} (hb : b ≠ 0) (hd : decode M.2.1 pc = .ok (.putfield i, 3)) (hF : PL false M.1.cls i ci j (.object C)) (h : E.1 a = some (0, ci, 0)) (hk : (ctab ci)[j]? = some 1) (kk : J M X (pc + 3) ls st (hp E (sR S a j b)) k n) : J M X pc ls (.ref b :: .ref a :: st) (hp E S) k n := J_putf hd hF (hp_o h) rfl rfl (by rw [fvs_len]; exact (List.getElem?_eq_some_iff.mp hk).1) rfl (by rw [hp_sR hb h hk]; exact kk)
theorem JN_getI {i ci j a : Nat} {x : Int32} (hd : decode M.2.1 pc = .ok (.getfield i, 3)) (hF : FL M.1.cls i ci j) (h : E.1 a = some (0, ci, 0)) (hk : (ctab ci)[j]? = some 0) (hx : S.1 a j = x) (kk : J M X (pc + 3) ls (.int x :: st) (hp E S) k n) : J M X pc ls (.ref a :: st) (hp E S) k n := J_getf hd hF (hp_o h) (by have := fvs_get E S a _ 0 j 0 hk; rw [if_pos rfl, Nat.zero_add, hx] at this; exact this) kk
theorem JN_getC {i ci j a b : Nat} (hd : decode M.2.1 pc = .ok (.getfield i, 3)) (hF : FL M.1.cls i ci j) (h : E.1 a = some (0, ci, 0)) (hk : (ctab ci)[j]? = some 2) (hx : E.2 a j = b) (hb : b ≠ 0) (kk : J M X (pc + 3) ls (.ref b :: st) (hp E S) k n) : J M X pc ls (.ref a :: st) (hp E S) k n := J_getf hd hF (hp_o h) (by have := fvs_get E S a _ 0 j 2 hk; rw [if_neg (by decide), if_neg (by decide), Nat.zero_add, hx, nr_ref hb] at this; exact this) kk
theorem JN_iast {a N : Nat} {i x : Int32} (hd : decode M.2.1 pc = .ok (.iastore, 1)) (h : E.1 a = some (1, 0, N)) (hi : inb i N = true) (kk : J M X (pc + 1) ls st (hp E (sG S a i.toNatClampNeg x)) k n) : J M X pc ls (.int x :: .int i :: .ref a :: st) (hp E S) k n := J_iast hd (hp_i h) (inb_in hi) (by rw [hp_sG h (Or.inl rfl)]; exact kk)
theorem JN_qast {a v N : Nat} {i : Int32} (hd : decode M.2.1 pc = .ok (.aastore, 1)) (h : E.1 a = some (1, 3, N)) (hv : E.1 v = some (0, 2, 0)) (hv0 : v ≠ 0) (hi : inb i N = true) (kk : J M X (pc + 1) ls st (hp (eP E a i.toNatClampNeg v) S) k n) : J M X pc ls (.ref v :: .int i :: .ref a :: st) (hp E S) k n := J_qast (r := (RX3, TX3, 4)) hd (hp_q h) (hp_o hv) rfl rfl (inb_in hi) (by rw [hp_ePq hv0 h]; exact kk)
end JN
/-! what a constructor's run keeps: E0, S0 at its start; L the objects that are being made -/
/-- a place whose reference is its owner's own -/
def osl (t : Option Tp) (j : Nat) : Bool := match t with
  | none => false
  | some t => if t.1 = 0 then (match (ftab t.2.1)[j]? with
    | some (some u) => u.1 == 1 || u == (0, 2, 0)
    | _ => false) else t.2.1 == 3 && decide (j < t.2.2)
def inil : Nat → List (Nat × Int32) := fun c => match c with
  | 1 => [(3, -1)]
  | 4 => [(4, 0), (3, -1)]
  | 5 => [(4, 0), (3, -1)]
  | 6 => [(4, 0)]
  | 8 => [(2, 3)]
  | 9 => [(10, 0), (9, -1), (4, 0)]
  | 10 => []
  | _ => []
def vi (l : List (Nat × Int32)) (j : Nat) : Int32 := ((l.find? fun q => q.1 == j).map (·.2)).getD 0
def vl (l : List (Nat × Nat)) (j : Nat) : Nat := ((l.find? fun q => q.1 == j).map (·.2)).getD 0
def Ful (E : Ev) (S : St) (q : Nat) (t : Tp) : Prop := (t.1 = 0 → (∀ j u, (ftab t.2.1)[j]? = some (some u) → E.1 (E.2 q j) = some u) ∧ S.1 q = vi (inil t.2.1)) ∧ (t.1 = 1 → t.2.1 = 3 → ∀ j, j < t.2.2 → E.1 (E.2 q j) = some (0, 2, 0)) ∧ (t.1 = 1 → t.2.1 = 1 → S.2.1 q = fun _ => 0)
def Unown (E : Ev) (q : Nat) : Prop := ∀ a j, osl (E.1 a) j = true → E.2 a j ≠ q
def Inj (E : Ev) : Prop := ∀ a j b i, osl (E.1 a) j = true → osl (E.1 b) i = true → E.2 a j = E.2 b i → E.2 a j ≠ 0 → a = b ∧ j = i
def Pt (E : Ev) : Prop := ∀ a j, osl (E.1 a) j = true → E.2 a j ≠ 0 → E.1 (E.2 a j) ≠ none
def sameS (S S0 : St) (q : Nat) : Prop := S.1 q = S0.1 q ∧ S.2.1 q = S0.2.1 q ∧ S.2.2.1 q = S0.2.2.1 q ∧ S.2.2.2 q = S0.2.2.2 q
theorem sameS_refl (S : St) (q : Nat) : sameS S S q := ⟨rfl, rfl, rfl, rfl⟩
theorem sameS_trans {S1 S2 S3 : St} {q : Nat} (h : sameS S1 S2 q) (g : sameS S2 S3 q) : sameS S1 S3 q := ⟨h.1.trans g.1, h.2.1.trans g.2.1, h.2.2.1.trans g.2.2.1, h.2.2.2.trans g.2.2.2⟩
def Bs (E : Ev) : Prop := E.1 0 = none ∧ Inj E ∧ Pt E
def Ext (E0 E : Ev) : Prop := ∀ q t, E0.1 q = some t → E.1 q = some t
def Kp (E0 : Ev) (S0 : St) (L : List Nat) (E : Ev) (S : St) : Prop := ∀ q t, E0.1 q = some t → q ∉ L → E.2 q = E0.2 q ∧ sameS S S0 q
def Iv (E0 : Ev) (S0 : St) (L : List Nat) (E : Ev) (S : St) : Prop := Bs E ∧ Ext E0 E ∧ Kp E0 S0 L E S ∧ (∀ q t, E.1 q = some t → E0.1 q = none → q ∉ L → Ful E S q t) ∧ (∀ q t, E0.1 q = some t → Unown E0 q → Unown E q)
section IV
variable {E0 E E' : Ev} {S0 S S' : St} {L : List Nat} {q a j b : Nat} {t : Tp}
theorem iv_start (h : Bs E) : Iv E S L E S := ⟨h, fun _ _ h => h, fun _ _ _ _ => ⟨rfl, sameS_refl _ _⟩, fun q t h1 h2 => (by rw [h2] at h1; cases h1), fun _ _ _ h => h⟩
theorem osl_none {j : Nat} : osl none j = false := rfl
theorem ful_ext (hx : Ext E E') (h2 : E'.2 q = E.2 q) (hs : sameS S' S q) (h : Ful E S q t) : Ful E' S' q t := by
  refine ⟨fun h0 => ⟨fun j u hu => ?_, ?_⟩, fun h1 h3 j hj => ?_, fun h1 h3 => ?_⟩
  · rw [h2]; exact hx _ _ ((h.1 h0).1 j u hu)
  · rw [hs.1]; exact (h.1 h0).2
  · rw [h2]; exact hx _ _ (h.2.1 h1 h3 j hj)
  · rw [hs.2.1]; exact h.2.2 h1 h3
theorem Ext_eN (hq : E.1 q = none) : Ext E (eN E q t) := fun a u h => by
  have : a ≠ q := fun e => by rw [e, hq] at h; cases h
  rw [eN1n this]; exact h
theorem osl_eN (hq : E.1 q = none) {a j : Nat} (ha : a ≠ q) : osl ((eN E q t).1 a) j = osl (E.1 a) j := by rw [eN1n ha]
theorem iv_new (h : Iv E0 S0 L E S) (hq : E.1 q = none) (h0 : q ≠ 0) : Iv E0 S0 (q :: L) (eN E q t) (sN S q) ∧ Unown (eN E q t) q := by
  obtain ⟨⟨b1, b2, b3⟩, hx, hk, hf, hu⟩ := h
  have hE0 : ∀ z u, E0.1 z = some u → z ≠ q := fun z u h e => by rw [e] at h; rw [hx _ _ h] at hq; cases hq
  have hptr : ∀ a j, osl ((eN E q t).1 a) j = true → (eN E q t).2 a j ≠ 0 → a ≠ q ∧ osl (E.1 a) j = true ∧ (eN E q t).2 a j = E.2 a j := by
    intro a j h1 h2
    by_cases e : a = q
    · subst e; rw [eN2s] at h2; exact absurd rfl h2
    · rw [eN1n e] at h1; exact ⟨e, h1, by rw [eN2n e]⟩
  refine ⟨⟨⟨?_, ?_, ?_⟩, ?_, ?_, ?_, ?_⟩, ?_⟩
  · rw [eN1n (Ne.symm h0)]; exact b1
  · intro a j b i h1 h2 h3 h4
    obtain ⟨g1, g2, g3⟩ := hptr a j h1 h4
    obtain ⟨k1, k2, k3⟩ := hptr b i h2 (by rw [← h3]; exact h4)
    rw [g3, k3] at h3
    rw [g3] at h4
    exact b2 a j b i g2 k2 h3 h4
  · intro a j h1 h2
    obtain ⟨g1, g2, g3⟩ := hptr a j h1 h2
    rw [g3] at h2 ⊢
    intro e
    have := b3 a j g2 h2
    by_cases e2 : E.2 a j = q
    · rw [e2] at e; rw [eN1s] at e; cases e
    · rw [eN1n e2] at e; exact this e
  · intro z u h1
    rw [eN1n (hE0 z u h1)]; exact hx z u h1
  · intro z u h1 h2
    have hz := hE0 z u h1
    have := hk z u h1 (fun h => h2 (List.mem_cons_of_mem _ h))
    exact ⟨by rw [eN2n hz]; exact this.1, sameS_trans ⟨sN1n hz, sN2n hz, sN3n hz, sN4n hz⟩ this.2⟩
  · intro z u h1 h2 h3
    have hz : z ≠ q := fun e => h3 (by rw [e]; exact List.mem_cons_self)
    rw [eN1n hz] at h1
    exact ful_ext (Ext_eN hq) (eN2n hz) ⟨sN1n hz, sN2n hz, sN3n hz, sN4n hz⟩ (hf z u h1 h2 (fun h => h3 (List.mem_cons_of_mem _ h)))
  · intro z u h1 h2 a j h3 h4
    have hz0 : z ≠ 0 := fun e => by rw [e] at h1; have := hx _ _ h1; rw [b1] at this; cases this
    obtain ⟨g1, g2, g3⟩ := hptr a j h3 (by rw [h4]; exact hz0)
    rw [g3] at h4
    exact hu z u h1 h2 a j g2 h4
  · intro a j h1 h2
    obtain ⟨g1, g2, g3⟩ := hptr a j h1 (by rw [h2]; exact h0)
    rw [g3] at h2
    have := b3 a j g2 (by rw [h2]; exact h0)
    rw [h2] at this
    exact this hq
theorem iv_drop (h : Iv E0 S0 (q :: L) E S) (h1 : E.1 q = some t) (h2 : E0.1 q = none) (hf : Ful E S q t) : Iv E0 S0 L E S := by
  obtain ⟨hb, hx, hk, hg, hu⟩ := h
  refine ⟨hb, hx, fun z u g1 g2 => hk z u g1 (fun h => ?_), fun z u g1 g2 g3 => ?_, hu⟩
  · rcases List.mem_cons.mp h with h | h
    · rw [h, h2] at g1; cases g1
    · exact g2 h
  · by_cases e : z = q
    · subst e
      cases g1.symm.trans h1
      exact hf
    · exact hg z u g1 g2 (fun h => (List.mem_cons.mp h).elim e g3)
theorem iv_putC (h : Iv E0 S0 L E S) (ha : a ∈ L) (ht : E.1 a = some t) (h0 : E.2 a j = 0) (hb : b ≠ 0) (hbE : E.1 b ≠ none) (ho : osl (some t) j = true → Unown E b ∧ E0.1 b = none) : Iv E0 S0 L (eP E a j b) S ∧ ∀ z, z ≠ b → Unown E z → Unown (eP E a j b) z := by
  obtain ⟨⟨b1, b2, b3⟩, hx, hk, hf, hu⟩ := h
  have up : ∀ z i, (eP E a j b).2 z i = if z = a ∧ i = j then b else E.2 z i := fun z i => rfl
  have un : ∀ z, (osl (some t) j = true → z ≠ b) → Unown E z → Unown (eP E a j b) z := by
    intro z hz hzu c i h1 h2
    rw [up] at h2
    split at h2
    · rename_i e
      obtain ⟨e1, e2⟩ := e
      subst e1
      subst e2
      have h1' : osl (E.1 c) i = true := h1
      rw [ht] at h1'
      exact hz h1' h2.symm
    · exact hzu c i h1 h2
  refine ⟨⟨⟨b1, ?_, ?_⟩, hx, ?_, ?_, ?_⟩, fun z hz => un z (fun _ => hz)⟩
  · intro c i d k h1 h2 h3 h4
    rw [up] at h3 h4
    rw [up] at h3
    have h1' : osl (E.1 c) i = true := h1
    have h2' : osl (E.1 d) k = true := h2
    by_cases e1 : c = a ∧ i = j
    · by_cases e2 : d = a ∧ k = j
      · exact ⟨e1.1.trans e2.1.symm, e1.2.trans e2.2.symm⟩
      · rw [if_pos e1, if_neg e2] at h3
        rw [e1.1, e1.2, ht] at h1'
        exact absurd h3.symm ((ho h1').1 d k h2')
    · by_cases e2 : d = a ∧ k = j
      · rw [if_neg e1, if_pos e2] at h3
        rw [e2.1, e2.2, ht] at h2'
        exact absurd h3 ((ho h2').1 c i h1')
      · rw [if_neg e1, if_neg e2] at h3
        rw [if_neg e1] at h4
        exact b2 c i d k h1' h2' h3 h4
  · intro c i h1 h2
    rw [up] at h2 ⊢
    split at h2
    · rename_i e
      rw [if_pos e]; exact hbE
    · rename_i e
      rw [if_neg e]; exact b3 c i h1 h2
  · intro z u h1 h2
    have hz : z ≠ a := fun e => h2 (by rw [e]; exact ha)
    have := hk z u h1 h2
    exact ⟨by rw [← this.1]; funext i; rw [up, if_neg (fun e => hz e.1)], this.2⟩
  · intro z u h1 h2 h3
    have hz : z ≠ a := fun e => h3 (by rw [e]; exact ha)
    exact ful_ext (E := E) (fun _ _ h => h) (by funext i; rw [up, if_neg (fun e => hz e.1)]) (sameS_refl _ _) (hf z u h1 h2 h3)
  · intro z u h1 h2
    exact un z (fun h e => by rw [e, (ho h).2] at h1; cases h1) (hu z u h1 h2)
theorem iv_sF {x : Int32} (h : Iv E0 S0 L E S) (ha : a ∈ L) : Iv E0 S0 L E (sF S a j x) := by
  obtain ⟨hb, hx, hk, hf, hu⟩ := h
  have sm : ∀ z, z ≠ a → sameS (sF S a j x) S z := fun z hz => ⟨by funext i; exact up2_n _ _ (fun e => hz e.1), rfl, rfl, rfl⟩
  refine ⟨hb, hx, fun z u h1 h2 => ⟨(hk z u h1 h2).1, sameS_trans (sm z (fun e => h2 (by rw [e]; exact ha))) (hk z u h1 h2).2⟩, fun z u h1 h2 h3 => ful_ext (E := E) (fun _ _ h => h) rfl (sm z (fun e => h3 (by rw [e]; exact ha))) (hf z u h1 h2 h3), hu⟩
theorem iv_sR (h : Iv E0 S0 L E S) (ha : a ∈ L) : Iv E0 S0 L E (sR S a j b) := by
  obtain ⟨hb, hx, hk, hf, hu⟩ := h
  have sm : ∀ z, z ≠ a → sameS (sR S a j b) S z := fun z hz => ⟨rfl, rfl, by funext i; exact up2_n _ _ (fun e => hz e.1), rfl⟩
  refine ⟨hb, hx, fun z u h1 h2 => ⟨(hk z u h1 h2).1, sameS_trans (sm z (fun e => h2 (by rw [e]; exact ha))) (hk z u h1 h2).2⟩, fun z u h1 h2 h3 => ful_ext (E := E) (fun _ _ h => h) rfl (sm z (fun e => h3 (by rw [e]; exact ha))) (hf z u h1 h2 h3), hu⟩
/-- an int array of its own is written -/
theorem iv_sG {x : Int32} {N : Nat} (h : Iv E0 S0 L E S) (ha : E0.1 a = none) (ht : E.1 a = some (1, 0, N)) : Iv E0 S0 L E (sG S a j x) := by
  obtain ⟨hb, hx, hk, hf, hu⟩ := h
  have sm : ∀ z, z ≠ a → sameS (sG S a j x) S z := fun z hz => ⟨rfl, by funext i; exact up2_n _ _ (fun e => hz e.1), rfl, rfl⟩
  refine ⟨hb, hx, fun z u h1 h2 => ⟨(hk z u h1 h2).1, sameS_trans (sm z (fun e => by rw [e, ha] at h1; cases h1)) (hk z u h1 h2).2⟩, fun z u h1 h2 h3 => ?_, hu⟩
  by_cases e : z = a
  · subst e
    cases h1.symm.trans ht
    exact ⟨fun h => (by cases h), fun _ h => (by cases h), fun _ h => (by cases h)⟩
  · exact ful_ext (E := E) (fun _ _ h => h) rfl (sm z e) (hf z u h1 h2 h3)
theorem iv_call (h : Iv E0 S0 L E S) (g : Iv E S [q] E' S') (hq : q ∈ L) : Iv E0 S0 L E' S' := by
  obtain ⟨hb, hx, hk, hf, hu⟩ := h
  obtain ⟨gb, gx, gk, gf, gu⟩ := g
  refine ⟨gb, fun z u h => gx _ _ (hx _ _ h), fun z u h1 h2 => ?_, fun z u h1 h2 h3 => ?_, fun z u h1 h2 => gu z u (hx _ _ h1) (hu z u h1 h2)⟩
  · have hz : z ∉ [q] := fun e => h2 (by rw [List.mem_singleton.mp e]; exact hq)
    have a1 := hk z u h1 h2
    have a2 := gk z u (hx _ _ h1) hz
    exact ⟨a2.1.trans a1.1, sameS_trans a2.2 a1.2⟩
  · have hz : z ∉ [q] := fun e => h3 (by rw [List.mem_singleton.mp e]; exact hq)
    cases e : E.1 z with
    | none => exact gf z u h1 e hz
    | some u2 =>
      have e2 := gx _ _ e
      cases e2.symm.trans h1
      have a2 := gk z u e hz
      exact ful_ext gx a2.1 a2.2 (hf z u e h2 h3)
/-- nothing is written at all (a callee that fills a draft, say) but at int arrays of new objects -/
theorem iv_sub {L' : List Nat} (h : Iv E0 S0 L E S) (hs : ∀ z ∈ L, z ∈ L') : Iv E0 S0 L' E S := ⟨h.1, h.2.1, fun z u a1 a2 => h.2.2.1 z u a1 (fun a3 => a2 (hs z a3)), fun z u a1 a2 a3 => h.2.2.2.1 z u a1 a2 (fun a4 => a3 (hs z a4)), h.2.2.2.2⟩
end IV
/-- an object that is being made: its references and its ints so far -/
def Obj (ci a : Nat) (l : List (Nat × Nat)) (li : List (Nat × Int32)) (E : Ev) (S : St) : Prop := E.1 a = some (0, ci, 0) ∧ E.2 a = vl l ∧ S.1 a = vi li ∧ ∀ p ∈ l, ∃ u, (ftab ci)[p.1]? = some (some u) ∧ E.1 p.2 = some u
section OBJ
variable {E E' : Ev} {S S' : St} {ci a j b q : Nat} {t u : Tp} {l : List (Nat × Nat)} {li : List (Nat × Int32)}
theorem ob_new (h : Obj ci a l li E S) (hq : E.1 q = none) : Obj ci a l li (eN E q t) (sN S q) := by
  have ha : a ≠ q := fun e => by
    have h1 := h.1
    rw [e, hq] at h1
    cases h1
  refine ⟨(Ext_eN hq) _ _ h.1, by rw [eN2n ha]; exact h.2.1, by rw [sN1n ha]; exact h.2.2.1, fun p hp => ?_⟩
  obtain ⟨u, h1, h2⟩ := h.2.2.2 p hp
  exact ⟨u, h1, (Ext_eN hq) _ _ h2⟩
theorem ob_put (h : Obj ci a l li E S) (hu : (ftab ci)[j]? = some (some u)) (hb : E.1 b = some u) : Obj ci a ((j, b) :: l) li (eP E a j b) S := by
  refine ⟨h.1, ?_, h.2.2.1, fun p hp => ?_⟩
  · funext i
    show (if a = a ∧ i = j then b else E.2 a i) = _
    rw [h.2.1]
    by_cases e : i = j
    · subst e; simp [vl]
    · rw [if_neg (fun z => e z.2)]
      simp [vl, List.find?_cons, Ne.symm e, show (j == i) = false from by simpa using Ne.symm e]
  · rcases List.mem_cons.mp hp with e | hp
    · rw [e]; exact ⟨u, hu, hb⟩
    · exact h.2.2.2 p hp
theorem ob_putO {c : Nat} (h : Obj ci a l li E S) (hc : c ≠ a) : Obj ci a l li (eP E c j b) S := by
  refine ⟨h.1, ?_, h.2.2.1, h.2.2.2⟩
  rw [← h.2.1]
  funext i
  exact up2_n _ _ (fun z => hc z.1.symm)
theorem ob_sF {x : Int32} (h : Obj ci a l li E S) : Obj ci a l ((j, x) :: li) E (sF S a j x) := by
  refine ⟨h.1, h.2.1, ?_, h.2.2.2⟩
  funext i
  show (if a = a ∧ i = j then x else S.1 a i) = _
  rw [h.2.2.1]
  by_cases e : i = j
  · subst e; simp [vi]
  · rw [if_neg (fun z => e z.2)]
    simp [vi, List.find?_cons, show (j == i) = false from by simpa using Ne.symm e]
theorem ob_sR (h : Obj ci a l li E S) : Obj ci a l li E (sR S a j b) := h
theorem ob_sG {x : Int32} {c : Nat} (h : Obj ci a l li E S) : Obj ci a l li E (sG S c j x) := h
theorem ob_call (h : Obj ci a l li E S) (g : Iv E S [q] E' S') (hq : a ≠ q) : Obj ci a l li E' S' := by
  have hk := g.2.2.1 a _ h.1 (fun e => hq (List.mem_singleton.mp e))
  refine ⟨g.2.1 _ _ h.1, hk.1.trans h.2.1, hk.2.1.trans h.2.2.1, fun p hp => ?_⟩
  obtain ⟨u, h1, h2⟩ := h.2.2.2 p hp
  exact ⟨u, h1, g.2.1 _ _ h2⟩
/-- all its references are there -/
def fulk (ci : Nat) (ks : List Nat) : Bool := (List.range (ftab ci).length).all fun j => match (ftab ci)[j]? with
  | some (some _) => ks.contains j
  | _ => true
theorem vl_mem {l : List (Nat × Nat)} {j : Nat} (h : j ∈ l.map (·.1)) : (j, vl l j) ∈ l := by
  unfold vl
  cases hf : l.find? (fun q => q.1 == j) with
  | none =>
    obtain ⟨p, hp, e⟩ := List.mem_map.mp h
    have := List.find?_eq_none.mp hf p hp
    simp [e] at this
  | some p =>
    have h1 := List.mem_of_find?_eq_some hf
    have h2 : p.1 = j := by simpa using List.find?_some hf
    simp only [Option.map_some, Option.getD_some]
    rw [← h2]; exact h1
theorem ob_ful (h : Obj ci a l li E S) {ks : List Nat} (hk : l.map (·.1) = ks) (hf : fulk ci ks = true) (hi : li = inil ci) : Ful E S a (0, ci, 0) := by
  refine ⟨fun _ => ⟨fun j u hu => ?_, by rw [h.2.2.1, hi]⟩, fun h => (by cases h), fun h => (by cases h)⟩
  have hj : j < (ftab ci).length := (List.getElem?_eq_some_iff.mp hu).1
  have h1 := List.all_eq_true.mp hf j (List.mem_range.mpr hj)
  rw [hu] at h1
  simp only [List.contains_iff_mem] at h1
  rw [← hk] at h1
  have h2 := vl_mem h1
  obtain ⟨u', g1, g2⟩ := h.2.2.2 _ h2
  cases g1.symm.trans hu
  rw [h.2.1]
  exact g2
theorem ob_at (h : Obj ci a l li E S) (hj : j ∈ l.map (·.1)) : ∃ u, (ftab ci)[j]? = some (some u) ∧ E.1 (vl l j) = some u := h.2.2.2 _ (vl_mem hj)
theorem ob_first (h1 : E.1 a = some (0, ci, 0)) (h2 : E.2 a = fun _ => 0) (h3 : S.1 a = fun _ => 0) : Obj ci a [] [] E S := ⟨h1, h2, h3, fun _ h => absurd h List.not_mem_nil⟩
end OBJ
/-- what a constructor leaves -/
def PoN (Q : Ev → St → Prop) : Option Value → Wd → Prop := fun v w' => v = none ∧ ∃ E S, w' = hp E S ∧ Q E S
theorem J_nret {M : Mt} {X : Cx} {pc : Nat} {ls : List (Nat × Value)} {E : Ev} {S : St} {k n : Nat} {Q : Ev → St → Prop} (hd : decode M.2.1 pc = .ok (.return_, 1)) (hQ : EndR M X (PoN Q)) (hr : M.2.2.2.1 = none) (hk : k ≤ M.2.2.2.2.2.cells) (hs : n ≤ M.2.2.2.2.2.slots) (h : Q E S) : J M X pc ls [] (hp E S) k n := J_vret hd hQ hr hk hs ⟨rfl, E, S, rfl, h⟩
