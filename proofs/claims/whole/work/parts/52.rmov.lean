/-! the reference's moves between stack and locals -/
section RJ
variable {E : Ev} {m fu i k : Nat} {A : Enw} {S : St} {y : Ms}
theorem z_push {mx : Nat} {x : Int32} (h : (aPush mx x y).2 = 0) : y.2 = 0 := by
  unfold aPush at h
  split at h
  · exact h
  · rename_i h2
    simpa using h2
theorem z_req {c : Bool} {q : Int32} (hq : q ≠ 0) (h : (aReq c q y).2 = 0) : y.2 = 0 := by
  unfold aReq at h
  split at h
  · exact absurd h hq
  · exact h
theorem z_pop (h : (aPop y).2.2 = 0) : y.2 = 0 := by
  unfold aPop at h
  split at h
  · exact h
  · rename_i h2
    simpa using h2
theorem z_popC {c : Int32 → Bool} (h : (aPopC c y).2.2 = 0) : y.2 = 0 := z_pop (z_req (by decide) h)
theorem z_popT {d : Dcl} {ty : Int32} (h : (aPopT d ty y).2 = 0) : y.2 = 0 := by
  unfold aPopT at h
  split at h
  · exact z_pop (z_pop (z_req (by decide) h))
  · exact z_pop (z_req (by decide) h)
theorem push_e {mx : Nat} {x : Int32} (h : y.2 ≠ 0) : aPush mx x y = y := by
  unfold aPush
  rw [if_pos h]
theorem rx_pushR (L : LR E m) (hm : cmost A.2.2 ≤ 12) (hk : k ≤ 100) (v : RM E S m A i k y) {x z : Int32} (hz : y.2 = 0 → z = x) (hs : svA A.1 z) : Rv E m A i (k + 1) S (sp_X12_push fu E S m z) (aPush (cmost A.2.2) x y) := by
  by_cases h : y.2 = 0
  · rw [← hz h]
    exact rx_push L hm hk v (fun _ => hs)
  · have := rx_push (fu := fu) (x := z) L hm hk v (fun _ => hs)
    rw [push_e h] at this ⊢
    exact this
theorem ri_mov {f : Fr} {op : Nat} {x : Int32} (hfu : 30 ≤ fu) (L : LR E m) (hA : EI A) (hop : op ≤ 9) (hx : okX A op x) (hp : PrL f.1) (v : RM E S m A i 0 (f, 0)) : Rv E m A i 4 S (sp_X12_move fu E S m (n32 op) x) (aLocal A op x (f, 0)) := by
  have hm := hA.2.2.2.1
  have hl := hA.2.2.2.2.1
  have hd := hA.1
  have vn := (v.2.2.2.1 rfl).1
  have wf := (v.2.2.2.1 rfl).2
  have h45 : op ≤ 45 := by omega
  unfold sp_X12_move aLocal
  dsimp only
  by_cases h1 : op = 1
  · subst h1
    rw [if_pos (show n32 1 = 1 from rfl), if_pos rfl]
    exact rv_k (rv_id (rx_push L hm (by decide) v (fun _ => sv_0 hd))) (by decide)
  rw [if_neg (op_ne (k := 1) h45 (by decide) h1), if_neg h1]
  by_cases h1 : op = 2
  · subst h1
    rw [if_pos (show n32 2 = 2 from rfl), if_pos rfl]
    exact rv_k (rv_id (rx_pushT L hm (by decide) v (sv_8 hd) (by decide))) (by decide)
  rw [if_neg (op_ne (k := 2) h45 (by decide) h1), if_neg h1]
  by_cases h1 : op = 3
  · subst h1
    rw [if_pos (show n32 3 = 3 from rfl), if_pos rfl]
    exact rv_k (rv_id (rx_push L hm (by decide) v (fun _ => sv_null))) (by decide)
  rw [if_neg (op_ne (k := 3) h45 (by decide) h1), if_neg h1]
  by_cases h1 : op = 4
  · subst h1
    obtain ⟨n, rfl, hn⟩ := hx.1 (Or.inl rfl)
    rw [if_pos (show n32 4 = 4 from rfl), if_pos rfl, if_pos (by rw [z_inb (by omega)]; omega), z_nat (by omega), vn.1 n (by omega), beq_ite]
    have K := rv_bind (rx_lk (fu := fu) L v n6_0 (f.1 n == 0)) (fun S1 v1 => rv_k (rv_id (rx_push (fu := fu) (x := 0) L hm (by decide) v1 (fun _ => sv_0 hd))) (show 0 + 1 ≤ 4 by decide))
    revert K
    dsimp only
    cases (f.1 n == 0) <;> exact id
  rw [if_neg (op_ne (k := 4) h45 (by decide) h1), if_neg h1]
  by_cases h1 : op = 5
  · subst h1
    obtain ⟨n, rfl, hn⟩ := hx.2.1 (Or.inl rfl)
    have hpn := hp n (by omega)
    rw [if_pos (show n32 5 = 5 from rfl), if_pos rfl, if_pos (by rw [z_inb (by omega)]; omega), z_nat (by omega), vn.1 n (by omega), show n32 n + 1 = n32 (n + 1) from z_add n 1]
    dsimp only
    have K := fun c => rv_bind (rx_lk (fu := fu) L v n6_0 c) (fun S1 v1 => rv_k (rv_id (rx_pushT (fu := fu) (x := 8) L hm (by decide) v1 (sv_8 hd) (by decide))) (show 0 + 2 ≤ 4 by decide))
    by_cases c : f.1 n = 8
    · rw [if_pos c, if_pos (by rw [z_inb (by omega)]; omega), z_nat (by omega), vn.1 (n + 1) (by omega), if_pos (hpn.1 c).2, show (f.1 n == 8) = true from by rw [c]; rfl]
      exact K true
    · rw [if_neg c, show (f.1 n == 8) = false from beq_eq_false_iff_ne.mpr c]
      exact K false
  rw [if_neg (op_ne (k := 5) h45 (by decide) h1), if_neg h1]
  by_cases h1 : op = 6
  · subst h1
    obtain ⟨n, rfl, hn⟩ := hx.1 (Or.inr (Or.inl rfl))
    rw [if_pos (show n32 6 = 6 from rfl), if_pos rfl, if_pos (by rw [z_inb (by omega)]; omega), z_nat (by omega), vn.1 n (by omega), r_any hd v.1.1 (wf.1 n (by omega)), Option.bind_some]
    refine rv_bind (rx_lk (fu := fu) L v n6_0 (anyR (f.1 n))) (fun S1 v1 => ?_)
    rw [if_pos (by rw [z_inb (by omega)]; omega)]
    by_cases c : anyR (f.1 n) = true
    · rw [c, aReq_t] at v1 ⊢
      rw [(v1.2.2.2.1 rfl).1.1 n (by omega)]
      exact rv_k (rv_id (rx_push L hm (by decide) v1 (fun _ => wf.1 n (by omega)))) (by decide)
    · have c' : anyR (f.1 n) = false := by simpa using c
      rw [c', aReq_f rfl] at v1 ⊢
      have P := rv_id (rx_push (fu := fu) (x := S1.2.1 (E.2 m 39) n) L hm (by decide) v1 (fun q => absurd q (show ¬ (5 : Int32) = 0 by decide)))
      rw [push_e (show ¬ (5 : Int32) = 0 by decide)] at P ⊢
      exact rv_k P (by decide)
  rw [if_neg (op_ne (k := 6) h45 (by decide) h1), if_neg h1]
  by_cases h1 : op = 7
  · subst h1
    obtain ⟨n, rfl, hn⟩ := hx.1 (Or.inr (Or.inr (Or.inl rfl)))
    rw [if_pos (show n32 7 = 7 from rfl), if_pos rfl, z_nat (by omega)]
    exact rv_k (rv_bind (rx_popInt hfu L v n6_0) (fun S1 v1 => rv_id (rx_setL L v1 (n6_popT n6_0) (by omega) (fun _ => by rw [lo_popT]; exact hp) (fun _ => rfl) (sv_0 hd)))) (show 0 ≤ 4 by decide)
  rw [if_neg (op_ne (k := 7) h45 (by decide) h1), if_neg h1]
  by_cases h1 : op = 8
  · subst h1
    obtain ⟨n, rfl, hn⟩ := hx.2.1 (Or.inr rfl)
    rw [if_pos (show n32 8 = 8 from rfl), if_pos rfl, z_nat (by omega)]
    exact rv_k (rv_bind (rx_popLong hfu L v n6_0) (fun S1 v1 => rv_id (rx_stoL L hd v1 (n6_popT n6_0) (by omega) (fun _ => by rw [lo_popT]; exact hp)))) (show 0 ≤ 4 by decide)
  rw [if_neg (op_ne (k := 8) h45 (by decide) h1), if_neg h1]
  by_cases h1 : op = 9
  · subst h1
    obtain ⟨n, rfl, hn⟩ := hx.1 (Or.inr (Or.inr (Or.inr (Or.inl rfl))))
    rw [if_pos (show n32 9 = 9 from rfl), if_pos rfl, z_nat (by omega)]
    exact rv_k (rw_bind (rx_popAny hfu L hd v n6_0) (fun S1 r v1 he hs => rv_id (rx_setL L v1 (n6_popC n6_0) (by omega) (fun _ => by rw [lo_popC]; exact hp) he hs))) (show 0 ≤ 4 by decide)
  rw [if_neg (op_ne (k := 9) h45 (by decide) h1), if_neg h1, if_neg (show ¬ op = 21 by omega)]
  exact rv_k (rv_some v) (by decide)
/-- the condition of two slots, in well paired ones -/
theorem pair_c {s : Nat → Int32} {h : Nat} (hp : PrS s h) (hh : 1 < h) : (if s (h - 1) = -3 then (s (h - 2) == 8) else (!(s (h - 1) == 8) && (!(s (h - 2) == -3) && !(s (h - 2) == 8)))) = (s (h - 2) == 8 || (whole (s (h - 2)) && whole (s (h - 1)))) := by
  have p1 := hp (h - 1) (by omega)
  have p2 := hp (h - 2) (by omega)
  rw [show h - 1 - 1 = h - 2 by omega, show h - 1 + 1 = h by omega] at p1
  rw [show h - 2 + 1 = h - 1 by omega] at p2
  unfold whole
  by_cases c : s (h - 1) = -3
  · rw [if_pos c, (p1.2 c).2]
    rfl
  · rw [if_neg c]
    have n8 : ¬ s (h - 1) = 8 := fun z => absurd (p1.1 z).1 (Nat.lt_irrefl _)
    have m8 : ¬ s (h - 2) = 8 := fun z => c (p2.1 z).2
    rw [show (s (h - 1) == 8) = false from beq_eq_false_iff_ne.mpr n8, show (s (h - 2) == 8) = false from beq_eq_false_iff_ne.mpr m8, show (s (h - 2) != 8) = true from by simpa using m8, show (s (h - 1) != 8) = true from by simpa using n8, show (s (h - 1) != -3) = true from by simpa using c]
    show (!false && (!(s (h - 2) == -3) && !false)) = (false || (true && !(s (h - 2) == -3) && (true && true)))
    cases (s (h - 2) == -3) <;> rfl
theorem rx_shL {mx op : Nat} (L : LR E m) (hA : EI A) (hop : op ≤ 45) (hm : cmost A.2.2 = mx) {u l : Int32} (hu : svA A.1 u) (hl : svA A.1 l) (hfu : 30 ≤ fu) (v : RM E S m A i 0 y) : Rv E m A i 4 S (lp_X12_shuffle_110 fu E m fu (n32 op) u l 0 S) (if op = 14 then aPush mx u (aPush mx l (aPush mx u (aPush mx l y))) else y) := by
  have hm12 := hA.2.2.2.1
  subst hm
  obtain ⟨F, rfl⟩ : ∃ z, fu = z + 3 := ⟨fu - 3, by omega⟩
  show Rv E m A i 4 S (bd_X12_shuffle_110 (F + 3) E m (lp_X12_shuffle_110 (F + 3) E m (F + 2)) (n32 op) u l 0 S) _
  unfold bd_X12_shuffle_110
  rw [if_neg (by decide)]
  by_cases h : op = 14
  · subst h
    rw [if_pos (show n32 14 = 14 from rfl), if_pos rfl]
    refine rv_bind (rx_push L hm12 (by decide) v (fun _ => hl)) (fun S1 v1 => rv_bind (rx_push L hm12 (by decide) v1 (fun _ => hu)) (fun S2 v2 => ?_))
    show Rv E m A i 4 S2 (bd_X12_shuffle_110 (F + 3) E m (lp_X12_shuffle_110 (F + 3) E m (F + 1)) (n32 14) u l 1 S2) _
    unfold bd_X12_shuffle_110
    rw [if_neg (by decide), if_pos (show n32 14 = 14 from rfl)]
    refine rv_bind (rx_push L hm12 (by decide) v2 (fun _ => hl)) (fun S3 v3 => rv_bind (rx_push L hm12 (by decide) v3 (fun _ => hu)) (fun S4 v4 => ?_))
    show Rv E m A i 4 S4 (bd_X12_shuffle_110 (F + 3) E m (lp_X12_shuffle_110 (F + 3) E m F) (n32 14) u l 2 S4) _
    unfold bd_X12_shuffle_110
    rw [if_pos (by decide)]
    exact rv_some v4
  · rw [if_neg (op_ne (k := 14) hop (by decide) h), if_neg h]
    exact rv_k (rv_some v) (by decide)
theorem rx_pair {f : Fr} {op : Nat} (hfu : 30 ≤ fu) (L : LR E m) (hA : EI A) (hop : op ≤ 45) (hp : PrS f.2.1 f.2.2.1) (v : RM E S m A i 0 (f, 0)) : Rv E m A i 4 S (jb_X12_shuffle_12 fu E m (n32 op) S) (aPair (cmost A.2.2) op (f, 0)) := by
  have wf := (v.2.2.2.1 rfl).2
  have vn := (v.2.2.2.1 rfl).1
  unfold jb_X12_shuffle_12 aPair
  dsimp only
  have bad : ∀ (S1 : St) (z : Ms), RM E S1 m A i 0 z → AgL E m [35, 36] [39] S S1 → z.2 ≠ 0 → S1.1 m 35 ≠ 0 → Rv E m A i 4 S (jb_X12_shuffle_87 fu E m (n32 op) S1) (if op = 14 then aPush (cmost A.2.2) (aPop ((f, 0) : Ms)).1 (aPush (cmost A.2.2) (aPop (aPop ((f, 0) : Ms)).2).1 (aPush (cmost A.2.2) (aPop ((f, 0) : Ms)).1 (aPush (cmost A.2.2) (aPop (aPop ((f, 0) : Ms)).2).1 z))) else z) := by
    intro S1 z vz az hz h35
    have e : (if op = 14 then aPush (cmost A.2.2) (aPop ((f, 0) : Ms)).1 (aPush (cmost A.2.2) (aPop (aPop ((f, 0) : Ms)).2).1 (aPush (cmost A.2.2) (aPop ((f, 0) : Ms)).1 (aPush (cmost A.2.2) (aPop (aPop ((f, 0) : Ms)).2).1 z))) else z) = z := by
      split
      · rw [push_e hz, push_e hz, push_e hz, push_e hz]
      · rfl
    rw [e]
    refine ⟨S1, ?_, rm_k vz (by decide), az⟩
    unfold jb_X12_shuffle_87
    rw [rx_well, Option.bind_some, b2_if, show (S1.1 m 35 == 0) = false from beq_eq_false_iff_ne.mpr h35, if_neg (by decide)]
  rcases rx_has2 (fu := fu) L v n6_0 with ⟨S1, e, v1, a1, n1, n0⟩ | ⟨h, hh, e⟩
  · rw [e, Option.bind_some, if_pos rfl, aReq_e n0]
    exact bad S1 _ v1 a1 n0 n1
  · have hh' : 1 < f.2.2.1 := hh
    have e1 : (aPop (aPop ((f, 0) : Ms)).2).1 = f.2.1 (f.2.2.1 - 2) := by rw [aPop_2 h hh]
    have e2 : (aPop ((f, 0) : Ms)).1 = f.2.1 (f.2.2.1 - 1) := by rw [aPop_1 h (by omega)]
    obtain ⟨S1, S', r', f1, f2, v', a', ht, hf⟩ := rx_rd2 hfu L v h hh ((aPop (aPop ((f, 0) : Ms)).2).1 == 8 || (whole (aPop (aPop ((f, 0) : Ms)).2).1 && whole (aPop ((f, 0) : Ms)).1))
    have fin : Rv E m A i 4 S ((sp_X12_require fu E S m (b2 ((aPop (aPop ((f, 0) : Ms)).2).1 == 8 || (whole (aPop (aPop ((f, 0) : Ms)).2).1 && whole (aPop ((f, 0) : Ms)).1)))).bind fun u => jb_X12_shuffle_87 fu E m (n32 op) u) (if op = 14 then aPush (cmost A.2.2) (aPop ((f, 0) : Ms)).1 (aPush (cmost A.2.2) (aPop (aPop ((f, 0) : Ms)).2).1 (aPush (cmost A.2.2) (aPop ((f, 0) : Ms)).1 (aPush (cmost A.2.2) (aPop (aPop ((f, 0) : Ms)).2).1 (aReq ((aPop (aPop ((f, 0) : Ms)).2).1 == 8 || (whole (aPop (aPop ((f, 0) : Ms)).2).1 && whole (aPop ((f, 0) : Ms)).1)) 4 (aPop (aPop ((f, 0) : Ms)).2).2)))) else aReq ((aPop (aPop ((f, 0) : Ms)).2).1 == 8 || (whole (aPop (aPop ((f, 0) : Ms)).2).1 && whole (aPop ((f, 0) : Ms)).1)) 4 (aPop (aPop ((f, 0) : Ms)).2).2) := by
      rw [f1, Option.bind_some]
      by_cases c : ((aPop (aPop ((f, 0) : Ms)).2).1 == 8 || (whole (aPop (aPop ((f, 0) : Ms)).2).1 && whole (aPop ((f, 0) : Ms)).1)) = true
      · obtain ⟨hr, hS⟩ := ht c
        rw [hS] at f2 ⊢
        unfold jb_X12_shuffle_87
        rw [rx_well, rm_0 v rfl, Option.bind_some, b2_if, if_pos (by decide)]
        dsimp only
        rw [rx_top0 vn wf.2.2 (by omega), Option.bind_some]
        dsimp only
        rw [f2, Option.bind_some]
        dsimp only
        rw [hr, e2, e1]
        rw [e1, e2] at v'
        obtain ⟨S3, e3, v3, a3⟩ := rx_shL (u := f.2.1 (f.2.2.1 - 1)) (l := f.2.1 (f.2.2.1 - 2)) L hA hop rfl (wf.2.1 (f.2.2.1 - 1) (show f.2.2.1 - 1 < f.2.2.1 by omega)) (wf.2.1 (f.2.2.1 - 2) (show f.2.2.1 - 2 < f.2.2.1 by omega)) hfu v'
        exact ⟨S3, e3, v3, agl_trans a' a3⟩
      · have c' := Bool.eq_false_iff.mpr c
        obtain ⟨h35, hS⟩ := hf c'
        subst hS
        refine bad S' _ v' a' ?_ h35
        rw [c', aPop_2 h hh, aReq_f rfl]
        exact (by decide : (4 : Int32) ≠ 0)
    rw [e, Option.bind_some, if_neg (show ¬ (1 : Int32) = 0 by decide)]
    have pc := pair_c hp hh'
    rw [← e1, ← e2] at pc
    rw [← pc] at fin
    dsimp only
    rw [rx_top0 vn wf.2.2 (by omega), Option.bind_some]
    dsimp only
    rw [rx_top1 vn wf.2.2 hh, Option.bind_some, rx_top0 vn wf.2.2 (by omega), Option.bind_some]
    dsimp only
    rw [rx_top1 vn wf.2.2 hh, Option.bind_some]
    dsimp only
    rw [e1, e2] at fin pc
    rw [e1, e2, ← pc]
    have et1 : sp_X12_top fu E S m 1 = some (f.2.1 (f.2.2.1 - 2), S) := rx_top1 vn wf.2.2 hh
    revert fin et1
    generalize f.2.1 (f.2.2.1 - 1) = u
    generalize f.2.1 (f.2.2.1 - 2) = l
    intro fin et1
    by_cases c1 : u = -3
    · rw [if_pos c1] at fin ⊢
      rw [if_pos c1]
      by_cases c2 : l = 8
      · rw [if_pos c2]
        rw [show (l == 8) = true from by rw [c2]; rfl] at fin ⊢
        exact fin
      · rw [if_neg c2]
        rw [show (l == 8) = false from beq_eq_false_iff_ne.mpr c2] at fin ⊢
        exact fin
    · rw [if_neg c1] at fin ⊢
      rw [if_neg c1]
      by_cases c3 : u = 8
      · rw [if_pos c3]
        rw [show (u == 8) = true from by rw [c3]; rfl] at fin ⊢
        exact fin
      · rw [if_neg c3]
        rw [show (u == 8) = false from beq_eq_false_iff_ne.mpr c3] at fin ⊢
        by_cases c4 : l = -3
        · rw [if_pos c4]
          rw [show (l == -3) = true from by rw [c4]; rfl] at fin ⊢
          exact fin
        · rw [if_neg c4, et1, Option.bind_some]
          dsimp only
          rw [show (l == -3) = false from beq_eq_false_iff_ne.mpr c4] at fin ⊢
          by_cases c5 : l = 8
          · rw [if_pos c5]
            rw [show (l == 8) = true from by rw [c5]; rfl] at fin ⊢
            exact fin
          · rw [if_neg c5]
            rw [show (l == 8) = false from beq_eq_false_iff_ne.mpr c5] at fin ⊢
            exact fin
theorem ri_shu {f : Fr} {op : Nat} (hfu : 30 ≤ fu) (L : LR E m) (hA : EI A) (hop : 9 < op ∧ op ≤ 15) (hp : PrS f.2.1 f.2.2.1) (v : RM E S m A i 0 (f, 0)) : Rv E m A i 4 S (sp_X12_shuffle fu E S m (n32 op)) (aMove A op (f, 0)) := by
  have hm := hA.2.2.2.1
  have h45 : op ≤ 45 := by omega
  unfold sp_X12_shuffle aMove
  dsimp only
  by_cases h1 : op = 11
  · subst h1
    rw [if_pos (show n32 11 = 11 from rfl), if_pos (Or.inl rfl)]
    exact rx_pair hfu L hA h45 hp v
  rw [if_neg (op_ne (k := 11) h45 (by decide) h1)]
  by_cases h2 : op = 14
  · subst h2
    rw [if_pos (show n32 14 = 14 from rfl), if_pos (Or.inr rfl)]
    exact rx_pair hfu L hA h45 hp v
  rw [if_neg (op_ne (k := 14) h45 (by decide) h2), if_neg (fun z => z.elim h1 h2)]
  refine rw_bind (rx_popSl hfu L v n6_0) (fun S1 r v1 he hs => ?_)
  dsimp only
  unfold jb_X12_shuffle_164 jb_X12_shuffle_176 jb_X12_shuffle_199 jb_X12_shuffle_216
  by_cases h3 : op = 12
  · subst h3
    rw [if_neg (by decide), if_neg (by decide), if_pos (show n32 12 = 12 from rfl), if_pos rfl]
    refine rv_bind (rx_pushR L hm (by decide) v1 he hs) (fun S2 v2 => ?_)
    rw [if_pos (show n32 12 = 12 from rfl)]
    refine rv_bind (rx_pushR L hm (by decide) v2 (fun z => he (z_push z)) hs) (fun S3 v3 => ?_)
    rw [if_neg (by decide), if_neg (by decide), if_neg (by decide)]
    exact rv_k (rv_some v3) (by decide)
  rw [if_neg h3]
  by_cases h4 : op = 13
  · subst h4
    rw [if_pos (show n32 13 = 13 from rfl), if_pos rfl]
    refine rw_bind (rx_popSl hfu L v1 (n6_popC n6_0)) (fun S2 r2 v2 he2 hs2 => ?_)
    dsimp only
    rw [if_neg (by decide), if_neg (by decide), if_pos (show n32 13 = 13 from rfl)]
    refine rv_bind (rx_pushR L hm (by decide) v2 (fun z => he (z_popC z)) hs) (fun S3 v3 => ?_)
    rw [if_pos (show n32 13 = 13 from rfl)]
    refine rv_bind (rx_pushR L hm (by decide) v3 (fun z => he2 (z_push z)) hs2) (fun S4 v4 => ?_)
    rw [if_pos (show n32 13 = 13 from rfl)]
    exact rv_k (rv_id (rx_pushR L hm (by decide) v4 (fun z => he (z_popC (z_push (z_push z)))) hs)) (by decide)
  rw [if_neg (op_ne (k := 13) h45 (by decide) h4), if_neg h4]
  by_cases h5 : op = 15
  · subst h5
    rw [if_pos (show n32 15 = 15 from rfl), if_pos rfl]
    refine rw_bind (rx_popSl hfu L v1 (n6_popC n6_0)) (fun S2 r2 v2 he2 hs2 => ?_)
    dsimp only
    rw [if_neg (by decide), if_neg (by decide), if_neg (by decide), if_pos (show n32 15 = 15 from rfl)]
    refine rv_bind (rx_pushR L hm (by decide) v2 (fun z => he (z_popC z)) hs) (fun S3 v3 => ?_)
    rw [if_neg (by decide), if_pos (show n32 15 = 15 from rfl)]
    refine rv_bind (rx_pushR L hm (by decide) v3 (fun z => he2 (z_push z)) hs2) (fun S4 v4 => ?_)
    rw [if_neg (by decide)]
    exact rv_k (rv_some v4) (by decide)
  rw [if_neg (op_ne (k := 15) h45 (by decide) h5), if_neg h5, if_neg (op_ne (k := 12) h45 (by decide) h3), if_neg (op_ne (k := 12) h45 (by decide) h3), if_neg (op_ne (k := 13) h45 (by decide) h4), if_neg (op_ne (k := 15) h45 (by decide) h5), if_neg (op_ne (k := 13) h45 (by decide) h4), if_neg (op_ne (k := 15) h45 (by decide) h5), if_neg (op_ne (k := 13) h45 (by decide) h4)]
  exact rv_k (rv_some v1) (by decide)
end RJ
