theorem prL_congr {l l' : Nat → Int32} (h : PrL l) (e : ∀ q, q < 12 → l' q = l q) : PrL l' := by
  intro i hi
  have hp := h i hi
  constructor
  · intro z
    rw [e i hi] at z
    have := hp.1 z
    exact ⟨this.1, by rw [e _ this.1]; exact this.2⟩
  · intro z
    rw [e i hi] at z
    have := hp.2 z
    exact ⟨this.1, by rw [e _ (by omega)]; exact this.2⟩
theorem pr_rep {s : Nat → Int32} {h : Nat} {w v : Int32} (hp : PrS s h) (w8 : w ≠ 8) (w3 : w ≠ -3) (v8 : v ≠ 8) (v3 : v ≠ -3) : PrS (rep w v s) h := by
  have k : ∀ j (q : Int32), q ≠ w → s j = q → rep w v s j = q := fun j q hq e => by
    unfold rep
    rw [if_neg (fun z => hq (e.symm.trans z))]; exact e
  have k2 : ∀ j (q : Int32), q ≠ v → rep w v s j = q → s j = q := fun j q hq e => by
    unfold rep at e
    split at e
    · exact absurd e.symm hq
    · exact e
  intro i hi
  have hpi := hp i hi
  constructor
  · intro z
    have := hpi.1 (k2 i 8 (Ne.symm v8) z)
    exact ⟨this.1, k _ _ (Ne.symm w3) this.2⟩
  · intro z
    have := hpi.2 (k2 i (-3) (Ne.symm v3) z)
    exact ⟨this.1, k _ _ (Ne.symm w8) this.2⟩
theorem prL_S {l : Nat → Int32} : PrL l ↔ PrS l 12 := Iff.rfl
theorem prS_pop {s : Nat → Int32} {h : Nat} (hp : PrS s h) (h0 : 0 < h) (n3 : s (h - 1) ≠ -3) : PrS s (h - 1) := by
  intro i hi
  have := hp i (by omega)
  refine ⟨fun z => ?_, this.2⟩
  have k := this.1 z
  by_cases e : i + 1 = h - 1
  · exact absurd (by rw [← e]; exact k.2) n3
  · exact ⟨by omega, k.2⟩
theorem prS_pop2 {s : Nat → Int32} {h : Nat} (hp : PrS s h) (h0 : 1 < h) (n3 : s (h - 2) ≠ -3) : PrS s (h - 2) := by
  intro i hi
  have := hp i (by omega)
  refine ⟨fun z => ?_, this.2⟩
  have k := this.1 z
  by_cases e : i + 1 = h - 2
  · exact absurd (by rw [← e]; exact k.2) n3
  · exact ⟨by omega, k.2⟩
theorem prS_push {s : Nat → Int32} {h : Nat} {v : Int32} (hp : PrS s h) (v8 : v ≠ 8) (v3 : v ≠ -3) : PrS (up1 s h v) (h + 1) := by
  intro i hi
  by_cases e : i = h
  · rw [e, up1_s]
    exact ⟨fun z => absurd z v8, fun z => absurd z v3⟩
  · have := hp i (by omega)
    rw [up1_n _ _ e]
    refine ⟨fun z => ?_, fun z => ?_⟩
    · have k := this.1 z
      exact ⟨by omega, by rw [up1_n _ _ (by omega)]; exact k.2⟩
    · have k := this.2 z
      exact ⟨k.1, by rw [up1_n _ _ (by omega)]; exact k.2⟩
theorem prS_pushL {s : Nat → Int32} {h : Nat} (hp : PrS s h) : PrS (up1 (up1 s h 8) (h + 1) (-3)) (h + 1 + 1) := by
  have d : (-3 : Int32) ≠ 8 := by decide
  intro i hi
  by_cases e : i = h + 1
  · rw [e, up1_s]
    refine ⟨fun z => absurd z d, fun _ => ⟨by omega, ?_⟩⟩
    rw [show h + 1 - 1 = h by omega, up1_n _ _ (by omega), up1_s]
  · by_cases e2 : i = h
    · rw [e2, up1_n _ _ (by omega), up1_s]
      refine ⟨fun _ => ⟨by omega, by rw [up1_s]⟩, fun z => absurd z.symm d⟩
    · have := hp i (by omega)
      rw [up1_n _ _ e, up1_n _ _ e2]
      refine ⟨fun z => ?_, fun z => ?_⟩
      · have k := this.1 z
        exact ⟨by omega, by rw [up1_n _ _ (by omega), up1_n _ _ (by omega)]; exact k.2⟩
      · have k := this.2 z
        exact ⟨k.1, by rw [up1_n _ _ (by omega), up1_n _ _ (by omega)]; exact k.2⟩
theorem sto_3 {l : Nat → Int32} {n : Nat} (p0 : PrL l) (hn : n + 1 < 12) (q : Int32) : up1 (brk n l) n q (n + 1) ≠ -3 := by
  rw [up1_n _ _ (by omega)]
  rcases brk_c p0 (show n < 12 by omega) with ⟨c1, c2, c3, e⟩ | ⟨c1, c2, c3, e⟩ | ⟨c1, c2, e⟩
  · rw [e, up1_n _ _ (by omega)]
    intro z
    have := (p0 (n + 1) hn).2 z
    rw [show n + 1 - 1 = n by omega, c1] at this
    exact absurd this.2 (by decide)
  · rw [e, up1_s]; decide
  · rw [e]
    intro z
    have := (p0 (n + 1) hn).2 z
    rw [show n + 1 - 1 = n by omega] at this
    exact c2 this.2
theorem sto_2 {l : Nat → Int32} {n : Nat} (p0 : PrL l) (hn : n + 1 < 12) (q : Nat) : up1 (brk (n + 1) (up1 (brk n l) n 8)) (n + 1) (-3) q = up1 (up1 (up1 (brk (n + 1) (up1 (brk n l) n (-2))) (n + 1) (-2)) n 8) (n + 1) (-3) q := by
  have hb := sto_3 p0 hn
  have hbk : ∀ (q : Int32) j, j ≠ n → brk (n + 1) (up1 (brk n l) n q) j = (if brk n l (n + 1) = 8 ∧ n + 1 < 11 then up1 (brk n l) (n + 1 + 1) (-2) else brk n l) j := by
    intro q j hj
    rw [brk_2 (fun z => hb q z.1), up1_n (brk n l) (i := n) (j := n + 1) q (by omega)]
    split
    · by_cases e : j = n + 1 + 1
      · rw [e, up1_s, up1_s]
      · rw [up1_n _ _ e, up1_n _ _ e, up1_n _ _ hj]
    · exact up1_n _ _ hj
  by_cases q1 : q = n + 1
  · rw [q1, up1_s, up1_s]
  · rw [up1_n _ _ q1, up1_n _ _ q1]
    by_cases q2 : q = n
    · have e2 : brk (n + 1) (up1 (brk n l) n 8) n = 8 := by
        rw [brk_2 (fun z => hb 8 z.1)]
        split
        · rw [up1_n _ _ (by omega), up1_s]
        · rw [up1_s]
      rw [q2, up1_s, e2]
    · rw [up1_n _ _ q2, up1_n _ _ q1, hbk _ q q2, hbk _ q q2]
theorem pr_sto2 {l : Nat → Int32} {n : Nat} (p0 : PrL l) (hn : n + 1 < 12) : PrL (up1 (brk (n + 1) (up1 (brk n l) n 8)) (n + 1) (-3)) := by
  have p2 : PrL (up1 (brk (n + 1) (up1 (brk n l) n (-2))) (n + 1) (-2)) := pr_store (pr_store p0 (by omega) (by decide) (by decide)) hn (by decide) (by decide)
  have en : up1 (brk (n + 1) (up1 (brk n l) n (-2))) (n + 1) (-2) n = -2 := by
    rw [up1_n _ _ (by omega), brk_2 (fun z => sto_3 p0 hn (-2) z.1)]
    split
    · rw [up1_n _ _ (by omega), up1_s]
    · rw [up1_s]
  have en1 : up1 (brk (n + 1) (up1 (brk n l) n (-2))) (n + 1) (-2) (n + 1) = -2 := up1_s _ _ _
  refine prL_congr ?_ (fun q _ => sto_2 p0 hn q)
  generalize up1 (brk (n + 1) (up1 (brk n l) n (-2))) (n + 1) (-2) = g at p2 en en1
  have d : (-3 : Int32) ≠ 8 := by decide
  intro i hi
  by_cases e : i = n + 1
  · rw [e, up1_s]
    refine ⟨fun z => absurd z d, fun _ => ⟨by omega, ?_⟩⟩
    rw [show n + 1 - 1 = n by omega, up1_n _ _ (by omega), up1_s]
  · by_cases e2 : i = n
    · rw [e2, up1_n _ _ (by omega), up1_s]
      refine ⟨fun _ => ⟨hn, by rw [up1_s]⟩, fun z => absurd z.symm d⟩
    · have := p2 i hi
      rw [up1_n _ _ e, up1_n _ _ e2]
      refine ⟨fun z => ?_, fun z => ?_⟩
      · have k := this.1 z
        have m1 : i + 1 ≠ n := fun w => by rw [w, en] at k; exact absurd k.2 (by decide)
        have m2 : i + 1 ≠ n + 1 := by omega
        exact ⟨k.1, by rw [up1_n _ _ m2, up1_n _ _ m1]; exact k.2⟩
      · have k := this.2 z
        have m1 : i - 1 ≠ n := fun w => by rw [w, en] at k; exact absurd k.2 (by decide)
        have m2 : i - 1 ≠ n + 1 := fun w => by rw [w, en1] at k; exact absurd k.2 (by decide)
        exact ⟨k.1, by rw [up1_n _ _ m2, up1_n _ _ m1]; exact k.2⟩
theorem brk_top {l : Nat → Int32} {n j : Nat} (h : l j = -2) : brk n l j = -2 := by
  have k : ∀ l1 : Nat → Int32, l1 j = -2 → ∀ q, up1 l1 q (-2) j = -2 := fun l1 h1 q => by
    by_cases e : j = q
    · rw [e, up1_s]
    · rw [up1_n _ _ e]; exact h1
  by_cases c : l n = -3 ∧ 0 < n
  · rw [brk_1 c]
    split
    · exact k _ (k _ h _) _
    · exact k _ h _
  · rw [brk_2 c]
    split
    · exact k _ h _
    · exact h
section WC
variable {A : Enw} {f : Fr} {y : Ms}
theorem wx_pop1 (h : WX A y.1) (h0 : y.2 = 0) (hh : 0 < y.1.2.2.1) (n3 : y.1.2.1 (y.1.2.2.1 - 1) ≠ -3) : WX A (aPop y).2.1 := by
  have w := wf_pop (y := y) h.1
  rw [aPop_1 h0 hh] at w ⊢
  have := h.2.2.2.1
  exact ⟨w.1, h.2.1, prS_pop h.2.2.1 hh n3, by show y.1.2.2.1 - 1 ≤ _; omega, h.2.2.2.2⟩
theorem pop_z (h : (aPop y).2.2 = 0) : y.2 = 0 ∧ 0 < y.1.2.2.1 := by
  have h0 := z_pop h
  refine ⟨h0, ?_⟩
  by_cases e : y.1.2.2.1 = 0
  · rw [aPop_0 h0 e] at h
    exact absurd h (by decide : ¬ (3 : Int32) = 0)
  · omega
theorem wx_popC {c : Int32 → Bool} (h8 : c 8 = false ∧ c (-3) = false) (h : y.2 = 0 → WX A y.1) : (aPopC c y).2.2 = 0 → WX A (aPopC c y).2.1 := by
  intro z
  have ok := aPopC_ok z
  have z1 : (aPop y).2.2 = 0 := z_req (by decide) z
  obtain ⟨h0, hh⟩ := pop_z z1
  have e : (aPopC c y).1 = y.1.2.1 (y.1.2.2.1 - 1) := by
    show (aPop y).1 = _
    rw [aPop_1 h0 hh]
  rw [e] at ok
  have e2 : (aPopC c y).2.1 = (aPop y).2.1 := lo_req
  rw [e2]
  exact wx_pop1 (h h0) h0 hh (c83 h8 ok).2
theorem push_ok {mx : Nat} {v : Int32} (h : y.2 = 0) (h1 : y.1.2.2.1 < mx) : aPush mx v y = ((y.1.1, up1 y.1.2.1 y.1.2.2.1 v, y.1.2.2.1 + 1, y.1.2.2.2), 0) := by
  unfold aPush
  rw [if_neg (fun q => q h), if_neg (by omega)]
theorem push_6 {mx : Nat} {v : Int32} (h : y.2 = 0) (h1 : mx ≤ y.1.2.2.1) : aPush mx v y = (y.1, 6) := by
  unfold aPush
  rw [if_neg (fun q => q h), if_pos h1]
theorem clo_wx (hA : EI A) : Clo A (fun y => y.2 = 0 → WX A y.1) := by
  have hm := hA.2.2.2.1
  have hl := hA.2.2.2.2.1
  have hd := hA.1
  have cR : ∀ c q y, q ≠ 0 → (y.2 = 0 → WX A y.1) → (aReq c q y).2 = 0 → WX A (aReq c q y).1 := fun c q y hq h z => by
    rw [lo_req]; exact h (z_req hq z)
  have cP : ∀ v y, (y.2 = 0 → svA A.1 v ∧ v ≠ 8 ∧ v ≠ -3) → (y.2 = 0 → WX A y.1) → (aPush (cmost A.2.2) v y).2 = 0 → WX A (aPush (cmost A.2.2) v y).1 := by
    intro v y hv h z
    have h0 := z_push z
    obtain ⟨v1, v8, v3⟩ := hv h0
    have hx := h h0
    have wf := wf_push hm v1 hx.1
    unfold aPush at z wf ⊢
    rw [if_neg (fun q => q h0)] at z wf ⊢
    by_cases c : cmost A.2.2 ≤ y.1.2.2.1
    · rw [if_pos c] at z
      exact absurd z (show ¬ (6 : Int32) = 0 by decide)
    · rw [if_neg c] at wf ⊢
      exact ⟨wf, hx.2.1, prS_push hx.2.2.1 v8 v3, by show y.1.2.2.1 + 1 ≤ _; omega, hx.2.2.2.2⟩
  have cPT : ∀ v y, svA A.1 v → v ≠ -3 → (y.2 = 0 → WX A y.1) → (aPushT (cmost A.2.2) v y).2 = 0 → WX A (aPushT (cmost A.2.2) v y).1 := by
    intro v y hv v3 h
    unfold aPushT
    by_cases c : v = 8
    · rw [if_pos c]
      intro z
      have z1 := z_push z
      have h0 := z_push z1
      have hx := h h0
      have wf := wf_push hm (sv_high (d := A.1)) (wf_push (y := y) hm hv hx.1)
      rw [c] at z z1 wf ⊢
      have c1 : y.1.2.2.1 < cmost A.2.2 := by
        rcases Nat.lt_or_ge y.1.2.2.1 (cmost A.2.2) with q | q
        · exact q
        · rw [push_6 h0 q] at z1
          exact absurd z1 (show ¬ (6 : Int32) = 0 by decide)
      rw [push_ok h0 c1] at z wf ⊢
      have c2 : y.1.2.2.1 + 1 < cmost A.2.2 := by
        rcases Nat.lt_or_ge (y.1.2.2.1 + 1) (cmost A.2.2) with q | q
        · exact q
        · rw [push_6 rfl q] at z
          exact absurd z (show ¬ (6 : Int32) = 0 by decide)
      rw [push_ok rfl c2] at wf ⊢
      exact ⟨wf, hx.2.1, prS_pushL hx.2.2.1, by show y.1.2.2.1 + 1 + 1 ≤ _; omega, hx.2.2.2.2⟩
    · rw [if_neg c]
      exact cP v y (fun _ => ⟨hv, c, v3⟩) h
  refine ⟨cR, ?_, fun c y h8 h3 h => wx_popC ⟨h8, h3⟩ h, cP, cPT, ?_, ?_, ?_, ?_, ?_⟩
  · intro n y hn h
    have h160 := isT_lt hd hn
    by_cases c : n = 8
    · subst c
      show (aPopT A.1 8 y).2 = 0 → WX A (aPopT A.1 8 y).1
      unfold aPopT
      rw [if_pos rfl]
      intro z
      have ok := aReq_c (by decide) z
      have z1 := z_req (by decide) z
      rw [lo_req]
      obtain ⟨h1, hh1⟩ := pop_z z1
      obtain ⟨h0, hh0⟩ := pop_z h1
      rw [aPop_1 h0 hh0] at hh1
      have hh : 1 < y.1.2.2.1 := by have : 0 < y.1.2.2.1 - 1 := hh1; omega
      have hx := h h0
      rw [aPop_2 h0 hh] at ok ⊢
      rw [Bool.and_eq_true, beq_iff_eq] at ok
      have o1 : y.1.2.1 (y.1.2.2.1 - 2) = 8 := ok.1
      have w := wf_pop (y := (aPop y).2) (wf_pop (y := y) hx.1).1
      rw [aPop_2 h0 hh] at w
      exact ⟨w.1, hx.2.1, prS_pop2 hx.2.2.1 hh (by rw [o1]; decide), by show y.1.2.2.1 - 2 ≤ _; have := hx.2.2.2.1; omega, hx.2.2.2.2⟩
    · show (aPopT A.1 (n32 n) y).2 = 0 → WX A (aPopT A.1 (n32 n) y).1
      rw [aPopT_1 (n32_83 (by omega) c).1]
      exact wx_popC (fits_83 (by omega) c) h
  · intro n v y hn hv h z
    have h0 : y.2 = 0 := z
    obtain ⟨v1, v8, v3⟩ := hv h0
    have hx := h h0
    refine ⟨wf_store v1 hx.1, pr_store hx.2.1 (by omega) v8 v3, hx.2.2.1, hx.2.2.2.1, fun j hj hj2 => ?_⟩
    show up1 (brk n y.1.1) n v j = -2
    rw [up1_n _ _ (by omega)]
    exact brk_top (hx.2.2.2.2 j hj hj2)
  · intro n y hn h z
    have h0 : y.2 = 0 := z
    have hx := h h0
    refine ⟨wf_store sv_high (wf_store (sv_8 hd) hx.1), pr_sto2 hx.2.1 (by omega), hx.2.2.1, hx.2.2.2.1, fun j hj hj2 => ?_⟩
    show up1 (brk (n + 1) (up1 (brk n y.1.1) n 8)) (n + 1) (-3) j = -2
    rw [up1_n _ _ (by omega)]
    refine brk_top ?_
    rw [up1_n _ _ (by omega)]
    exact brk_top (hx.2.2.2.2 j hj hj2)
  · intro op y h
    unfold aPair
    dsimp only
    have hz : (aReq ((aPop (aPop y).2).1 == 8 || (whole (aPop (aPop y).2).1 && whole (aPop y).1)) 4 (aPop (aPop y).2).2).2 = 0 → WX A (aReq ((aPop (aPop y).2).1 == 8 || (whole (aPop (aPop y).2).1 && whole (aPop y).1)) 4 (aPop (aPop y).2).2).1 ∧ svA A.1 (aPop y).1 ∧ svA A.1 (aPop (aPop y).2).1 ∧ (((aPop (aPop y).2).1 = 8 ∧ (aPop y).1 = -3) ∨ (((aPop (aPop y).2).1 ≠ 8 ∧ (aPop (aPop y).2).1 ≠ -3) ∧ ((aPop y).1 ≠ 8 ∧ (aPop y).1 ≠ -3))) := by
      intro z
      have ok := aReq_c (by decide) z
      have z1 := z_req (by decide) z
      rw [lo_req]
      obtain ⟨h1, hh1⟩ := pop_z z1
      obtain ⟨h0, hh0⟩ := pop_z h1
      rw [aPop_1 h0 hh0] at hh1
      have hh : 1 < y.1.2.2.1 := by have : 0 < y.1.2.2.1 - 1 := hh1; omega
      have hx := h h0
      have w1 := wf_pop (y := y) hx.1
      have w2 := wf_pop (y := (aPop y).2) w1.1
      have e1 : (aPop y).1 = y.1.2.1 (y.1.2.2.1 - 1) := by rw [aPop_1 h0 hh0]
      have e2 : (aPop (aPop y).2).1 = y.1.2.1 (y.1.2.2.1 - 2) := by rw [aPop_2 h0 hh]
      have p2 := hx.2.2.1 (y.1.2.2.1 - 2) (by omega)
      rw [show y.1.2.2.1 - 2 + 1 = y.1.2.2.1 - 1 by omega] at p2
      have hcase : ((aPop (aPop y).2).1 = 8 ∧ (aPop y).1 = -3) ∨ (((aPop (aPop y).2).1 ≠ 8 ∧ (aPop (aPop y).2).1 ≠ -3) ∧ ((aPop y).1 ≠ 8 ∧ (aPop y).1 ≠ -3)) := by
        rw [Bool.or_eq_true, beq_iff_eq, Bool.and_eq_true] at ok
        rcases ok with ok | ok
        · refine Or.inl ⟨ok, ?_⟩
          rw [e1]
          exact (p2.1 (e2.symm.trans ok)).2
        · exact Or.inr ⟨c83 who_83 ok.1, c83 who_83 ok.2⟩
      refine ⟨?_, w1.2, w2.2, hcase⟩
      have n3 : y.1.2.1 (y.1.2.2.1 - 2) ≠ -3 := by
        rw [← e2]
        rcases hcase with c | c
        · rw [c.1]; decide
        · exact c.1.2
      have w3 := w2.1
      rw [aPop_2 h0 hh] at w3 ⊢
      exact ⟨w3, hx.2.1, prS_pop2 hx.2.2.1 hh n3, by show y.1.2.2.1 - 2 ≤ _; have := hx.2.2.2.1; omega, hx.2.2.2.2⟩
    generalize aReq ((aPop (aPop y).2).1 == 8 || (whole (aPop (aPop y).2).1 && whole (aPop y).1)) 4 (aPop (aPop y).2).2 = w at hz ⊢
    generalize (aPop y).1 = u at hz ⊢
    generalize (aPop (aPop y).2).1 = l at hz ⊢
    by_cases c : op = 14
    · rw [if_pos c]
      intro z
      have z1 := z_push z
      have z2 := z_push z1
      have z3 := z_push z2
      have hw0 := z_push z3
      obtain ⟨hx, su, sl, hc⟩ := hz hw0
      rcases hc with ⟨c1, c2⟩ | ⟨c1, c2⟩
      · subst c1; subst c2
        have q1 := cPT 8 w (sv_8 hd) (by decide) (fun _ => hx)
        have q2 := cPT 8 (aPushT (cmost A.2.2) 8 w) (sv_8 hd) (by decide) q1
        unfold aPushT at q2
        rw [if_pos rfl, if_pos rfl] at q2
        exact q2 z
      · exact cP _ _ (fun _ => ⟨su, c2⟩) (cP _ _ (fun _ => ⟨sl, c1⟩) (cP _ _ (fun _ => ⟨su, c2⟩) (cP _ _ (fun _ => ⟨sl, c1⟩) (fun _ => hx)))) z
    · rw [if_neg c]
      exact fun z => (hz z).1
  · intro w v b y h0 w8 w3 w2 sv v8 v3 h z
    have hx := h h0
    refine ⟨⟨sv_rep hx.1.1 sv, sv_rep hx.1.2.1 sv, hx.1.2.2⟩, prL_S.mpr (pr_rep (prL_S.mp hx.2.1) w8 w3 v8 v3), pr_rep hx.2.2.1 w8 w3 v8 v3, hx.2.2.2.1, fun j hj hj2 => ?_⟩
    show rep w v y.1.1 j = -2
    unfold rep
    rw [hx.2.2.2.2 j hj hj2, if_neg (Ne.symm w2)]
  · intro w y w8 w3 w2 h z
    have hx := h z
    refine ⟨⟨sv_rep hx.1.1 sv_top, hx.1.2⟩, prL_S.mpr (pr_rep (prL_S.mp hx.2.1) w8 w3 (by decide) (by decide)), hx.2.2.1, hx.2.2.2.1, fun j hj hj2 => ?_⟩
    show rep w (-2) y.1.1 j = -2
    unfold rep
    rw [hx.2.2.2.2 j hj hj2, if_neg (Ne.symm w2)]
theorem wx_exec {i : Nat} (hA : EI A) (hs : cst A.2.2 = true) (hi : i < cn A.2.2) (hx : okX A (cop A.2.2 i) (cx A.2.2 i)) (hf : WX A f) : (aExec A i f).2 = 0 → WX A (aExec A i f).1 := exec_ind (P := fun y => y.2 = 0 → WX A y.1) hA hs hi hx hf.1 (clo_wx hA) (fun _ => hf)
end WC
