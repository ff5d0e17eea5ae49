def rkN (n : Nat) : Nat := 1 + 25 * lev n + (if n / 8 < 2 then 21 else n / 8)
def rnk (v : Int32) : Nat := if v = -2 then 0 else if v = -1 then 200 else if rfV v = true then rkN v.toNatClampNeg else 1
theorem ccF_le {d : Dcl} (hd : DI d) : ∀ (f a b : Nat), 2 ≤ a → a < d.1 → 2 ≤ ccF d f a b ∧ ccF d f a b ≤ a := by
  intro f
  induction f with
  | zero => intro a b h _; exact ⟨Nat.le_refl _, h⟩
  | succ f ih =>
    intro a b h2 ha
    show 2 ≤ (if anc d a b = true then a else if a ≤ 2 then 2 else ccF d f (d.2.1 a) b) ∧ (if anc d a b = true then a else if a ≤ 2 then 2 else ccF d f (d.2.1 a) b) ≤ a
    split
    · omega
    · split
      · omega
      · rename_i _ q
        have := hd.2.2.1 a (by omega) ha
        have k := ih (d.2.1 a) b this.1 (by omega)
        omega
theorem cc_le {d : Dcl} (hd : DI d) {a b : Nat} (h2 : 2 ≤ a) (ha : a < d.1) : 2 ≤ cc d a b ∧ cc d a b ≤ a := by
  unfold cc
  split
  · exact ccF_le hd 20 a b h2 ha
  · omega
theorem rk_jn {d : Dcl} (hd : DI d) {n r : Nat} (hn : isT d n = true) (hr : isT d r = true) (rn : rfN n = true) : rkN (jnN d n r) ≤ rkN n ∧ (jnN d n r ≠ n → rkN (jnN d n r) < rkN n) := by
  have h1 := isT_iff.mp hn
  have h2 := isT_iff.mp hr
  have h20 := hd.2.1
  have rn' : n ≠ 0 ∧ n ≠ 8 := by
    unfold rfN at rn
    simpa using rn
  have k1 : min (lev n) (lev r) ≤ lev n := Nat.min_le_left _ _
  unfold jnN
  dsimp only
  generalize min (lev n) (lev r) = k at k1
  have l1 := lev_le n
  have hl : lev n = if n / 8 < 2 ∧ 0 < n % 8 then n % 8 - 1 else n % 8 := rfl
  by_cases c : (n - k) % 8 = 0 ∧ (r - k) % 8 = 0
  · rw [if_pos c]
    have hb : 2 ≤ n / 8 := by
      by_cases q : n / 8 < 2 ∧ 0 < n % 8
      · rw [if_pos q] at hl; omega
      · omega
    have e1 : (n - k) / 8 = n / 8 := by omega
    have e2 : n % 8 = k := by omega
    have hc := cc_le hd (b := (r - k) / 8) hb h1.1
    rw [e1]
    generalize cc d (n / 8) ((r - k) / 8) = q at hc
    have e3 : (8 * q + k) / 8 = q := by omega
    have e4 : lev (8 * q + k) = k := by
      unfold lev
      rw [e3, if_neg (by omega)]; omega
    have e5 : lev n = k := by rw [hl, if_neg (by omega)]; exact e2
    unfold rkN
    rw [e4, e5, e3, if_neg (show ¬ q < 2 by omega), if_neg (show ¬ n / 8 < 2 by omega)]
    refine ⟨by omega, fun z => ?_⟩
    have : q ≠ n / 8 := fun e => z (by omega)
    omega
  · rw [if_neg c]
    have e3 : (16 + k) / 8 = 2 := by omega
    have e4 : lev (16 + k) = k := by
      unfold lev
      rw [e3, if_neg (by omega)]; omega
    unfold rkN
    rw [e4, e3, if_neg (show ¬ 2 < 2 by omega)]
    by_cases q : n / 8 < 2
    · rw [if_pos q]
      omega
    · rw [if_neg q]
      rw [if_neg (show ¬ (n / 8 < 2 ∧ 0 < n % 8) by omega)] at hl
      refine ⟨by omega, fun z => ?_⟩
      by_cases w : lev n = k
      · have : n / 8 ≠ 2 := fun e => z (by omega)
        omega
      · omega
theorem jn_lt {d : Dcl} (hd : DI d) {n r : Nat} (hn : isT d n = true) (hr : isT d r = true) (rn : rfN n = true) (rr : rfN r = true) : rfV (n32 (jnN d n r)) = true ∧ jnN d n r < 160 := by
  have h1 := isT_iff.mp hn
  have h20 := hd.2.1
  have rn' : n ≠ 0 ∧ n ≠ 8 := by
    unfold rfN at rn
    simpa using rn
  have k1 : min (lev n) (lev r) ≤ lev n := Nat.min_le_left _ _
  have l1 := lev_le n
  have hl : lev n = if n / 8 < 2 ∧ 0 < n % 8 then n % 8 - 1 else n % 8 := rfl
  have key : 16 ≤ jnN d n r ∧ jnN d n r < 160 := by
    unfold jnN
    dsimp only
    generalize min (lev n) (lev r) = k at k1
    by_cases c : (n - k) % 8 = 0 ∧ (r - k) % 8 = 0
    · rw [if_pos c]
      have hb : 2 ≤ n / 8 := by
        by_cases q : n / 8 < 2 ∧ 0 < n % 8
        · rw [if_pos q] at hl; omega
        · omega
      have e1 : (n - k) / 8 = n / 8 := by omega
      rw [e1]
      have hc := cc_le hd (b := (r - k) / 8) hb h1.1
      omega
    · rw [if_neg c]
      omega
  refine ⟨?_, key.2⟩
  rw [rfV_n (by omega)]
  unfold rfN
  have : jnN d n r ≠ 0 ∧ jnN d n r ≠ 8 := by omega
  simpa using this
theorem rnk_n {n : Nat} (h : n < 160) (r : rfV (n32 n) = true) : rnk (n32 n) = rkN n := by
  unfold rnk
  rw [if_neg (of_eq_false (z_ne2 (by omega))), if_neg (of_eq_false (z_ne1 (by omega))), if_pos r, z_nat (by omega)]
theorem rkN_le {n : Nat} (h : n < 160) : 1 ≤ rkN n ∧ rkN n < 200 + (if n % 8 ≤ 4 then 0 else 100) := by
  unfold rkN
  have := lev_le n
  split <;> split <;> omega
theorem rnk_le {d : Dcl} (hd : DI d) {v : Int32} (hv : svA d v) : rnk v ≤ 200 := by
  by_cases c : v = -1
  · rw [c]; decide
  · by_cases r : rfV v = true
    · obtain ⟨n, rfl, hn, rn, n160⟩ := sv_rf hd hv r c
      rw [rnk_n n160 r]
      have := rkN_le n160
      have h1 := isT_iff.mp hn
      rw [if_pos h1.2] at this
      omega
    · unfold rnk
      rw [if_neg c, if_neg r]
      split <;> decide
theorem rnk_pos {v : Int32} (h : v ≠ -2) : 1 ≤ rnk v := by
  unfold rnk
  rw [if_neg h]
  split
  · decide
  · split
    · unfold rkN; omega
    · decide
theorem rnk_join {d : Dcl} (hd : DI d) {v w : Int32} (hv : svA d v) (hw : svA d w) : rnk (joinA d v w) ≤ rnk v ∧ (joinA d v w ≠ v → rnk (joinA d v w) < rnk v) := by
  unfold joinA
  by_cases e : v = w
  · rw [if_pos e]; exact ⟨Nat.le_refl _, fun z => absurd rfl z⟩
  · rw [if_neg e]
    by_cases c : rfV v = false ∨ rfV w = false
    · rw [if_pos c]
      have h0 : rnk (-2) = 0 := rfl
      rw [h0]
      exact ⟨Nat.zero_le _, fun z => rnk_pos (fun q => z q.symm)⟩
    · rw [if_neg c]
      have h1 : rfV v = true := by
        cases q : rfV v with
        | true => rfl
        | false => exact absurd (Or.inl q) c
      have h2 : rfV w = true := by
        cases q : rfV w with
        | true => rfl
        | false => exact absurd (Or.inr q) c
      by_cases c3 : v = -1
      · rw [if_pos c3]
        have c4 : w ≠ -1 := fun z => e (c3.trans z.symm)
        obtain ⟨r, rfl, hr, rr, r160⟩ := sv_rf hd hw h2 c4
        rw [rnk_n r160 h2, c3]
        have := rkN_le r160
        have h1 := isT_iff.mp hr
        rw [if_pos h1.2] at this
        have h0 : rnk (-1) = 200 := rfl
        omega
      · rw [if_neg c3]
        by_cases c4 : w = -1
        · rw [if_pos c4]; exact ⟨Nat.le_refl _, fun z => absurd rfl z⟩
        · rw [if_neg c4]
          obtain ⟨n, rfl, hn, rn, n160⟩ := sv_rf hd hv h1 c3
          obtain ⟨r, rfl, hr, rr, r160⟩ := sv_rf hd hw h2 c4
          rw [z_nat (by omega), z_nat (by omega)]
          have hj := jn_lt hd hn hr rn rr
          have hk := rk_jn hd hn hr rn
          rw [rnk_n hj.2 hj.1, rnk_n n160 h1]
          exact ⟨hk.1, fun z => hk.2 (fun q => z (by rw [q]))⟩
def sumN (f : Nat → Nat) : Nat → Nat
  | 0 => 0
  | k + 1 => sumN f k + f k
theorem sumN_le {f g : Nat → Nat} : ∀ k, (∀ i, i < k → f i ≤ g i) → sumN f k ≤ sumN g k
  | 0, _ => Nat.le_refl _
  | k + 1, h => Nat.add_le_add (sumN_le k (fun i hi => h i (by omega))) (h k (by omega))
theorem sumN_lt {f g : Nat → Nat} {t : Nat} : ∀ k, (∀ i, i < k → f i ≤ g i) → t < k → f t < g t → sumN f k < sumN g k
  | 0, _, h, _ => absurd h (Nat.not_lt_zero t)
  | k + 1, h, ht, hl => by
    show sumN f k + f k < sumN g k + g k
    have h1 := sumN_le k (fun i hi => h i (by omega))
    have h2 := h k (by omega)
    by_cases e : t = k
    · subst e; omega
    · have := sumN_lt k (fun i hi => h i (by omega)) (by omega) hl
      omega
theorem sumN_bd {f : Nat → Nat} {c : Nat} : ∀ k, (∀ i, i < k → f i ≤ c) → sumN f k ≤ c * k
  | 0, _ => Nat.zero_le _
  | k + 1, h => by
    show sumN f k + f k ≤ c * (k + 1)
    have h1 := sumN_bd k (fun i hi => h i (by omega))
    have h2 := h k (by omega)
    rw [Nat.mul_succ]
    omega
theorem sumN_congr {f g : Nat → Nat} : ∀ k, (∀ i, i < k → f i = g i) → sumN f k = sumN g k
  | 0, _ => rfl
  | k + 1, h => by
    show sumN f k + f k = sumN g k + g k
    rw [sumN_congr k (fun i hi => h i (by omega)), h k (by omega)]
theorem sumN_one {f g : Nat → Nat} {t : Nat} : ∀ k, (∀ i, i ≠ t → f i = g i) → t < k → sumN f k + g t = sumN g k + f t
  | 0, _, h => absurd h (Nat.not_lt_zero t)
  | k + 1, h, ht => by
    show sumN f k + f k + g t = sumN g k + g k + f t
    by_cases e : t = k
    · subst e
      rw [sumN_congr t (fun i hi => h i (by omega))]
      omega
    · have := sumN_one k h (show t < k by omega)
      have := h k (fun z => e z.symm)
      omega
def cF : Option Fr → Nat
  | none => 4802
  | some x => sumN (fun i => rnk (x.1 i)) 12 + sumN (fun i => rnk (x.2.1 i)) x.2.2.1 + (if x.2.2.2 = true then 0 else 1)
def pN (b : Bool) : Nat := if b = true then 1 else 0
def Phi (s : Ist) : Nat := sumN (fun i => pN (s.2 i)) 100 + sumN (fun i => cF (s.1 i)) 100
theorem cF_le {d : Dcl} (hd : DI d) {x : Fr} (hx : WFr d x) : cF (some x) ≤ 4801 := by
  have h1 := sumN_bd (f := fun i => rnk (x.1 i)) (c := 200) 12 (fun i hi => rnk_le hd (hx.1 i hi))
  have h2 := sumN_bd (f := fun i => rnk (x.2.1 i)) (c := 200) x.2.2.1 (fun i hi => rnk_le hd (hx.2.1 i hi))
  have h3 := hx.2.2
  show _ + _ + (if x.2.2.2 = true then 0 else 1) ≤ 4801
  split <;> omega
theorem neqF_ex {f g : Nat → Int32} : ∀ (k i : Nat), neqF f g i k = true → ∃ z, i ≤ z ∧ z < i + k ∧ f z ≠ g z
  | 0, _, h => by cases h
  | k + 1, i, h => by
    have h : ((f i != g i) || neqF f g (i + 1) k) = true := h
    rw [Bool.or_eq_true] at h
    rcases h with h | h
    · exact ⟨i, Nat.le_refl _, by omega, by simpa using h⟩
    · obtain ⟨z, h1, h2, h3⟩ := neqF_ex k (i + 1) h
      exact ⟨z, by omega, by omega, h3⟩
theorem cF_jn {d : Dcl} (hd : DI d) {x y : Fr} (hx : WFr d x) (hy : WFr d y) (hh : x.2.2.1 = y.2.2.1) : cF (some (jnF d x y)) + pN (mrgCh d x y) ≤ cF (some x) := by
  have hy2 : ∀ i, i < x.2.2.1 → svA d (y.2.1 i) := by rw [hh]; exact hy.2.1
  have l1 : sumN (fun i => rnk (joinA d (x.1 i) (y.1 i))) 12 ≤ sumN (fun i => rnk (x.1 i)) 12 := sumN_le 12 (fun i hi => (rnk_join hd (hx.1 i hi) (hy.1 i hi)).1)
  have l2 : sumN (fun i => rnk (joinA d (x.2.1 i) (y.2.1 i))) x.2.2.1 ≤ sumN (fun i => rnk (x.2.1 i)) x.2.2.1 := sumN_le _ (fun i hi => (rnk_join hd (hx.2.1 i hi) (hy2 i hi)).1)
  show sumN (fun i => rnk (joinA d (x.1 i) (y.1 i))) 12 + sumN (fun i => rnk (joinA d (x.2.1 i) (y.2.1 i))) x.2.2.1 + (if (x.2.2.2 || y.2.2.2) = true then 0 else 1) + pN (mrgCh d x y) ≤ sumN (fun i => rnk (x.1 i)) 12 + sumN (fun i => rnk (x.2.1 i)) x.2.2.1 + (if x.2.2.2 = true then 0 else 1)
  have l3 : (if (x.2.2.2 || y.2.2.2) = true then 0 else 1) ≤ (if x.2.2.2 = true then 0 else 1) := by cases x.2.2.2 <;> cases y.2.2.2 <;> decide
  unfold mrgCh
  cases c1 : (y.2.2.2 && !x.2.2.2) with
  | true =>
    have : x.2.2.2 = false ∧ y.2.2.2 = true := by
      rw [Bool.and_eq_true] at c1
      exact ⟨by simpa using c1.2, c1.1⟩
    rw [this.1, this.2]
    show _ + _ + 0 + 1 ≤ _ + _ + 1
    omega
  | false =>
    cases c2 : chJ d x.2.1 y.2.1 0 x.2.2.1 with
    | true =>
      rw [chJ_n] at c2
      obtain ⟨z, _, hz, ne⟩ := neqF_ex _ _ c2
      rw [Nat.zero_add] at hz
      have l4 : sumN (fun i => rnk (joinA d (x.2.1 i) (y.2.1 i))) x.2.2.1 < sumN (fun i => rnk (x.2.1 i)) x.2.2.1 := sumN_lt (t := z) _ (fun i hi => (rnk_join hd (hx.2.1 i hi) (hy2 i hi)).1) hz ((rnk_join hd (hx.2.1 z hz) (hy2 z hz)).2 ne)
      show _ + _ + _ + 1 ≤ _
      omega
    | false =>
      cases c3 : chJ d x.1 y.1 0 12 with
      | true =>
        rw [chJ_n] at c3
        obtain ⟨z, _, hz, ne⟩ := neqF_ex _ _ c3
        rw [Nat.zero_add] at hz
        have l4 : sumN (fun i => rnk (joinA d (x.1 i) (y.1 i))) 12 < sumN (fun i => rnk (x.1 i)) 12 := sumN_lt (t := z) _ (fun i hi => (rnk_join hd (hx.1 i hi) (hy.1 i hi)).1) hz ((rnk_join hd (hx.1 z hz) (hy.1 z hz)).2 ne)
        show _ + _ + _ + 1 ≤ _
        omega
      | false =>
        show _ + _ + _ + 0 ≤ _
        omega
def PdOk (s : Ist) : Prop := ∀ i, i < 100 → s.2 i = true → (s.1 i).isSome = true
def InvI (A : Enw) (s : Ist) (B : Nat) : Prop := TWX A s.1 ∧ PdOk s ∧ Phi s ≤ B
theorem phi_up {s s' : Ist} {t : Nat} (ht : t < 100) (h1 : ∀ i, i ≠ t → s'.1 i = s.1 i) (h2 : ∀ i, i ≠ t → s'.2 i = s.2 i) : Phi s' + (pN (s.2 t) + cF (s.1 t)) = Phi s + (pN (s'.2 t) + cF (s'.1 t)) := by
  have e1 := sumN_one (f := fun i => pN (s'.2 i)) (g := fun i => pN (s.2 i)) (t := t) 100 (fun i hi => by show pN _ = pN _; rw [h2 i hi]) ht
  have e2 := sumN_one (f := fun i => cF (s'.1 i)) (g := fun i => cF (s.1 i)) (t := t) 100 (fun i hi => by show cF _ = cF _; rw [h1 i hi]) ht
  unfold Phi
  omega
theorem pN_le (b : Bool) : pN b ≤ 1 := by cases b <;> decide
theorem pN_or (a b : Bool) : pN (a || b) ≤ pN a + pN b := by cases a <;> cases b <;> decide
theorem inv_flow {A : Enw} (hd : DI A.1) {y : Fr} {t : Nat} {s s' : Ist} {B : Nat} (h : InvI A s B) (wy : WX A y) (ht : t < 100) (e : aFlow A.1 y t s = some s') : InvI A s' B := by
  refine ⟨aFlow_wx hd h.1 wy ht e, ?_, ?_⟩
  · intro i hi hp
    unfold aFlow at e
    cases htb : s.1 t with
    | none =>
      rw [htb] at e
      have e : some (upT s.1 t y, upB s.2 t true) = some s' := e
      cases e
      show (upT s.1 t y i).isSome = true
      unfold upT
      by_cases c : i = t
      · rw [if_pos c]; rfl
      · rw [if_neg c]
        refine h.2.1 i hi ?_
        have hp : upB s.2 t true i = true := hp
        unfold upB at hp
        rw [if_neg c] at hp
        exact hp
    | some z =>
      rw [htb] at e
      have e : (if mrgOk A.1 z y = true then some (upT s.1 t (jnF A.1 z y), upB s.2 t (s.2 t || mrgCh A.1 z y)) else none) = some s' := e
      by_cases ok : mrgOk A.1 z y = true
      · rw [if_pos ok] at e
        cases e
        show (upT s.1 t (jnF A.1 z y) i).isSome = true
        unfold upT
        by_cases c : i = t
        · rw [if_pos c]; rfl
        · rw [if_neg c]
          refine h.2.1 i hi ?_
          have hp : upB s.2 t (s.2 t || mrgCh A.1 z y) i = true := hp
          unfold upB at hp
          rw [if_neg c] at hp
          exact hp
      · rw [if_neg ok] at e; cases e
  · refine Nat.le_trans ?_ h.2.2
    unfold aFlow at e
    cases htb : s.1 t with
    | none =>
      rw [htb] at e
      have e : some (upT s.1 t y, upB s.2 t true) = some s' := e
      cases e
      have p := phi_up (s := s) (s' := (upT s.1 t y, upB s.2 t true)) ht (fun i hi => if_neg hi) (fun i hi => if_neg hi)
      have q1 : upT s.1 t y t = some y := if_pos rfl
      have q2 : upB s.2 t true t = true := if_pos rfl
      dsimp only at p
      rw [htb, q1, q2, show cF none = 4802 from rfl, show pN true = 1 from rfl] at p
      have := cF_le hd wy.1
      omega
    | some z =>
      rw [htb] at e
      have e : (if mrgOk A.1 z y = true then some (upT s.1 t (jnF A.1 z y), upB s.2 t (s.2 t || mrgCh A.1 z y)) else none) = some s' := e
      by_cases ok : mrgOk A.1 z y = true
      · rw [if_pos ok] at e
        cases e
        have hh : z.2.2.1 = y.2.2.1 := by
          unfold mrgOk at ok
          rw [Bool.and_eq_true, decide_eq_true_eq] at ok
          exact ok.1
        have p := phi_up (s := s) (s' := (upT s.1 t (jnF A.1 z y), upB s.2 t (s.2 t || mrgCh A.1 z y))) ht (fun i hi => if_neg hi) (fun i hi => if_neg hi)
        have q1 : upT s.1 t (jnF A.1 z y) t = some (jnF A.1 z y) := if_pos rfl
        have q2 : upB s.2 t (s.2 t || mrgCh A.1 z y) t = (s.2 t || mrgCh A.1 z y) := if_pos rfl
        dsimp only at p
        rw [htb, q1, q2] at p
        have w1 := cF_jn hd (h.1 t z ht htb).1 wy.1 hh
        have w2 := pN_or (s.2 t) (mrgCh A.1 z y)
        omega
      · rw [if_neg ok] at e; cases e
theorem inv_flw {A : Enw} (hd : DI A.1) {y : Fr} {t : Nat} {s : Ist} {B : Nat} (h : InvI A s B) (wy : WX A y) (ht : t < 100) : InvI A (flw A.1 y t s).2 B := by
  unfold flw
  cases e : aFlow A.1 y t s with
  | none => exact h
  | some s' => exact inv_flow hd h wy ht e
theorem inv_hdI {A : Enw} (hA : EI A) (hG : Good A) {i : Nat} {f : Fr} (wf : WX A f) {B : Nat} : ∀ (k h : Nat) (s : Ist), h + k = chn A.2.2 → InvI A s B → InvI A (aHdI A i f h k s).2 B
  | 0, _, _, _, hs => hs
  | k + 1, h, s, hk, hs => by
    have hh : h < chn A.2.2 := by omega
    have h100 := hA.2.2.2.2.2.1
    have ht := hOk_tgt ((good_all hG).2.1 h hh)
    show InvI A (if prot A.2.2 h i = true then (if cmost A.2.2 = 0 then ((6 : Int32), s) else if (flw A.1 (cauF A.2.2 h f) (tgt A.2.2 h) s).1 = 0 then aHdI A i f (h + 1) k (flw A.1 (cauF A.2.2 h f) (tgt A.2.2 h) s).2 else (flw A.1 (cauF A.2.2 h f) (tgt A.2.2 h) s)) else aHdI A i f (h + 1) k s).2 B
    by_cases c1 : prot A.2.2 h i = true
    · rw [if_pos c1]
      by_cases c2 : cmost A.2.2 = 0
      · rw [if_pos c2]; exact hs
      · rw [if_neg c2]
        have := inv_flw hA.1 hs (wx_cau hA wf hh c2) (show tgt A.2.2 h < 100 by omega)
        by_cases c3 : (flw A.1 (cauF A.2.2 h f) (tgt A.2.2 h) s).1 = 0
        · rw [if_pos c3]; exact inv_hdI hA hG wf k (h + 1) _ (by omega) this
        · rw [if_neg c3]; exact this
    · rw [if_neg c1]; exact inv_hdI hA hG wf k (h + 1) s (by omega) hs
theorem inv_suI {A : Enw} (hA : EI A) (hG : Good A) {i : Nat} (hi : i < cn A.2.2) {f : Fr} (wf : WX A f) {B : Nat} {s : Ist} (hs : InvI A s B) : InvI A (aSuI A i f s).2 B := by
  have h100 := hA.2.2.2.2.2.1
  have k1 : InvI A (aS1 A i f s).2 B := by
    unfold aS1
    split
    · split
      · exact inv_flw hA.1 hs wf (by omega)
      · exact hs
    · exact hs
  unfold aSuI
  split
  · split
    · rename_i cj
      have := jmp_x hG hA hi cj
      exact inv_flw hA.1 k1 wf (by omega)
    · exact k1
  · exact k1
theorem inv_prI {A : Enw} (hA : EI A) (hs : cst A.2.2 = true) (hG : Good A) {i : Nat} (hi : i < cn A.2.2) {f : Fr} (wf : WX A f) {B : Nat} {s : Ist} (h : InvI A s B) : InvI A (aPrI A i f s).2 B := by
  have k := inv_hdI (i := i) hA hG wf (chn A.2.2) 0 s (by omega) h
  have hx := okX_of (hA.2.2.2.2.2.2.2.1 i hi) ((good_all hG).1 i hi)
  unfold aPrI
  split
  · split
    · rename_i c2
      exact inv_suI hA hG hi (wx_exec hA hs hi hx wf c2) k
    · exact k
  · exact k
