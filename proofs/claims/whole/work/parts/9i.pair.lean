/-! long values in pairs: class and reference test alike -/
/-- the class's test: k slots from i on, w: the one before begins a long -/
def pcF (l : Nat → Int32) : Nat → Nat → Bool → Bool
  | 0, _, w => !w
  | k + 1, i, w => (decide (l i = -3) == w) && pcF l k (i + 1) (decide (l i = 8))
/-- the reference's test -/
def rqF (l : Nat → Int32) (n : Nat) : Nat → Nat → Bool
  | 0, _ => true
  | k + 1, i => ((decide (l i = 8) == (decide (i + 1 < n) && decide (l (i + 1) = -3))) && (decide (0 < i) || !decide (l i = -3))) && rqF l n k (i + 1)
def PrB (l : Nat → Int32) (n : Nat) : Bool := pcF l n 0 false
theorem m3n8 : ¬ ((8 : Int32) = -3) := by decide
theorem pcF_iff {l : Nat → Int32} : ∀ (k i : Nat) (w : Bool), pcF l k i w = true ↔ (w = true → 0 < k ∧ l i = -3) ∧ ∀ j, i ≤ j → j < i + k → (l j = 8 → j + 1 < i + k ∧ l (j + 1) = -3) ∧ (l j = -3 → if j = i then w = true else l (j - 1) = 8)
  | 0, i, w => by
    unfold pcF
    cases w
    · exact ⟨fun _ => ⟨(fun e => by cases e), fun j h1 h2 => absurd h2 (by omega)⟩, fun _ => rfl⟩
    · exact ⟨(fun e => by cases e), fun h => absurd (h.1 rfl).1 (by omega)⟩
  | k + 1, i, w => by
    unfold pcF
    rw [Bool.and_eq_true, pcF_iff k (i + 1), beq_iff_eq]
    constructor
    · rintro ⟨h1, h2, h3⟩
      refine ⟨fun e => ⟨by omega, of_decide_eq_true (h1.trans e)⟩, fun j hj hk => ?_⟩
      by_cases c : j = i
      · subst c
        refine ⟨fun e => ?_, fun e => ?_⟩
        · have := h2 (decide_eq_true e)
          exact ⟨by omega, this.2⟩
        · rw [if_pos rfl, ← h1]; exact decide_eq_true e
      · have w3 := h3 j (by omega) (by omega)
        refine ⟨fun e => ?_, fun e => ?_⟩
        · have := w3.1 e
          exact ⟨by omega, this.2⟩
        · rw [if_neg c]
          have := w3.2 e
          by_cases d : j = i + 1
          · rw [if_pos d] at this
            rw [d, Nat.add_sub_cancel]
            exact of_decide_eq_true this
          · rw [if_neg d] at this; exact this
    · rintro ⟨h1, h2⟩
      have w0 := h2 i (Nat.le_refl i) (by omega)
      refine ⟨?_, fun e => ?_, fun j hj hk => ?_⟩
      · cases w
        · rw [decide_eq_false_iff_not]
          intro e
          have := w0.2 e
          rw [if_pos rfl] at this
          cases this
        · exact decide_eq_true (h1 rfl).2
      · have := w0.1 (of_decide_eq_true e)
        exact ⟨by omega, this.2⟩
      · have w2 := h2 j (by omega) (by omega)
        refine ⟨fun e => ?_, fun e => ?_⟩
        · have := w2.1 e
          exact ⟨by omega, this.2⟩
        · have := w2.2 e
          rw [if_neg (by omega)] at this
          by_cases d : j = i + 1
          · rw [if_pos d]
            rw [d, Nat.add_sub_cancel] at this
            exact decide_eq_true this
          · rw [if_neg d]; exact this
theorem PrB_iff {l : Nat → Int32} {n : Nat} : PrB l n = true ↔ PrS l n := by
  unfold PrB PrS
  rw [pcF_iff]
  constructor
  · rintro ⟨_, h⟩ i hi
    have w := h i (Nat.zero_le _) (by omega)
    refine ⟨fun e => ?_, fun e => ?_⟩
    · have := w.1 e
      exact ⟨by omega, this.2⟩
    · have := w.2 e
      by_cases c : i = 0
      · rw [if_pos c] at this; cases this
      · rw [if_neg c] at this
        exact ⟨by omega, this⟩
  · intro h
    refine ⟨fun e => (by cases e), fun j _ hj => ?_⟩
    have w := h j (by omega)
    refine ⟨fun e => ?_, fun e => ?_⟩
    · have := w.1 e
      exact ⟨by omega, this.2⟩
    · have := w.2 e
      rw [if_neg (by omega)]
      exact this.2
theorem rqF_iff {l : Nat → Int32} {n : Nat} : ∀ (k i : Nat), rqF l n k i = true ↔ ∀ j, i ≤ j → j < i + k → (l j = 8 ↔ (j + 1 < n ∧ l (j + 1) = -3)) ∧ (0 < j ∨ ¬ l j = -3)
  | 0, i => by
    unfold rqF
    exact ⟨fun _ j h1 h2 => absurd h2 (by omega), fun _ => rfl⟩
  | k + 1, i => by
    unfold rqF
    rw [Bool.and_eq_true, rqF_iff k (i + 1), Bool.and_eq_true, beq_iff_eq, Bool.eq_iff_iff, Bool.or_eq_true, Bool.and_eq_true, decide_eq_true_eq, decide_eq_true_eq, decide_eq_true_eq, decide_eq_true_eq, Bool.not_eq_true', decide_eq_false_iff_not]
    constructor
    · rintro ⟨h1, h2⟩ j hj hk
      by_cases c : j = i
      · subst c; exact h1
      · exact h2 j (by omega) (by omega)
    · intro h
      exact ⟨h i (Nat.le_refl i) (by omega), fun j hj hk => h j (by omega) (by omega)⟩
theorem rqF_iff2 {l : Nat → Int32} {n : Nat} : rqF l n n 0 = true ↔ PrS l n := by
  rw [rqF_iff]
  unfold PrS
  constructor
  · intro h i hi
    have w := h i (Nat.zero_le _) (by omega)
    refine ⟨fun e => w.1.mp e, fun e => ?_⟩
    have p : 0 < i := w.2.resolve_right (fun q => q e)
    refine ⟨p, ?_⟩
    have v := h (i - 1) (Nat.zero_le _) (by omega)
    rw [show i - 1 + 1 = i by omega] at v
    exact v.1.mpr ⟨hi, e⟩
  · intro h j _ hj
    have hj : j < n := by omega
    refine ⟨⟨fun e => (h j hj).1 e, fun e => ?_⟩, ?_⟩
    · have := ((h (j + 1) e.1).2 e.2).2
      rw [Nat.add_sub_cancel] at this
      exact this
    · by_cases c : 0 < j
      · exact Or.inl c
      · exact Or.inr (fun e => c ((h j hj).2 e).1)
theorem rqF_B {l : Nat → Int32} {n : Nat} : rqF l n n 0 = PrB l n := by
  rw [Bool.eq_iff_iff, rqF_iff2, PrB_iff]
/-- nothing but TOP behind: it is the same for all twelve -/
theorem PrB_top {l : Nat → Int32} {n : Nat} (hn : n ≤ 12) (h : ∀ i, n ≤ i → i < 12 → l i = -2) : PrB l 12 = PrB l n := by
  rw [Bool.eq_iff_iff, PrB_iff, PrB_iff]
  unfold PrS
  constructor
  · intro w i hi
    have q := w i (by omega)
    refine ⟨fun e => ?_, q.2⟩
    have r := q.1 e
    refine ⟨?_, r.2⟩
    by_cases c : i + 1 < n
    · exact c
    · have := h (i + 1) (by omega) r.1
      rw [this] at r
      exact absurd r.2 (by decide)
  · intro w i hi
    by_cases c : i < n
    · have q := w i c
      refine ⟨fun e => ?_, q.2⟩
      have r := q.1 e
      exact ⟨by omega, r.2⟩
    · have := h i (by omega) hi
      rw [this]
      exact ⟨fun e => absurd e (by decide), fun e => absurd e (by decide)⟩
section PRX
variable {E : Ev} {S : St} {m fu : Nat}
/-- the class's loop -/
theorem t_prL {r n : Nat} {l : Nat → Int32} (hn : n ≤ 12) (v : ∀ i, i < n → S.2.1 r i = l i) : ∀ (k i F : Nat) (w : Bool), i + k = n → k + 1 ≤ F → lp_X3_arePaired_4 fu E r F (n32 n) (b2 w) (n32 i) S = some (b2 (pcF l k i w), S) := by
  intro k
  induction k with
  | zero =>
    intro i F w hk hF
    obtain ⟨F, rfl⟩ : ∃ z, F = z + 1 := ⟨F - 1, by omega⟩
    show bd_X3_arePaired_4 fu E r _ (n32 n) (b2 w) (n32 i) S = _
    unfold bd_X3_arePaired_4
    rw [zi_le (by omega) (by omega), if_pos (by omega)]
    cases w <;> rfl
  | succ k ih =>
    intro i F w hk hF
    obtain ⟨F, rfl⟩ : ∃ z, F = z + 1 := ⟨F - 1, by omega⟩
    have hin : inb (n32 i) 12 = true := by rw [z_inb (by omega)]; omega
    show bd_X3_arePaired_4 fu E r (lp_X3_arePaired_4 fu E r F) (n32 n) (b2 w) (n32 i) S = _
    unfold bd_X3_arePaired_4
    have jb : ∀ q : Bool, jb_X3_arePaired_22 fu E r (lp_X3_arePaired_4 fu E r F) (n32 n) (b2 w) (n32 i) (b2 q) S = some (b2 ((q == w) && pcF l k (i + 1) (decide (l i = 8))), S) := by
      intro q
      unfold jb_X3_arePaired_22
      rw [if_pos hin, z_nat (show i < 2 ^ 31 by omega), v i (by omega), show n32 i + 1 = n32 (i + 1) from z_add i 1]
      have e1 := ih (i + 1) F true (by omega) (by omega)
      have e0 := ih (i + 1) F false (by omega) (by omega)
      by_cases c : q = w
      · subst c
        rw [if_pos rfl, beq_self_eq_true, Bool.true_and]
        by_cases d : l i = 8
        · rw [if_pos d, decide_eq_true d]; exact e1
        · rw [if_neg d, decide_eq_false d]; exact e0
      · rw [if_neg (fun e => c (b2_inj e)), show (q == w) = false from beq_eq_false_iff_ne.mpr c]; rfl
    rw [zi_le (by omega) (by omega), if_neg (by omega), if_pos hin, z_nat (show i < 2 ^ 31 by omega), v i (by omega)]
    have j1 := jb true
    have j0 := jb false
    show _ = some (b2 ((decide (l i = -3) == w) && pcF l k (i + 1) (decide (l i = 8))), S)
    by_cases d : l i = -3
    · rw [if_pos d, decide_eq_true d]; exact j1
    · rw [if_neg d, decide_eq_false d]; exact j0
theorem t_pr {r n : Nat} {l : Nat → Int32} (hfu : 200 ≤ fu) (hn : n ≤ 12) (v : ∀ i, i < n → S.2.1 r i = l i) : sp_X3_arePaired fu E S r (n32 n) = some (b2 (PrB l n), S) := t_prL hn v n 0 fu false (by omega) (by omega)
theorem t_wf {f : Nat} {x : Fr} (hfu : 200 ≤ fu) (v : VF E S f x) (h12 : x.2.2.1 ≤ 12) : sp_X3_isWellFormed fu E S f = some (b2 (PrB x.1 12 && PrB x.2.1 x.2.2.1), S) := by
  unfold sp_X3_isWellFormed
  rw [show (12 : Int32) = n32 12 from rfl, t_pr hfu (Nat.le_refl 12) v.1, Option.bind_some, b2_if]
  dsimp only
  rw [v.2.2.1, t_pr hfu h12 v.2.1, Option.bind_some, b2_if]
  cases PrB x.1 12
  · rfl
  · cases PrB x.2.1 x.2.2.1 <;> rfl
/-- the reference's loop -/
theorem r_prL {o n : Nat} {l : Nat → Int32} (ho : o ≤ 12) (hn : n ≤ 12) (v : ∀ i, i < n → S.2.1 (E.2 m 34) (o + i) = l i) : ∀ (k i F : Nat) (w : Bool), i + k = n → k + 1 ≤ F → lp_X12_isPaired_5 fu E m F (n32 o) (n32 n) (b2 w) (n32 i) S = some (b2 (w && rqF l n k i), S) := by
  intro k
  induction k with
  | zero =>
    intro i F w hk hF
    obtain ⟨F, rfl⟩ : ∃ z, F = z + 1 := ⟨F - 1, by omega⟩
    show bd_X12_isPaired_5 fu E m _ (n32 o) (n32 n) (b2 w) (n32 i) S = _
    unfold bd_X12_isPaired_5
    rw [zi_le (by omega) (by omega), if_pos (by omega), isB_ite]
    show _ = some (b2 (w && true), S)
    rw [Bool.and_true]
  | succ k ih =>
    intro i F w hk hF
    obtain ⟨F, rfl⟩ : ∃ z, F = z + 1 := ⟨F - 1, by omega⟩
    have hin : inb (n32 (o + i)) 24 = true := by rw [z_inb (by omega)]; omega
    have hino : inb (n32 o) 24 = true := by rw [z_inb (by omega)]; omega
    show bd_X12_isPaired_5 fu E m (lp_X12_isPaired_5 fu E m F) (n32 o) (n32 n) (b2 w) (n32 i) S = _
    unfold bd_X12_isPaired_5
    have e1 : n32 i + 1 = n32 (i + 1) := z_add i 1
    have jb : ∀ q s : Bool, jb_X12_isPaired_61 fu E m (lp_X12_isPaired_5 fu E m F) (n32 o) (n32 n) (b2 w) (n32 i) (b2 q) (b2 s) S = some (b2 (w && (((q == s) && (decide (0 < i) || !decide (l i = -3))) && rqF l n k (i + 1))), S) := by
      intro q s
      have h1 := ih (i + 1) F w (by omega) (by omega)
      have h0 := ih (i + 1) F false (by omega) (by omega)
      unfold jb_X12_isPaired_61 bnd
      dsimp only
      rw [b2_and1, b2_and0, e1, show (0 : Int32) = n32 0 from rfl, zi_lt (by decide) (by omega), if_pos hino, z_nat (show o < 2 ^ 31 by omega)]
      by_cases c : q = s
      · subst c
        rw [if_pos rfl, beq_self_eq_true, Bool.true_and]
        by_cases d : 0 < i
        · rw [if_pos d, decide_eq_true d, Bool.true_or, Bool.true_and]; exact h1
        · have i0 : i = 0 := by omega
          have vo := v i (by omega)
          rw [if_neg d, decide_eq_false d, Bool.false_or]
          rw [i0, Nat.add_zero] at vo
          rw [vo]
          by_cases g : l 0 = -3
          · rw [if_pos g, i0, decide_eq_true g, Bool.not_true, Bool.false_and, Bool.and_false]
            rw [i0] at h0
            exact h0
          · rw [if_neg g, i0, decide_eq_false g, Bool.not_false, Bool.true_and]
            rw [i0] at h1
            exact h1
      · rw [if_neg (fun e => c (b2_inj e)), show (q == s) = false from beq_eq_false_iff_ne.mpr c, Bool.false_and, Bool.false_and, Bool.and_false]
        exact h0
    have j30 : ∀ q : Bool, jb_X12_isPaired_30 fu E m (lp_X12_isPaired_5 fu E m F) (n32 o) (n32 n) (b2 w) (n32 i) (b2 q) S = some (b2 (w && (((q == (decide (i + 1 < n) && decide (l (i + 1) = -3))) && (decide (0 < i) || !decide (l i = -3))) && rqF l n k (i + 1))), S) := by
      intro q
      unfold jb_X12_isPaired_30
      rw [e1, zi_le (by omega) (by omega), z_add, show n32 (o + i) + 1 = n32 (o + i + 1) from z_add _ 1]
      by_cases c : n ≤ i + 1
      · rw [if_pos c, decide_eq_false (show ¬ i + 1 < n by omega), Bool.false_and]
        exact jb q false
      · rw [if_neg c, if_pos (show inb (n32 (o + i + 1)) 24 = true by rw [z_inb (by omega)]; omega), z_nat (show o + i + 1 < 2 ^ 31 by omega), show o + i + 1 = o + (i + 1) by omega, v (i + 1) (by omega), decide_eq_true (show i + 1 < n by omega), Bool.true_and]
        by_cases d : l (i + 1) = -3
        · rw [if_pos d, decide_eq_true d]; exact jb q true
        · rw [if_neg d, decide_eq_false d]; exact jb q false
    rw [zi_le (by omega) (by omega), if_neg (by omega), z_add, if_pos hin, z_nat (show o + i < 2 ^ 31 by omega), v i (by omega)]
    show _ = some (b2 (w && (((decide (l i = 8) == (decide (i + 1 < n) && decide (l (i + 1) = -3))) && (decide (0 < i) || !decide (l i = -3))) && rqF l n k (i + 1))), S)
    by_cases d : l i = 8
    · rw [if_pos d, decide_eq_true d]; exact j30 true
    · rw [if_neg d, decide_eq_false d]; exact j30 false
theorem r_prd {o n : Nat} {l : Nat → Int32} (hfu : 200 ≤ fu) (ho : o ≤ 12) (hn : n ≤ 12) (v : ∀ i, i < n → S.2.1 (E.2 m 34) (o + i) = l i) : sp_X12_isPaired fu E S m (n32 o) (n32 n) = some (b2 (PrB l n), S) := by
  have := r_prL (fu := fu) (m := m) ho hn v n 0 fu true (by omega) (by omega)
  rw [Bool.true_and, rqF_B] at this
  exact this
end PRX
