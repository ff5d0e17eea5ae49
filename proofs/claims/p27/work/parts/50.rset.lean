theorem brk_1 {l : Nat → Int32} {n : Nat} (h : l n = -3 ∧ 0 < n) : brk n l = (if up1 l (n - 1) (-2) n = 8 ∧ n < 11 then up1 (up1 l (n - 1) (-2)) (n + 1) (-2) else up1 l (n - 1) (-2)) := by
  show (if (if l n = -3 ∧ 0 < n then up1 l (n - 1) (-2) else l) n = 8 ∧ n < 11 then up1 (if l n = -3 ∧ 0 < n then up1 l (n - 1) (-2) else l) (n + 1) (-2) else (if l n = -3 ∧ 0 < n then up1 l (n - 1) (-2) else l)) = _
  rw [if_pos h]
theorem brk_2 {l : Nat → Int32} {n : Nat} (h : ¬ (l n = -3 ∧ 0 < n)) : brk n l = (if l n = 8 ∧ n < 11 then up1 l (n + 1) (-2) else l) := by
  show (if (if l n = -3 ∧ 0 < n then up1 l (n - 1) (-2) else l) n = 8 ∧ n < 11 then up1 (if l n = -3 ∧ 0 < n then up1 l (n - 1) (-2) else l) (n + 1) (-2) else (if l n = -3 ∧ 0 < n then up1 l (n - 1) (-2) else l)) = _
  rw [if_neg h]
theorem brk_c {l : Nat → Int32} {n : Nat} (h : PrL l) (hn : n < 12) : (l n = -3 ∧ 0 < n ∧ l (n - 1) = 8 ∧ brk n l = up1 l (n - 1) (-2)) ∨ (l n = 8 ∧ n + 1 < 12 ∧ l (n + 1) = -3 ∧ brk n l = up1 l (n + 1) (-2)) ∨ (l n ≠ -3 ∧ l n ≠ 8 ∧ brk n l = l) := by
  have hp := h n hn
  by_cases h1 : l n = -3
  · have := hp.2 h1
    refine Or.inl ⟨h1, this.1, this.2, ?_⟩
    have e : up1 l (n - 1) (-2) n = -3 := (up1_n _ _ (by omega)).trans h1
    rw [brk_1 ⟨h1, this.1⟩, if_neg (fun z => by rw [e] at z; exact absurd z.1 (by decide))]
  · by_cases h2 : l n = 8
    · have := hp.1 h2
      refine Or.inr (Or.inl ⟨h2, this.1, this.2, ?_⟩)
      rw [brk_2 (fun z => h1 z.1), if_pos ⟨h2, by omega⟩]
    · refine Or.inr (Or.inr ⟨h1, h2, ?_⟩)
      rw [brk_2 (fun z => h1 z.1), if_neg (fun z => h2 z.1)]
theorem pr_store {l : Nat → Int32} {n : Nat} {v : Int32} (h : PrL l) (hn : n < 12) (h8 : v ≠ 8) (h3 : v ≠ -3) : PrL (up1 (brk n l) n v) := by
  have d8 : (-2 : Int32) ≠ 8 := by decide
  have d3 : (-2 : Int32) ≠ -3 := by decide
  have d : (8 : Int32) ≠ -3 := by decide
  rcases brk_c h hn with ⟨c1, c2, c3, e⟩ | ⟨c1, c2, c3, e⟩ | ⟨c1, c2, e⟩
  · rw [e]
    intro i hi
    have hp := h i hi
    simp only [up1]
    constructor
    · intro z
      split at z
      · exact absurd z h8
      · split at z
        · exact absurd z d8
        · have := hp.1 z
          refine ⟨this.1, ?_⟩
          rw [if_neg (fun q => by omega), if_neg (fun q => by
            have w := this.2
            rw [q, c3] at w
            exact d w)]
          exact this.2
    · intro z
      split at z
      · exact absurd z h3
      · split at z
        · exact absurd z d3
        · have := hp.2 z
          refine ⟨this.1, ?_⟩
          rw [if_neg (fun q => by
            have w := this.2
            rw [q, c1] at w
            exact d w.symm), if_neg (fun q => by omega)]
          exact this.2
  · rw [e]
    intro i hi
    have hp := h i hi
    simp only [up1]
    constructor
    · intro z
      split at z
      · exact absurd z h8
      · split at z
        · exact absurd z d8
        · have := hp.1 z
          refine ⟨this.1, ?_⟩
          rw [if_neg (fun q => by
            have w := this.2
            rw [q, c1] at w
            exact d w), if_neg (fun q => by omega)]
          exact this.2
    · intro z
      split at z
      · exact absurd z h3
      · split at z
        · exact absurd z d3
        · have := hp.2 z
          refine ⟨this.1, ?_⟩
          rw [if_neg (fun q => by omega), if_neg (fun q => by
            have w := this.2
            rw [q, c3] at w
            exact d w.symm)]
          exact this.2
  · rw [e]
    intro i hi
    have hp := h i hi
    simp only [up1]
    constructor
    · intro z
      split at z
      · exact absurd z h8
      · have := hp.1 z
        refine ⟨this.1, ?_⟩
        rw [if_neg (fun q => by
          have w := this.2
          rw [q] at w
          exact c1 w)]
        exact this.2
    · intro z
      split at z
      · exact absurd z h3
      · have := hp.2 z
        refine ⟨this.1, ?_⟩
        rw [if_neg (fun q => by
          have w := this.2
          rw [q] at w
          exact c2 w)]
        exact this.2
