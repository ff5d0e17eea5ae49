/-! the law's values: five classes' worth of types, no arrays; assignability and join over them -/
/-- the law's declarations: INT, LONG, Object, a class of it, a class of that -/
def d0 : Dcl := cD (cD z00.1.1 2 false) 3 false
/-- assignable, over these values -/
def fL (v w : Int32) : Bool := v == w || w == -2 || (rfT w && (v == -1 || (rfT v && decide (w ≤ v))))
/-- their join -/
def jL (v w : Int32) : Int32 := if v = w then v else if rfV v = false ∨ rfV w = false then -2 else if v = -1 then w else if w = -1 then v else if v ≤ w then v else w
/-- a value of the law's frames -/
def vA (v : Int32) : Prop := v = 0 ∨ v = 8 ∨ v = 16 ∨ v = 24 ∨ v = 32 ∨ v = -1 ∨ v = -2 ∨ v = -3 ∨ v ≤ -10
/-- .. of a local variable; .. of the stack -/
def vLo (v : Int32) : Prop := v = 0 ∨ v = 16 ∨ v = 24 ∨ v = 32 ∨ v = -1 ∨ v = -2 ∨ v ≤ -10
def vSt (v : Int32) : Prop := v = 0 ∨ v = 8 ∨ v = -3 ∨ v = 16 ∨ v = 24 ∨ v = 32 ∨ v = -1 ∨ v ≤ -10
theorem vLo.a {v : Int32} (h : vLo v) : vA v := by
  unfold vLo at h; unfold vA
  rcases h with h | h | h | h | h | h | h <;> simp [h]
theorem vSt.a {v : Int32} (h : vSt v) : vA v := by
  unfold vSt at h; unfold vA
  rcases h with h | h | h | h | h | h | h | h <;> simp [h]
theorem u_lt {v : Int32} (h : v ≤ -10) : v < 0 := by
  rw [z_l32] at h; rw [z_i32]
  exact Int.lt_of_le_of_lt h (by decide)
theorem u_ne {v w : Int32} (h : v ≤ -10) (hw : ¬ w ≤ -10) : v ≠ w := fun e => hw (e ▸ h)
theorem u_rT {v : Int32} (h : v ≤ -10) : rfT v = false := rfT_neg (u_lt h)
theorem u_rV {v : Int32} (h : v ≤ -10) : rfV v = false := by
  unfold rfV
  rw [u_rT h, show (v == -1) = false from beq_false_of_ne (u_ne h (by decide))]; rfl
theorem fits_u {v w : Int32} (h : v ≤ -10 ∨ w ≤ -10) : fitsA d0 v w = fL v w := by
  unfold fitsA fL
  rcases h with h | h
  · rw [u_rT h]; simp
  · rw [u_rT h]; simp
theorem join_u {v w : Int32} (h : v ≤ -10 ∨ w ≤ -10) : joinA d0 v w = jL v w := by
  unfold joinA jL
  by_cases e : v = w
  · rw [if_pos e, if_pos e]
  · rw [if_neg e, if_neg e]
    have q : rfV v = false ∨ rfV w = false := by
      rcases h with h | h
      · exact Or.inl (u_rV h)
      · exact Or.inr (u_rV h)
    rw [if_pos q, if_pos q]
theorem fits_L {v w : Int32} (hv : vA v) (hw : vA w) : fitsA d0 v w = fL v w := by
  rcases hv with rfl | rfl | rfl | rfl | rfl | rfl | rfl | rfl | hv
  rotate_right
  · exact fits_u (Or.inl hv)
  all_goals
    rcases hw with rfl | rfl | rfl | rfl | rfl | rfl | rfl | rfl | hw
    rotate_right
    · exact fits_u (Or.inr hw)
    all_goals decide
theorem join_L {v w : Int32} (hv : vA v) (hw : vA w) : joinA d0 v w = jL v w := by
  rcases hv with rfl | rfl | rfl | rfl | rfl | rfl | rfl | rfl | hv
  rotate_right
  · exact join_u (Or.inl hv)
  all_goals
    rcases hw with rfl | rfl | rfl | rfl | rfl | rfl | rfl | rfl | hw
    rotate_right
    · exact join_u (Or.inr hw)
    all_goals decide
theorem fL_iff {v w : Int32} : fL v w = true ↔ v = w ∨ w = -2 ∨ (rfT w = true ∧ (v = -1 ∨ (rfT v = true ∧ w ≤ v))) := by
  unfold fL
  simp only [Bool.or_eq_true, Bool.and_eq_true, beq_iff_eq, decide_eq_true_eq, or_assoc]
theorem fL_r (v : Int32) : fL v v = true := fL_iff.mpr (Or.inl rfl)
theorem fL_top (v : Int32) : fL v (-2) = true := fL_iff.mpr (Or.inr (Or.inl rfl))
theorem rT_2 : rfT (-2) = false := by decide
theorem rT_1 : rfT (-1) = false := by decide
theorem fL_t {u v w : Int32} (h : fL u v = true) (g : fL v w = true) : fL u w = true := by
  rw [fL_iff] at h g ⊢
  rcases h with rfl | rfl | ⟨h1, h2⟩
  · exact g
  · rcases g with rfl | g | ⟨g1, g2 | g2⟩
    · exact Or.inr (Or.inl rfl)
    · exact Or.inr (Or.inl g)
    · exact absurd g2 (by decide)
    · rw [rT_2] at g2; exact absurd g2.1 (by decide)
  · rcases g with rfl | g | ⟨g1, g2 | ⟨g2, g3⟩⟩
    · exact Or.inr (Or.inr ⟨h1, h2⟩)
    · exact Or.inr (Or.inl g)
    · rw [g2, rT_1] at h1; cases h1
    · refine Or.inr (Or.inr ⟨g1, ?_⟩)
      rcases h2 with h2 | ⟨h2, h3⟩
      · exact Or.inl h2
      · exact Or.inr ⟨h2, Int32.le_trans g3 h3⟩
theorem rV_iff {v : Int32} : rfV v = true ↔ v = -1 ∨ rfT v = true := by
  unfold rfV
  simp only [Bool.or_eq_true, beq_iff_eq]
theorem jL_l (v w : Int32) : fL v (jL v w) = true := by
  unfold jL
  split
  · exact fL_r v
  split
  · exact fL_top v
  rename_i e q
  simp only [not_or, Bool.not_eq_false] at q
  obtain ⟨q1, q2⟩ := q
  rw [rV_iff] at q1 q2
  split
  · rename_i c
    refine fL_iff.mpr (Or.inr (Or.inr ⟨?_, Or.inl c⟩))
    exact q2.resolve_left (fun h => e (c.trans h.symm))
  split
  · exact fL_r v
  rename_i c1 c2
  split
  · exact fL_r v
  · rename_i c3
    exact fL_iff.mpr (Or.inr (Or.inr ⟨q2.resolve_left c2, Or.inr ⟨q1.resolve_left c1, Int32.le_of_lt (Int32.not_le.mp c3)⟩⟩))
theorem jL_r (v w : Int32) : fL w (jL v w) = true := by
  unfold jL
  split
  · rename_i e; rw [e]; exact fL_r w
  split
  · exact fL_top w
  rename_i e q
  simp only [not_or, Bool.not_eq_false] at q
  obtain ⟨q1, q2⟩ := q
  rw [rV_iff] at q1 q2
  split
  · exact fL_r w
  split
  · rename_i c1 c
    exact fL_iff.mpr (Or.inr (Or.inr ⟨q1.resolve_left c1, Or.inl c⟩))
  rename_i c1 c2
  split
  · rename_i c3
    exact fL_iff.mpr (Or.inr (Or.inr ⟨q1.resolve_left c1, Or.inr ⟨q2.resolve_left c2, c3⟩⟩))
  · exact fL_r w
theorem vLo_j {v w : Int32} (hv : vLo v) (hw : vLo w) : vLo (jL v w) := by
  unfold jL
  split
  · exact hv
  split
  · exact Or.inr (Or.inr (Or.inr (Or.inr (Or.inr (Or.inl rfl)))))
  split
  · exact hw
  split
  · exact hv
  split
  · exact hv
  · exact hw
theorem vSt_j {v w : Int32} (hv : vSt v) (hw : vSt w) (h : jL v w ≠ -2 ∨ v = w) : vSt (jL v w) := by
  unfold jL at h ⊢
  split
  · exact hv
  rename_i e
  rw [if_neg e] at h
  split
  · rename_i q
    rw [if_pos q] at h
    exact absurd rfl (h.resolve_right e)
  split
  · exact hw
  split
  · exact hv
  split
  · exact hv
  · exact hw
/-- what a smaller value keeps -/
theorem st_2 {v : Int32} (h : vSt v) : v ≠ -2 := by
  rintro rfl
  rcases h with h | h | h | h | h | h | h | h <;> exact absurd h (by decide)
theorem fL_u {v w : Int32} (h : fL v w = true) (hw : w ≤ -10) : v = w := by
  rw [fL_iff] at h
  rcases h with h | h | h
  · exact h
  · exact absurd h (u_ne hw (by decide))
  · rw [u_rT hw] at h; cases h.1
theorem fL_uv {v w : Int32} (h : fL v w = true) (hv : v ≤ -10) : w = v ∨ w = -2 := by
  rw [fL_iff] at h
  rcases h with h | h | ⟨_, h | h⟩
  · exact Or.inl h.symm
  · exact Or.inr h
  · exact absurd h (u_ne hv (by decide))
  · rw [u_rT hv] at h; cases h.1
theorem fL_0 {v : Int32} (h : fL v 0 = true) : v = 0 := by
  rw [fL_iff] at h
  rcases h with h | h | h
  · exact h
  · exact absurd h (by decide)
  · exact absurd h.1 (by decide)
theorem fL_any {v w : Int32} (h : fL v w = true) (hw : w ≠ -2) (g : anyR w = true) : anyR v = true := by
  rw [fL_iff] at h
  rcases h with rfl | h | ⟨_, rfl | h⟩
  · exact g
  · exact absurd h hw
  · decide
  · unfold anyR; rw [h.1]; rfl
theorem fL_rV {v w : Int32} (h : fL v w = true) (hw : w ≠ -2) (g : rfV w = true) : rfV v = true := by
  rw [fL_iff] at h
  rcases h with rfl | h | ⟨_, rfl | h⟩
  · exact g
  · exact absurd h hw
  · decide
  · unfold rfV; rw [h.1]; simp
theorem fL_who {v w : Int32} (h : fL v w = true) (hw : w ≠ -2) (g : whole w = true) : whole v = true := by
  rw [fL_iff] at h
  rcases h with rfl | h | ⟨_, rfl | h⟩
  · exact g
  · exact absurd h hw
  · decide
  · unfold whole
    have n8 : v ≠ 8 := fun e => by rw [e] at h; exact absurd h.1 (by decide)
    have n3 : v ≠ -3 := fun e => by rw [e] at h; exact absurd h.1 (by decide)
    simp [n8, n3]
theorem lo_any {v : Int32} (h : vLo v) (g : anyR v = true) : vSt v := by
  unfold vSt
  rcases h with h | h | h | h | h | h | h
  · simp [h]
  · simp [h]
  · simp [h]
  · simp [h]
  · simp [h]
  · rw [h] at g; exact absurd g (by decide)
  · simp [h]
theorem st_any {v : Int32} (h : vSt v) (g : anyR v = true) : vLo v := by
  unfold vLo
  rcases h with h | h | h | h | h | h | h | h
  · simp [h]
  · rw [h] at g; exact absurd g (by decide)
  · rw [h] at g; exact absurd g (by decide)
  · simp [h]
  · simp [h]
  · simp [h]
  · simp [h]
  · simp [h]
theorem any_2 {v : Int32} (g : anyR v = true) : v ≠ -2 := by
  rintro rfl; exact absurd g (by decide)
