/-! the machine over the law's code grows with its frame -/
/-- each slot assignable -/
def LeF (x y : Fr) : Prop := x.2.2.1 = y.2.2.1 ∧ (∀ i, i < 12 → fL (x.1 i) (y.1 i) = true) ∧ ∀ i, i < x.2.2.1 → fL (x.2.1 i) (y.2.1 i) = true
/-- a frame of the law's code -/
def VOk (x : Fr) : Prop := (∀ i, i < 12 → vLo (x.1 i)) ∧ (∀ i, i < x.2.2.1 → vSt (x.2.1 i)) ∧ x.2.2.2 = false
theorem leF_r (x : Fr) : LeF x x := ⟨rfl, fun _ _ => fL_r _, fun _ _ => fL_r _⟩
theorem leF_t {x y z : Fr} (h : LeF x y) (g : LeF y z) : LeF x z := ⟨h.1.trans g.1, fun i hi => fL_t (h.2.1 i hi) (g.2.1 i hi), fun i hi => fL_t (h.2.2 i hi) (g.2.2 i (by rw [← h.1]; exact hi))⟩
def RV (y z : Ms) : Prop := z.2 = 0 → y.2 = 0 ∧ LeF y.1 z.1 ∧ VOk y.1 ∧ VOk z.1
section MON
variable {y z : Ms}
theorem req_0 {c : Bool} {k : Int32} (hk : k ≠ 0) (h : (aReq c k y).2 = 0) : y.2 = 0 ∧ c = true ∧ aReq c k y = y := by
  unfold aReq at h ⊢
  by_cases q : y.2 = 0 ∧ c = false
  · rw [if_pos q] at h; exact absurd h hk
  · rw [if_neg q] at h
    refine ⟨h, ?_, if_neg q⟩
    cases c with
    | true => rfl
    | false => exact absurd ⟨h, rfl⟩ q
theorem req_t {k : Int32} : aReq true k y = y := by
  unfold aReq
  exact if_neg (fun q => by cases q.2)
theorem rv_req {c c' : Bool} {k : Int32} (hk : k ≠ 0) (h : RV y z) (hc : z.2 = 0 → c' = true → c = true) : RV (aReq c k y) (aReq c' k z) := by
  intro e
  obtain ⟨e0, e1, e2⟩ := req_0 hk e
  rw [e2, hc e0 e1, req_t]
  exact h e0
theorem rv_push {mx : Nat} {v w : Int32} (h : RV y z) (hv : z.2 = 0 → fL v w = true ∧ vSt v ∧ vSt w) : RV (aPush mx v y) (aPush mx w z) := by
  intro e
  unfold aPush at e ⊢
  by_cases q : z.2 ≠ 0
  · rw [if_pos q] at e; exact absurd e q
  · rw [if_neg q] at e ⊢
    have z0 : z.2 = 0 := by simpa using q
    obtain ⟨y0, l, v1, v2⟩ := h z0
    obtain ⟨g1, g2, g3⟩ := hv z0
    by_cases q2 : mx ≤ z.1.2.2.1
    · rw [if_pos q2] at e; exact absurd e (show ¬ (6 : Int32) = 0 by decide)
    · rw [if_neg q2] at e ⊢
      rw [if_neg (fun w => w y0), if_neg (by rw [l.1]; exact q2)]
      refine ⟨rfl, ⟨congrArg (· + 1) l.1, l.2.1, fun i hi => ?_⟩, ⟨v1.1, fun i hi => ?_, v1.2.2⟩, ⟨v2.1, fun i hi => ?_, v2.2.2⟩⟩
      · have hi : i < y.1.2.2.1 + 1 := hi
        show fL (up1 y.1.2.1 y.1.2.2.1 v i) (up1 z.1.2.1 z.1.2.2.1 w i) = true
        rw [← l.1]
        by_cases c : i = y.1.2.2.1
        · rw [c, up1_s, up1_s]; exact g1
        · rw [up1_n _ _ c, up1_n _ _ c]; exact l.2.2 i (by omega)
      · have hi : i < y.1.2.2.1 + 1 := hi
        show vSt (up1 y.1.2.1 y.1.2.2.1 v i)
        by_cases c : i = y.1.2.2.1
        · rw [c, up1_s]; exact g2
        · rw [up1_n _ _ c]; exact v1.2.1 i (by omega)
      · have hi : i < z.1.2.2.1 + 1 := hi
        show vSt (up1 z.1.2.1 z.1.2.2.1 w i)
        by_cases c : i = z.1.2.2.1
        · rw [c, up1_s]; exact g3
        · rw [up1_n _ _ c]; exact v2.2.1 i (by omega)
theorem rv_pop (h : RV y z) : RV (aPop y).2 (aPop z).2 ∧ ((aPop z).2.2 = 0 → fL (aPop y).1 (aPop z).1 = true ∧ vSt (aPop y).1 ∧ vSt (aPop z).1) := by
  have key : (aPop z).2.2 = 0 → ((aPop y).2.2 = 0 ∧ LeF (aPop y).2.1 (aPop z).2.1 ∧ VOk (aPop y).2.1 ∧ VOk (aPop z).2.1) ∧ (fL (aPop y).1 (aPop z).1 = true ∧ vSt (aPop y).1 ∧ vSt (aPop z).1) := by
    intro e
    obtain ⟨z0, hz⟩ := pop_z e
    obtain ⟨y0, l, v1, v2⟩ := h z0
    have hy : 0 < y.1.2.2.1 := by rw [l.1]; exact hz
    rw [aPop_1 z0 hz, aPop_1 y0 hy]
    dsimp only
    refine ⟨⟨rfl, ⟨congrArg (· - 1) l.1, l.2.1, fun i hi => l.2.2 i ?_⟩, ⟨v1.1, fun i hi => v1.2.1 i ?_, v1.2.2⟩, ⟨v2.1, fun i hi => v2.2.1 i ?_, v2.2.2⟩⟩, ?_, v1.2.1 _ (by omega), v2.2.1 _ (by omega)⟩
    · have hi : i < y.1.2.2.1 - 1 := hi
      omega
    · have hi : i < y.1.2.2.1 - 1 := hi
      omega
    · have hi : i < z.1.2.2.1 - 1 := hi
      omega
    · rw [← l.1]; exact l.2.2 _ (by omega)
  exact ⟨fun e => (key e).1, fun e => (key e).2⟩
theorem rv_popC {c : Int32 → Bool} (hc : ∀ v w, fL v w = true → w ≠ -2 → c w = true → c v = true) (h : RV y z) : RV (aPopC c y).2 (aPopC c z).2 ∧ ((aPopC c z).2.2 = 0 → fL (aPopC c y).1 (aPopC c z).1 = true ∧ (vSt (aPopC c y).1 ∧ c (aPopC c y).1 = true) ∧ vSt (aPopC c z).1 ∧ c (aPopC c z).1 = true) := by
  obtain ⟨h1, h2⟩ := rv_pop h
  refine ⟨rv_req (by decide) h1 (fun e g => hc _ _ (h2 e).1 (st_2 (h2 e).2.2) g), fun e => ?_⟩
  obtain ⟨e0, e1, -⟩ := req_0 (y := (aPop z).2) (by decide) e
  obtain ⟨k1, k2, k3⟩ := h2 e0
  exact ⟨k1, ⟨k2, hc _ _ k1 (st_2 k3) e1⟩, k3, e1⟩
theorem rv_popT0 (h : RV y z) : RV (aPopT d0 0 y) (aPopT d0 0 z) := by
  have n8 : ¬ (0 : Int32) = 8 := by decide
  unfold aPopT
  rw [if_neg n8, if_neg n8]
  obtain ⟨h1, h2⟩ := rv_pop h
  refine rv_req (by decide) h1 (fun e g => ?_)
  obtain ⟨k1, k2, k3⟩ := h2 e
  rw [fits_L k3.a (Or.inl rfl)] at g
  rw [fits_L k2.a (Or.inl rfl)]
  exact fL_t k1 g
theorem brk_id {n : Nat} {l : Nat → Int32} (h : vLo (l n)) : brk n l = l := by
  have n3 : l n ≠ -3 := fun e => by rw [e] at h; rcases h with h | h | h | h | h | h | h <;> exact absurd h (by decide)
  have n8 : l n ≠ 8 := fun e => by rw [e] at h; rcases h with h | h | h | h | h | h | h <;> exact absurd h (by decide)
  unfold brk
  simp only [n3, false_and, if_false]
  exact if_neg (fun q => n8 q.1)
theorem rv_store {n : Nat} {v w : Int32} (hn : n < 12) (h : RV y z) (hv : z.2 = 0 → fL v w = true ∧ vLo v ∧ vLo w) : RV (aStore n v y) (aStore n w z) := by
  intro e
  have e : z.2 = 0 := e
  obtain ⟨y0, l, v1, v2⟩ := h e
  obtain ⟨g1, g2, g3⟩ := hv e
  unfold aStore
  rw [brk_id (v1.1 n hn), brk_id (v2.1 n hn)]
  refine ⟨y0, ⟨l.1, fun i hi => ?_, l.2.2⟩, ⟨fun i hi => ?_, v1.2.1, v1.2.2⟩, ⟨fun i hi => ?_, v2.2.1, v2.2.2⟩⟩
  · show fL (up1 y.1.1 n v i) (up1 z.1.1 n w i) = true
    by_cases c : i = n
    · rw [c, up1_s, up1_s]; exact g1
    · rw [up1_n _ _ c, up1_n _ _ c]; exact l.2.1 i hi
  · show vLo (up1 y.1.1 n v i)
    by_cases c : i = n
    · rw [c, up1_s]; exact g2
    · rw [up1_n _ _ c]; exact v1.1 i hi
  · show vLo (up1 z.1.1 n w i)
    by_cases c : i = n
    · rw [c, up1_s]; exact g3
    · rw [up1_n _ _ c]; exact v2.1 i hi
theorem hasR_iff {v : Int32} {s : Nat → Int32} : ∀ (j i : Nat), hasR v s i j = true ↔ ∃ q, i ≤ q ∧ q < i + j ∧ s q = v
  | 0, i => by
    constructor
    · intro h; cases h
    · rintro ⟨q, h1, h2, _⟩; omega
  | j + 1, i => by
    show (s i == v || hasR v s (i + 1) j) = true ↔ _
    rw [Bool.or_eq_true, beq_iff_eq, hasR_iff j (i + 1)]
    constructor
    · rintro (h | ⟨q, h1, h2, h3⟩)
      · exact ⟨i, Nat.le_refl _, by omega, h⟩
      · exact ⟨q, by omega, by omega, h3⟩
    · rintro ⟨q, h1, h2, h3⟩
      by_cases c : q = i
      · rw [c] at h3; exact Or.inl h3
      · exact Or.inr ⟨q, by omega, by omega, h3⟩
theorem rep_fL {o w u v : Int32} (ho : o ≤ -10) (h : fL u v = true) : fL (if u = o then w else u) (if v = o then w else v) = true := by
  by_cases c : v = o
  · rw [c] at h
    rw [if_pos (fL_u h ho), if_pos c]; exact fL_r w
  · rw [if_neg c]
    by_cases c2 : u = o
    · rw [c2] at h
      rcases fL_uv h ho with e | e
      · exact absurd e c
      · rw [e]; exact fL_top _
    · rw [if_neg c2]; exact h
theorem rv_new {A : Enw} {v : Int32} (hv : v ≤ -10) (h : RV y z) : RV (aNew A v y) (aNew A v z) := by
  unfold aNew
  have h1 : RV (aReq (!hasS v y.1.2.1 y.1.2.2.1) 4 y) (aReq (!hasS v z.1.2.1 z.1.2.2.1) 4 z) := by
    refine rv_req (by decide) h (fun e g => ?_)
    obtain ⟨-, l, v1, v2⟩ := h e
    rw [Bool.not_eq_true'] at g ⊢
    cases c : hasS v y.1.2.1 y.1.2.2.1 with
    | false => rfl
    | true =>
      obtain ⟨q, q1, q2, q3⟩ := (hasR_iff _ _).mp c
      have q2 : q < y.1.2.2.1 := by omega
      have f := l.2.2 q q2
      rw [q3] at f
      have q2' : q < z.1.2.2.1 := by rw [← l.1]; exact q2
      rcases fL_uv f hv with e1 | e1
      · have : hasS v z.1.2.1 z.1.2.2.1 = true := (hasR_iff _ _).mpr ⟨q, Nat.zero_le _, by omega, e1⟩
        rw [this] at g; cases g
      · exact absurd e1 (st_2 (v2.2.1 q q2'))
  generalize aReq (!hasS v y.1.2.1 y.1.2.2.1) 4 y = y1 at h1 ⊢
  generalize aReq (!hasS v z.1.2.1 z.1.2.2.1) 4 z = z1 at h1 ⊢
  dsimp only
  have lo : ∀ {u : Int32}, vLo u → vLo (if u = v then -2 else u) := fun {u} hu => by
    split
    · exact Or.inr (Or.inr (Or.inr (Or.inr (Or.inr (Or.inl rfl)))))
    · exact hu
  refine rv_push (fun e => ?_) (fun _ => ⟨fL_r v, Or.inr (Or.inr (Or.inr (Or.inr (Or.inr (Or.inr (Or.inr hv)))))), Or.inr (Or.inr (Or.inr (Or.inr (Or.inr (Or.inr (Or.inr hv))))))⟩)
  obtain ⟨y0, l, v1, v2⟩ := h1 e
  exact ⟨y0, ⟨l.1, fun i hi => rep_fL hv (l.2.1 i hi), l.2.2⟩, ⟨fun i hi => lo (v1.1 i hi), v1.2⟩, ⟨fun i hi => lo (v2.1 i hi), v2.2⟩⟩
theorem st_4 {v : Int32} (h : vSt v) : v ≠ -4 := by
  rintro rfl
  rcases h with h | h | h | h | h | h | h | h <;> exact absurd h (by decide)
/-- a constructor call behind NEW: the class b -/
theorem rv_init {A : Enw} {b : Nat} (hb : n32 (8 * b) = 16 ∨ n32 (8 * b) = 24 ∨ n32 (8 * b) = 32) (h : RV y z) : RV (aInit A b y) (aInit A b z) := by
  obtain ⟨h1, h2⟩ := rv_pop h
  have n4 : (4 : Int32) ≠ 0 := by decide
  have wL : vLo (n32 (8 * b)) := by rcases hb with e | e | e <;> rw [e] <;> simp [vLo]
  have wS : vSt (n32 (8 * b)) := by rcases hb with e | e | e <;> rw [e] <;> simp [vSt]
  intro e
  unfold aInit at e ⊢
  dsimp only at e ⊢
  generalize hcz : (if (aPop z).1 = -4 then b == mown A.2.1 (cme A.2.2) || (decide (3 ≤ mown A.2.1 (cme A.2.2)) && b == A.1.2.1 (mown A.2.1 (cme A.2.2))) else decide ((aPop z).1 ≤ -10) && isCre A.2.2 (-10 - (aPop z).1) b) = cz at e ⊢
  by_cases q : (aReq cz 4 (aPop z).2).2 = 0
  · rw [if_pos q] at e ⊢
    obtain ⟨e0, e1, e2⟩ := req_0 n4 q
    obtain ⟨y0, l, v1, v2⟩ := h1 e0
    obtain ⟨k1, k2, k3⟩ := h2 e0
    rw [if_neg (st_4 k3)] at hcz
    rw [e1, Bool.and_eq_true, decide_eq_true_eq] at hcz
    have eq := fL_u k1 hcz.1
    rw [eq, if_neg (st_4 k3), decide_eq_true hcz.1, hcz.2, Bool.and_self, req_t, if_pos y0, e2]
    have o10 := hcz.1
    generalize (aPop z).1 = o at o10 k3 ⊢
    generalize (aPop z).2 = z1 at l v2 ⊢
    generalize (aPop y).2 = y1 at l v1 ⊢
    rw [if_neg (st_4 k3)]
    have lo : ∀ {u : Int32}, vLo u → vLo (if u = o then n32 (8 * b) else u) := fun {u} hu => by split; exact wL; exact hu
    have so : ∀ {u : Int32}, vSt u → vSt (if u = o then n32 (8 * b) else u) := fun {u} hu => by split; exact wS; exact hu
    refine ⟨rfl, ⟨l.1, fun i hi => rep_fL o10 (l.2.1 i hi), fun i hi => rep_fL o10 (l.2.2 i hi)⟩, ⟨fun i hi => lo (v1.1 i hi), fun i hi => so (v1.2.1 i hi), ?_⟩, ⟨fun i hi => lo (v2.1 i hi), fun i hi => so (v2.2.1 i hi), ?_⟩⟩
    · show (y1.1.2.2.2 && _) = false
      rw [v1.2.2]; rfl
    · show (z1.1.2.2.2 && _) = false
      rw [v2.2.2]; rfl
  · rw [if_neg q] at e; exact absurd e q
end MON
