def layP (f : Nat → Nat) : Nat → Nat → Nat → (Nat → Int32) → (Nat → Int32)
  | _, 0, _, l => l
  | j, k + 1, n, l => layP f (j + 1) k (n + wide (f j)) (if f j = 8 then up1 (up1 l n 8) (n + 1) (-3) else up1 l n (n32 (f j)))
def isNw (A : Enw) : Bool := decide (mkin A.2.1 (cme A.2.2) = 2) && !decide (mown A.2.1 (cme A.2.2) = 2)
def fstL (A : Enw) : Nat → Int32 := if mkin A.2.1 (cme A.2.2) = 1 then layP (mpty A.2.1 (cme A.2.2)) 0 (mpcn A.2.1 (cme A.2.2)) 0 (fun _ => -2) else layP (mpty A.2.1 (cme A.2.2)) 0 (mpcn A.2.1 (cme A.2.2)) 1 (up1 (fun _ => -2) 0 (if isNw A = true then -4 else n32 (8 * mown A.2.1 (cme A.2.2))))
def aFst (A : Enw) : Fr := (fstL A, (fun _ => -2), 0, decide (mkin A.2.1 (cme A.2.2) ≠ 1) && isNw A)
def psF (f : Nat → Nat) : Nat → Nat → Nat
  | _, 0 => 0
  | j, k + 1 => wide (f j) + psF f (j + 1) k
theorem psF_e {f : Nat → Nat} : ∀ (k j : Nat), psum f (j + k) = psum f j + psF f j k
  | 0, j => rfl
  | k + 1, j => by
    have := psF_e (f := f) k (j + 1)
    show psum f (j + (k + 1)) = psum f j + (wide (f j) + psF f (j + 1) k)
    rw [show j + (k + 1) = j + 1 + k by omega, this]
    show psum f j + wide (f j) + psF f (j + 1) k = _
    omega
theorem psF_0 {f : Nat → Nat} {k : Nat} : psF f 0 k = psum f k := by
  have := psF_e (f := f) k 0
  rw [Nat.zero_add] at this
  rw [this]
  show _ = 0 + psF f 0 k
  omega
def LayI (d : Dcl) (n : Nat) (l : Nat → Int32) : Prop := PrS l n ∧ (∀ i, i < n → svA d (l i)) ∧ ∀ i, n ≤ i → l i = -2
theorem lay_i {d : Dcl} {f : Nat → Nat} (hd : DI d) : ∀ (k j n : Nat) (l : Nat → Int32), (∀ q, j ≤ q → q < j + k → isT d (f q) = true) → LayI d n l → LayI d (n + psF f j k) (layP f j k n l) := by
  intro k
  induction k with
  | zero => intro j n l _ h; exact h
  | succ k ih =>
    intro j n l hT h
    have tj := hT j (Nat.le_refl _) (by omega)
    have := isT_lt hd tj
    show LayI d (n + (wide (f j) + psF f (j + 1) k)) (layP f (j + 1) k (n + wide (f j)) (if f j = 8 then up1 (up1 l n 8) (n + 1) (-3) else up1 l n (n32 (f j))))
    rw [← Nat.add_assoc]
    refine ih (j + 1) (n + wide (f j)) _ (fun q h1 h2 => hT q (by omega) (by omega)) ?_
    unfold wide
    by_cases c : f j = 8
    · rw [if_pos c, if_pos c]
      refine ⟨prS_pushL h.1, fun i hi => ?_, fun i hi => ?_⟩
      · by_cases e : i = n + 1
        · rw [e, up1_s]; exact sv_high
        · rw [up1_n _ _ e]
          by_cases e2 : i = n
          · rw [e2, up1_s]; exact sv_8 hd
          · rw [up1_n _ _ e2]; exact h.2.1 i (by omega)
      · rw [up1_n _ _ (by omega), up1_n _ _ (by omega)]; exact h.2.2 i (by omega)
    · rw [if_neg c, if_neg c]
      have n83 := n32_83 (n := f j) (by omega) c
      refine ⟨prS_push h.1 n83.1 n83.2, fun i hi => ?_, fun i hi => ?_⟩
      · by_cases e2 : i = n
        · rw [e2, up1_s]; exact sv_n tj
        · rw [up1_n _ _ e2]; exact h.2.1 i (by omega)
      · rw [up1_n _ _ (by omega)]; exact h.2.2 i (by omega)
theorem prS_12 {l : Nat → Int32} {n : Nat} (hn : n ≤ 12) (h : PrS l n) (ht : ∀ i, n ≤ i → l i = -2) : PrL l := by
  intro i hi
  by_cases c : i < n
  · have := h i c
    refine ⟨fun z => ?_, this.2⟩
    have k := this.1 z
    exact ⟨by omega, k.2⟩
  · rw [ht i (by omega)]
    exact ⟨fun z => absurd z (by decide), fun z => absurd z (by decide)⟩
theorem wx_fst {A : Enw} (hA : EI A) (hs : cst A.2.2 = true) (hn : need A.2.1 (cme A.2.2) ≤ cloc A.2.2) : WX A (aFst A) := by
  have hd := hA.1
  have hl := hA.2.2.2.2.1
  have hme := hA.2.2.1 hs
  have mm := hA.2.1.2.2.2 _ hme
  have key : LayI A.1 (need A.2.1 (cme A.2.2)) (fstL A) := by
    unfold need fstL mslo
    by_cases c : mkin A.2.1 (cme A.2.2) = 1
    · rw [if_pos c, if_pos c]
      have := lay_i hd (mpcn A.2.1 (cme A.2.2)) 0 0 (fun _ => -2) (fun q _ h => mm.2.2.2.2.2.2 q (by omega)) ⟨fun i hi => absurd hi (Nat.not_lt_zero i), fun i hi => absurd hi (Nat.not_lt_zero i), fun _ _ => rfl⟩
      rw [psF_0] at this
      rw [show psum (mpty A.2.1 (cme A.2.2)) (mpcn A.2.1 (cme A.2.2)) + 0 = 0 + psum (mpty A.2.1 (cme A.2.2)) (mpcn A.2.1 (cme A.2.2)) by omega]
      exact this
    · rw [if_neg c, if_neg c]
      have s0 : svA A.1 (if isNw A = true then -4 else n32 (8 * mown A.2.1 (cme A.2.2))) ∧ (if isNw A = true then -4 else n32 (8 * mown A.2.1 (cme A.2.2))) ≠ 8 ∧ (if isNw A = true then -4 else n32 (8 * mown A.2.1 (cme A.2.2))) ≠ -3 := by
        have h20 := hd.2.1
        split
        · exact ⟨Or.inr (Or.inl (by decide)), by decide, by decide⟩
        · exact ⟨sv_n (isTb mm.2.1), n32_83 (by omega) (by omega)⟩
      generalize (if isNw A = true then -4 else n32 (8 * mown A.2.1 (cme A.2.2))) = v at s0
      have := lay_i hd (mpcn A.2.1 (cme A.2.2)) 0 1 (up1 (fun _ => -2) 0 v) (fun q _ h => mm.2.2.2.2.2.2 q (by omega)) ⟨prS_push (s := fun _ => -2) (h := 0) (fun i hi => absurd hi (Nat.not_lt_zero i)) s0.2.1 s0.2.2, fun i hi => by rw [show i = 0 by omega, up1_s]; exact s0.1, fun i hi => up1_n _ _ (by omega)⟩
      rw [psF_0] at this
      rw [show psum (mpty A.2.1 (cme A.2.2)) (mpcn A.2.1 (cme A.2.2)) + 1 = 1 + psum (mpty A.2.1 (cme A.2.2)) (mpcn A.2.1 (cme A.2.2)) by omega]
      exact this
  refine ⟨⟨fun i hi => ?_, fun i hi => absurd hi (Nat.not_lt_zero i), Nat.zero_le _⟩, prS_12 (by omega) key.1 key.2.2, fun i hi => absurd hi (Nat.not_lt_zero i), Nat.zero_le _, fun j hj _ => key.2.2 j (by omega)⟩
  show svA A.1 (fstL A i)
  by_cases c : i < need A.2.1 (cme A.2.2)
  · exact key.2.1 i c
  · rw [key.2.2 i (by omega)]; exact sv_top
section FF
variable {E : Ev} {S : St} {fu : Nat} {A : Enw}
theorem t_slots {n : Nat} (hn : n < 2 ^ 31) : sp_X11_slotsOf fu E S (n32 n) = some (n32 (wide n), S) := by
  unfold sp_X11_slotsOf wide
  rw [show (8 : Int32) = n32 8 from rfl, zi_eq hn (by decide)]
  split <;> rfl
theorem t_par {B : Nat} (hA : EI A) (v : VMb E S B A.2.1) {q j : Nat} (hq : q < mcnt A.2.1) (hj : j < mpcn A.2.1 q) : sp_X8_parameterType fu E S B (n32 q) (n32 j) = some (n32 (mpty A.2.1 q j), S) := by
  have h30 := hA.2.1.2.1
  have mq := hA.2.1.2.2.2 q hq
  unfold sp_X8_parameterType
  rw [show n32 q * 6 + n32 j = n32 (6 * q + j) from by rw [show n32 q * (6 : Int32) = n32 (q * 6) from z_mul q 6, z_add, Nat.mul_comm], if_pos (by rw [z_inb (by omega)]; omega), z_nat (by omega), (v.2.2.2 q hq).2.2.2.2.2 j hj]
theorem vf_loc {f : Nat} {x : Fr} {i : Nat} {z : Int32} (n01 : E.2 f 0 ≠ E.2 f 1) (v : VF E S f x) : VF E (sG S (E.2 f 0) i z) f (up1 x.1 i z, x.2) := by
  refine ⟨fun j hj => ?_, fun j hj => (up2_n _ _ (fun e => n01 e.1.symm)).trans (v.2.1 j hj), v.2.2.1, v.2.2.2⟩
  show up2 S.2.1 (E.2 f 0) i z (E.2 f 0) j = up1 x.1 i z j
  by_cases e : j = i
  · rw [e, up2_s, up1_s]
  · rw [up2_n _ _ (fun w => e w.2), up1_n _ _ e]; exact v.1 j hj
theorem m_layL_4 {J f q : Nat} (hE : WE E) (hI : Inj E) (hf : E.1 f = some (0, 2, 0)) (hB : E.1 (E.2 J 5) = some (0, 7, 0)) (hA : EI A) (hq : q < mcnt A.2.1) {s : Nat → Int32} {h : Nat} {b : Bool} : ∀ (k j n F : Nat) (S : St) (l : Nat → Int32), j + k = mpcn A.2.1 q → k + 1 ≤ F → n + psF (mpty A.2.1 q) j k ≤ 12 → VMb E S (E.2 J 5) A.2.1 → VF E S f (l, s, h, b) → ∃ S', lp_X0_makeFirstFrame_4_95 fu E J f F (n32 q) (n32 n) (n32 j) S = some S' ∧ VF E S' f (layP (mpty A.2.1 q) j k n l, s, h, b) ∧ Ag (PF E f) S S' := by
  have h30 := hA.2.1.2.1
  have mq := hA.2.1.2.2.2 q hq
  have hin : inb (n32 q) 30 = true := by rw [z_inb (by omega)]; omega
  have n01 : E.2 f 0 ≠ E.2 f 1 := pf_ar hE hI hf hf (by decide) (by decide) (fun e => by simp at e)
  have nB := nop_PF hE hI hf hB (by decide)
  intro k
  induction k with
  | zero =>
    intro j n F S l hj hF hn vB v
    obtain ⟨F, rfl⟩ : ∃ z, F = z + 1 := ⟨F - 1, by omega⟩
    refine ⟨S, ?_, v, Ag_refl⟩
    show bd_X0_makeFirstFrame_4_95 fu E J f _ (n32 q) (n32 n) (n32 j) S = _
    unfold bd_X0_makeFirstFrame_4_95
    rw [if_pos hin, z_nat (by omega), (vB.2.2.2 q hq).2.2.2.1, zi_le (by omega) (by omega), if_pos (by omega)]
  | succ k ih =>
    intro j n F S l hj hF hn vB v
    obtain ⟨F, rfl⟩ : ∃ z, F = z + 1 := ⟨F - 1, by omega⟩
    have tj := isT_lt hA.1 (mq.2.2.2.2.2.2 j (by omega))
    have hn' : n + (wide (mpty A.2.1 q j) + psF (mpty A.2.1 q) (j + 1) k) ≤ 12 := hn
    show ∃ S', bd_X0_makeFirstFrame_4_95 fu E J f (lp_X0_makeFirstFrame_4_95 fu E J f F) (n32 q) (n32 n) (n32 j) S = some S' ∧ VF E S' f (layP (mpty A.2.1 q) (j + 1) k (n + wide (mpty A.2.1 q j)) (if mpty A.2.1 q j = 8 then up1 (up1 l n 8) (n + 1) (-3) else up1 l n (n32 (mpty A.2.1 q j))), s, h, b) ∧ _
    unfold bd_X0_makeFirstFrame_4_95 jb_X0_makeFirstFrame_4_148 bnd
    dsimp only
    rw [if_pos hin, z_nat (show q < 2 ^ 31 by omega), (vB.2.2.2 q hq).2.2.2.1, zi_le (by omega) (by omega), if_neg (by omega), t_par hA vB hq (by omega), Option.bind_some]
    dsimp only
    unfold wide at hn' ⊢
    by_cases c : mpty A.2.1 q j = 8
    · rw [if_pos c] at hn' ⊢
      rw [if_pos (by rw [z_inb (by omega)]; omega), z_nat (show n < 2 ^ 31 by omega), c, if_pos (show n32 8 = 8 from rfl), show n32 n + 1 = n32 (n + 1) from z_add n 1, if_pos (by rw [z_inb (by omega)]; omega), z_nat (show n + 1 < 2 ^ 31 by omega)]
      have a1 : Ag (PF E f) S (sG (sG S (E.2 f 0) n (n32 8)) (E.2 f 0) (n + 1) (-3)) := Ag_trans (Ag_mono sG_ag (fun q z => Or.inr (Or.inl z))) (Ag_mono sG_ag (fun q z => Or.inr (Or.inl z)))
      rw [t_slots (by decide), Option.bind_some]
      dsimp only
      rw [z_add, show n32 j + 1 = n32 (j + 1) from z_add j 1]
      obtain ⟨S', e, v', a'⟩ := ih (j + 1) (n + 2) F _ _ (by omega) (by omega) (by omega) (vmb_ag vB a1 nB) (vf_loc n01 (vf_loc n01 v))
      exact ⟨S', e, v', Ag_trans a1 a'⟩
    · simp only [if_neg c] at hn' ⊢
      rw [if_pos (by rw [z_inb (by omega)]; omega), z_nat (show n < 2 ^ 31 by omega), show (8 : Int32) = n32 8 from rfl, zi_eq (by omega) (by decide), if_neg c, t_slots (by omega), Option.bind_some]
      have a1 : Ag (PF E f) S (sG S (E.2 f 0) n (n32 (mpty A.2.1 q j))) := Ag_mono sG_ag (fun q z => Or.inr (Or.inl z))
      dsimp only
      unfold wide
      rw [if_neg c, z_add, show n32 j + 1 = n32 (j + 1) from z_add j 1]
      obtain ⟨S', e, v', a'⟩ := ih (j + 1) (n + 1) F _ _ (by omega) (by omega) (by omega) (vmb_ag vB a1 nB) (vf_loc n01 v)
      exact ⟨S', e, v', Ag_trans a1 a'⟩
theorem m_first_4 {J f : Nat} (hfu : 200 ≤ fu) (hE : WE E) (hI : Inj E) (hf : E.1 f = some (0, 2, 0)) (hB : E.1 (E.2 J 5) = some (0, 7, 0)) (hC : E.1 (E.2 J 0) = some (0, 0, 0)) (hA : EI A) (hs : cst A.2.2 = true) (hn : need A.2.1 (cme A.2.2) ≤ cloc A.2.2) (vB : VMb E S (E.2 J 5) A.2.1) (vC : VCd E S (E.2 J 0) A.2.2) : ∃ S', sp_X0_makeFirstFrame_4 fu E S J f = some S' ∧ VF E S' f (aFst A) ∧ Ag (PF E f) S S' := by
  have h30 := hA.2.1.2.1
  have hl := hA.2.2.2.2.1
  have h20 := hA.1.2.1
  have hme := hA.2.2.1 hs
  have mm := hA.2.1.2.2.2 _ hme
  have hin : inb (n32 (cme A.2.2)) 30 = true := by rw [z_inb (by omega)]; omega
  have n01 : E.2 f 0 ≠ E.2 f 1 := pf_ar hE hI hf hf (by decide) (by decide) (fun e => by simp at e)
  have nB := nop_PF hE hI hf hB (by decide)
  have nC := nop_PF hE hI hf hC (by decide)
  obtain ⟨S1, e1, v1, a1⟩ := f_clear (S := S) hfu hE hI hf (fun _ => -2)
  have vB1 := vmb_ag vB a1 nB
  have vC1 := vcd_ag vC a1 nC
  have hb := vB1.2.2.2 _ hme
  unfold sp_X0_makeFirstFrame_4 bnd
  rw [e1, Option.bind_some]
  dsimp only
  rw [vC1.2.1, if_pos hin, if_pos hin, if_pos hin, z_nat (by omega), hb.1, hb.2.1, show (1 : Int32) = n32 1 from rfl, zi_eq (by omega) (by decide), show n32 1 = (1 : Int32) from rfl]
  unfold aFst fstL need mslo at *
  by_cases c : mkin A.2.1 (cme A.2.2) = 1
  · rw [if_pos c] at hn
    rw [if_pos c, if_pos c, decide_eq_false (show ¬ (mkin A.2.1 (cme A.2.2) ≠ 1) from fun z => z c), Bool.false_and]
    obtain ⟨S2, e2, v2, a2⟩ := m_layL_4 (fu := fu) hE hI hf hB hA hme (mpcn A.2.1 (cme A.2.2)) 0 0 fu S1 _ (by omega) (by have := mm.2.2.2.2.1; omega) (by rw [psF_0]; omega) vB1 v1
    exact ⟨S2, e2, v2, Ag_trans a1 a2⟩
  · rw [if_neg c] at hn
    rw [if_neg c, if_neg c, decide_eq_true c, Bool.true_and]
    have go : ∀ w : Bool, ∃ S', jb_X0_makeFirstFrame_4_61 fu E J f (n32 (cme A.2.2)) (n32 (mown A.2.1 (cme A.2.2))) (b2 w) S1 = some S' ∧ VF E S' f (layP (mpty A.2.1 (cme A.2.2)) 0 (mpcn A.2.1 (cme A.2.2)) 1 (up1 (fun _ => -2) 0 (if w = true then -4 else n32 (8 * mown A.2.1 (cme A.2.2)))), (fun _ => -2), 0, w) ∧ Ag (PF E f) S S' := by
      intro w
      have fin : ∀ z : Int32, ∃ S', jb_X0_makeFirstFrame_4_82 fu E J f (E.2 f 0) (n32 (cme A.2.2)) (b2 w) 0 z S1 = some S' ∧ VF E S' f (layP (mpty A.2.1 (cme A.2.2)) 0 (mpcn A.2.1 (cme A.2.2)) 1 (up1 (fun _ => -2) 0 z), (fun _ => -2), 0, w) ∧ Ag (PF E f) S S' := by
        intro z
        unfold jb_X0_makeFirstFrame_4_82 bnd
        rw [if_pos (by decide)]
        dsimp only
        rw [if_pos b2_isB, c0n]
        have a2 : Ag (PF E f) S1 (sF (sG S1 (E.2 f 0) 0 z) f 3 (b2 w)) := Ag_trans (Ag_mono sG_ag (fun q z => Or.inr (Or.inl z))) (Ag_mono sF_ag (fun q z => Or.inl z))
        have v2 := vf_loc (i := 0) (z := z) n01 v1
        have v3 : VF E (sF (sG S1 (E.2 f 0) 0 z) f 3 (b2 w)) f (up1 (fun _ => -2) 0 z, (fun _ => -2), 0, w) := ⟨v2.1, v2.2.1, (up2_n _ _ (fun e => by simp at e)).trans v2.2.2.1, up2_s _ _⟩
        obtain ⟨S3, e3, v4, a3⟩ := m_layL_4 (fu := fu) hE hI hf hB hA hme (mpcn A.2.1 (cme A.2.2)) 0 1 fu _ _ (by omega) (by have := mm.2.2.2.2.1; omega) (by rw [psF_0]; omega) (vmb_ag vB1 a2 nB) v3
        exact ⟨S3, e3, v4, Ag_trans a1 (Ag_trans a2 a3)⟩
      unfold jb_X0_makeFirstFrame_4_61
      cases w with
      | true => exact fin (-4)
      | false =>
        have := fin (n32 (8 * mown A.2.1 (cme A.2.2)))
        rw [← show (8 : Int32) * n32 (mown A.2.1 (cme A.2.2)) = n32 (8 * mown A.2.1 (cme A.2.2)) from z_mul 8 _] at this
        rw [if_pos (show b2 false = 0 from rfl), if_neg (show ¬ false = true by decide), ← show (8 : Int32) * n32 (mown A.2.1 (cme A.2.2)) = n32 (8 * mown A.2.1 (cme A.2.2)) from z_mul 8 _]
        exact this
    rw [show (2 : Int32) = n32 2 from rfl, zi_eq (by omega) (by decide), zi_eq (by omega) (by decide)]
    unfold isNw
    by_cases c2 : mkin A.2.1 (cme A.2.2) = 2
    · rw [if_pos c2, decide_eq_true c2, Bool.true_and]
      by_cases c3 : mown A.2.1 (cme A.2.2) = 2
      · rw [if_pos c3, decide_eq_true c3]
        exact go false
      · rw [if_neg c3, decide_eq_false c3]
        exact go true
    · rw [if_neg c2, decide_eq_false c2, Bool.false_and]
      exact go false
theorem m_layL_5 {J f q : Nat} (hE : WE E) (hI : Inj E) (hf : E.1 f = some (0, 2, 0)) (hB : E.1 (E.2 J 5) = some (0, 7, 0)) (hA : EI A) (hq : q < mcnt A.2.1) {s : Nat → Int32} {h : Nat} {b : Bool} : ∀ (k j n F : Nat) (S : St) (l : Nat → Int32), j + k = mpcn A.2.1 q → k + 1 ≤ F → n + psF (mpty A.2.1 q) j k ≤ 12 → VMb E S (E.2 J 5) A.2.1 → VF E S f (l, s, h, b) → ∃ S', lp_X0_makeFirstFrame_5_95 fu E J f F (n32 q) (n32 n) (n32 j) S = some S' ∧ VF E S' f (layP (mpty A.2.1 q) j k n l, s, h, b) ∧ Ag (PF E f) S S' := by
  have h30 := hA.2.1.2.1
  have mq := hA.2.1.2.2.2 q hq
  have hin : inb (n32 q) 30 = true := by rw [z_inb (by omega)]; omega
  have n01 : E.2 f 0 ≠ E.2 f 1 := pf_ar hE hI hf hf (by decide) (by decide) (fun e => by simp at e)
  have nB := nop_PF hE hI hf hB (by decide)
  intro k
  induction k with
  | zero =>
    intro j n F S l hj hF hn vB v
    obtain ⟨F, rfl⟩ : ∃ z, F = z + 1 := ⟨F - 1, by omega⟩
    refine ⟨S, ?_, v, Ag_refl⟩
    show bd_X0_makeFirstFrame_5_95 fu E J f _ (n32 q) (n32 n) (n32 j) S = _
    unfold bd_X0_makeFirstFrame_5_95
    rw [if_pos hin, z_nat (by omega), (vB.2.2.2 q hq).2.2.2.1, zi_le (by omega) (by omega), if_pos (by omega)]
  | succ k ih =>
    intro j n F S l hj hF hn vB v
    obtain ⟨F, rfl⟩ : ∃ z, F = z + 1 := ⟨F - 1, by omega⟩
    have tj := isT_lt hA.1 (mq.2.2.2.2.2.2 j (by omega))
    have hn' : n + (wide (mpty A.2.1 q j) + psF (mpty A.2.1 q) (j + 1) k) ≤ 12 := hn
    show ∃ S', bd_X0_makeFirstFrame_5_95 fu E J f (lp_X0_makeFirstFrame_5_95 fu E J f F) (n32 q) (n32 n) (n32 j) S = some S' ∧ VF E S' f (layP (mpty A.2.1 q) (j + 1) k (n + wide (mpty A.2.1 q j)) (if mpty A.2.1 q j = 8 then up1 (up1 l n 8) (n + 1) (-3) else up1 l n (n32 (mpty A.2.1 q j))), s, h, b) ∧ _
    unfold bd_X0_makeFirstFrame_5_95 jb_X0_makeFirstFrame_5_148 bnd
    dsimp only
    rw [if_pos hin, z_nat (show q < 2 ^ 31 by omega), (vB.2.2.2 q hq).2.2.2.1, zi_le (by omega) (by omega), if_neg (by omega), t_par hA vB hq (by omega), Option.bind_some]
    dsimp only
    unfold wide at hn' ⊢
    by_cases c : mpty A.2.1 q j = 8
    · rw [if_pos c] at hn' ⊢
      rw [if_pos (by rw [z_inb (by omega)]; omega), z_nat (show n < 2 ^ 31 by omega), c, if_pos (show n32 8 = 8 from rfl), show n32 n + 1 = n32 (n + 1) from z_add n 1, if_pos (by rw [z_inb (by omega)]; omega), z_nat (show n + 1 < 2 ^ 31 by omega)]
      have a1 : Ag (PF E f) S (sG (sG S (E.2 f 0) n (n32 8)) (E.2 f 0) (n + 1) (-3)) := Ag_trans (Ag_mono sG_ag (fun q z => Or.inr (Or.inl z))) (Ag_mono sG_ag (fun q z => Or.inr (Or.inl z)))
      rw [t_slots (by decide), Option.bind_some]
      dsimp only
      rw [z_add, show n32 j + 1 = n32 (j + 1) from z_add j 1]
      obtain ⟨S', e, v', a'⟩ := ih (j + 1) (n + 2) F _ _ (by omega) (by omega) (by omega) (vmb_ag vB a1 nB) (vf_loc n01 (vf_loc n01 v))
      exact ⟨S', e, v', Ag_trans a1 a'⟩
    · simp only [if_neg c] at hn' ⊢
      rw [if_pos (by rw [z_inb (by omega)]; omega), z_nat (show n < 2 ^ 31 by omega), show (8 : Int32) = n32 8 from rfl, zi_eq (by omega) (by decide), if_neg c, t_slots (by omega), Option.bind_some]
      have a1 : Ag (PF E f) S (sG S (E.2 f 0) n (n32 (mpty A.2.1 q j))) := Ag_mono sG_ag (fun q z => Or.inr (Or.inl z))
      dsimp only
      unfold wide
      rw [if_neg c, z_add, show n32 j + 1 = n32 (j + 1) from z_add j 1]
      obtain ⟨S', e, v', a'⟩ := ih (j + 1) (n + 1) F _ _ (by omega) (by omega) (by omega) (vmb_ag vB a1 nB) (vf_loc n01 v)
      exact ⟨S', e, v', Ag_trans a1 a'⟩
theorem m_first_5 {J f : Nat} (hfu : 200 ≤ fu) (hE : WE E) (hI : Inj E) (hf : E.1 f = some (0, 2, 0)) (hB : E.1 (E.2 J 5) = some (0, 7, 0)) (hC : E.1 (E.2 J 0) = some (0, 0, 0)) (hA : EI A) (hs : cst A.2.2 = true) (hn : need A.2.1 (cme A.2.2) ≤ cloc A.2.2) (vB : VMb E S (E.2 J 5) A.2.1) (vC : VCd E S (E.2 J 0) A.2.2) : ∃ S', sp_X0_makeFirstFrame_5 fu E S J f = some S' ∧ VF E S' f (aFst A) ∧ Ag (PF E f) S S' := by
  have h30 := hA.2.1.2.1
  have hl := hA.2.2.2.2.1
  have h20 := hA.1.2.1
  have hme := hA.2.2.1 hs
  have mm := hA.2.1.2.2.2 _ hme
  have hin : inb (n32 (cme A.2.2)) 30 = true := by rw [z_inb (by omega)]; omega
  have n01 : E.2 f 0 ≠ E.2 f 1 := pf_ar hE hI hf hf (by decide) (by decide) (fun e => by simp at e)
  have nB := nop_PF hE hI hf hB (by decide)
  have nC := nop_PF hE hI hf hC (by decide)
  obtain ⟨S1, e1, v1, a1⟩ := f_clear (S := S) hfu hE hI hf (fun _ => -2)
  have vB1 := vmb_ag vB a1 nB
  have vC1 := vcd_ag vC a1 nC
  have hb := vB1.2.2.2 _ hme
  unfold sp_X0_makeFirstFrame_5 bnd
  rw [e1, Option.bind_some]
  dsimp only
  rw [vC1.2.1, if_pos hin, if_pos hin, if_pos hin, z_nat (by omega), hb.1, hb.2.1, show (1 : Int32) = n32 1 from rfl, zi_eq (by omega) (by decide), show n32 1 = (1 : Int32) from rfl]
  unfold aFst fstL need mslo at *
  by_cases c : mkin A.2.1 (cme A.2.2) = 1
  · rw [if_pos c] at hn
    rw [if_pos c, if_pos c, decide_eq_false (show ¬ (mkin A.2.1 (cme A.2.2) ≠ 1) from fun z => z c), Bool.false_and]
    obtain ⟨S2, e2, v2, a2⟩ := m_layL_5 (fu := fu) hE hI hf hB hA hme (mpcn A.2.1 (cme A.2.2)) 0 0 fu S1 _ (by omega) (by have := mm.2.2.2.2.1; omega) (by rw [psF_0]; omega) vB1 v1
    exact ⟨S2, e2, v2, Ag_trans a1 a2⟩
  · rw [if_neg c] at hn
    rw [if_neg c, if_neg c, decide_eq_true c, Bool.true_and]
    have go : ∀ w : Bool, ∃ S', jb_X0_makeFirstFrame_5_61 fu E J f (n32 (cme A.2.2)) (n32 (mown A.2.1 (cme A.2.2))) (b2 w) S1 = some S' ∧ VF E S' f (layP (mpty A.2.1 (cme A.2.2)) 0 (mpcn A.2.1 (cme A.2.2)) 1 (up1 (fun _ => -2) 0 (if w = true then -4 else n32 (8 * mown A.2.1 (cme A.2.2)))), (fun _ => -2), 0, w) ∧ Ag (PF E f) S S' := by
      intro w
      have fin : ∀ z : Int32, ∃ S', jb_X0_makeFirstFrame_5_82 fu E J f (E.2 f 0) (n32 (cme A.2.2)) (b2 w) 0 z S1 = some S' ∧ VF E S' f (layP (mpty A.2.1 (cme A.2.2)) 0 (mpcn A.2.1 (cme A.2.2)) 1 (up1 (fun _ => -2) 0 z), (fun _ => -2), 0, w) ∧ Ag (PF E f) S S' := by
        intro z
        unfold jb_X0_makeFirstFrame_5_82 bnd
        rw [if_pos (by decide)]
        dsimp only
        rw [if_pos b2_isB, c0n]
        have a2 : Ag (PF E f) S1 (sF (sG S1 (E.2 f 0) 0 z) f 3 (b2 w)) := Ag_trans (Ag_mono sG_ag (fun q z => Or.inr (Or.inl z))) (Ag_mono sF_ag (fun q z => Or.inl z))
        have v2 := vf_loc (i := 0) (z := z) n01 v1
        have v3 : VF E (sF (sG S1 (E.2 f 0) 0 z) f 3 (b2 w)) f (up1 (fun _ => -2) 0 z, (fun _ => -2), 0, w) := ⟨v2.1, v2.2.1, (up2_n _ _ (fun e => by simp at e)).trans v2.2.2.1, up2_s _ _⟩
        obtain ⟨S3, e3, v4, a3⟩ := m_layL_5 (fu := fu) hE hI hf hB hA hme (mpcn A.2.1 (cme A.2.2)) 0 1 fu _ _ (by omega) (by have := mm.2.2.2.2.1; omega) (by rw [psF_0]; omega) (vmb_ag vB1 a2 nB) v3
        exact ⟨S3, e3, v4, Ag_trans a1 (Ag_trans a2 a3)⟩
      unfold jb_X0_makeFirstFrame_5_61
      cases w with
      | true => exact fin (-4)
      | false =>
        have := fin (n32 (8 * mown A.2.1 (cme A.2.2)))
        rw [← show (8 : Int32) * n32 (mown A.2.1 (cme A.2.2)) = n32 (8 * mown A.2.1 (cme A.2.2)) from z_mul 8 _] at this
        rw [if_pos (show b2 false = 0 from rfl), if_neg (show ¬ false = true by decide), ← show (8 : Int32) * n32 (mown A.2.1 (cme A.2.2)) = n32 (8 * mown A.2.1 (cme A.2.2)) from z_mul 8 _]
        exact this
    rw [show (2 : Int32) = n32 2 from rfl, zi_eq (by omega) (by decide), zi_eq (by omega) (by decide)]
    unfold isNw
    by_cases c2 : mkin A.2.1 (cme A.2.2) = 2
    · rw [if_pos c2, decide_eq_true c2, Bool.true_and]
      by_cases c3 : mown A.2.1 (cme A.2.2) = 2
      · rw [if_pos c3, decide_eq_true c3]
        exact go false
      · rw [if_neg c3, decide_eq_false c3]
        exact go true
    · rw [if_neg c2, decide_eq_false c2, Bool.false_and]
      exact go false
end FF
