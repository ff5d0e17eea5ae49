def hBase (c : Cd) (h : Nat) : Bool := decide (0 ≤ chs c h) && (!decide (che c h ≤ chs c h) && (decide (che c h ≤ n32 (cn c)) && idx c (cht c h)))
def hPair (c : Cd) (h j : Nat) : Bool := decide (che c j ≤ chs c h) || (decide (che c h ≤ chs c j) || (decide (chs c h ≤ chs c j) && decide (che c j ≤ che c h)))
def hFrom (c : Cd) (h : Nat) : Nat → Nat → Bool
  | _, 0 => true
  | j, k + 1 => hPair c h j && hFrom c h (j + 1) k
def hOk (c : Cd) (h : Nat) : Bool := hBase c h && hFrom c h 0 h
def fHd (c : Cd) : Nat → Nat → Option Nat
  | _, 0 => none
  | h, k + 1 => if hOk c h = true then fHd c (h + 1) k else some h
def fOp (A : Enw) : Nat → Nat → Option Nat
  | _, 0 => none
  | i, k + 1 => if opOk A (cop A.2.2 i) (cx A.2.2 i) = true then fOp A (i + 1) k else some i
def exN (A : Enw) : Int32 × Int32 := if need A.2.1 (cme A.2.2) ≤ cloc A.2.2 then (0, -1) else (11, 0)
def exH (A : Enw) (o : Option Nat) : Int32 × Int32 := match o with
  | some h => (2, n32 h)
  | none => exN A
def exO (A : Enw) (o : Option Nat) : Int32 × Int32 := match o with
  | some i => (1, n32 i)
  | none => exH A (fHd A.2.2 0 (chn A.2.2))
def exam (A : Enw) : Int32 × Int32 := if cn A.2.2 = 0 then (7, 0) else exO A (fOp A 0 (cn A.2.2))
section HC
variable {E : Ev} {S : St} {X fu : Nat} {A : Enw}
theorem t_hdL (hA : EI A) (v : VEnv E S (E.2 X 0) (E.2 X 1) (E.2 X 2) A) {h : Nat} (hh : h < chn A.2.2) : ∀ (k j F : Nat), j + k = h → k + 1 ≤ F → lp_X2_isHandlerAllowed_76 fu E X F (n32 h) (chs A.2.2 h) (che A.2.2 h) (n32 j) S = some (b2 (hFrom A.2.2 h j k), S) := by
  have h10 := hA.2.2.2.2.2.2.1
  intro k
  induction k with
  | zero =>
    intro j F hj hF
    obtain ⟨F, rfl⟩ : ∃ z, F = z + 1 := ⟨F - 1, by omega⟩
    show bd_X2_isHandlerAllowed_76 fu E X _ (n32 h) _ _ (n32 j) S = _
    unfold bd_X2_isHandlerAllowed_76
    rw [zi_le (by omega) (by omega), if_pos (by omega)]
    rfl
  | succ k ih =>
    intro j F hj hF
    obtain ⟨F, rfl⟩ : ∃ z, F = z + 1 := ⟨F - 1, by omega⟩
    have hv := v.2.2.2.2.2.2.2.2.2 j (by omega)
    have hin : inb (n32 j) 10 = true := by rw [z_inb (by omega)]; omega
    show bd_X2_isHandlerAllowed_76 fu E X (lp_X2_isHandlerAllowed_76 fu E X F) (n32 h) _ _ (n32 j) S = some (b2 (hPair A.2.2 h j && hFrom A.2.2 h (j + 1) k), S)
    unfold bd_X2_isHandlerAllowed_76 jb_X2_isHandlerAllowed_115 jb_X2_isHandlerAllowed_150
    rw [zi_le (by omega) (by omega), if_neg (by omega), if_pos hin, z_nat (by omega), hv.1, hv.2.1, show n32 j + 1 = n32 (j + 1) from z_add j 1, ih (j + 1) F (by omega) (by omega)]
    unfold hPair
    simp only [hin, ile_ite, ilt_ite]
    generalize decide (che A.2.2 j ≤ chs A.2.2 h) = b1
    generalize decide (che A.2.2 h ≤ chs A.2.2 j) = b2'
    generalize decide (chs A.2.2 h ≤ chs A.2.2 j) = b3
    generalize decide (che A.2.2 j ≤ che A.2.2 h) = b4
    cases b1 <;> cases b2' <;> cases b3 <;> cases b4 <;> rfl
theorem t_hOk (hA : EI A) (hfu : 200 ≤ fu) (v : VEnv E S (E.2 X 0) (E.2 X 1) (E.2 X 2) A) {h : Nat} (hh : h < chn A.2.2) : sp_X2_isHandlerAllowed fu E S X (n32 h) = some (b2 (hOk A.2.2 h), S) := by
  have h10 := hA.2.2.2.2.2.2.1
  have h100 := hA.2.2.2.2.2.1
  have hv := v.2.2.2.2.2.2.2.2.2 h hh
  have hin : inb (n32 h) 10 = true := by rw [z_inb (by omega)]; omega
  unfold sp_X2_isHandlerAllowed bnd jb_X2_isHandlerAllowed_45
  dsimp only
  rw [if_pos hin, if_pos hin, z_nat (by omega), hv.1, hv.2.1, hv.2.2.1, if_pos hin, t_idx v.2.2 h100, Option.bind_some]
  dsimp only
  rw [show lp_X2_isHandlerAllowed_76 fu E X fu (n32 h) (chs A.2.2 h) (che A.2.2 h) 0 S = some (b2 (hFrom A.2.2 h 0 h), S) from t_hdL hA v hh h 0 fu (by omega) (by omega), v.2.2.2.2.2.2.1]
  unfold hOk hBase
  simp only [ile_ite, ilt_ite]
  rw [b2_if]
  generalize decide (0 ≤ chs A.2.2 h) = b1
  generalize decide (che A.2.2 h ≤ chs A.2.2 h) = b2'
  generalize decide (che A.2.2 h ≤ n32 (cn A.2.2)) = b3
  generalize idx A.2.2 (cht A.2.2 h) = b4
  cases b1 <;> cases b2' <;> cases b3 <;> cases b4 <;> rfl
theorem t_need (hA : EI A) (v : VMb E S X A.2.1) {q : Nat} (hq : q < mcnt A.2.1) : sp_X8_slotsNeeded fu E S X (n32 q) = some (n32 (need A.2.1 q), S) := by
  have h30 := hA.2.1.2.1
  have hin : inb (n32 q) 30 = true := by rw [z_inb (by omega)]; omega
  have hv := v.2.2.2 q hq
  have mk := (hA.2.1.2.2.2 q hq).2.2.1
  unfold sp_X8_slotsNeeded need
  rw [if_pos hin, if_pos hin, z_nat (by omega), hv.2.1, hv.2.2.2.2.1, show (1 : Int32) = n32 1 from rfl, zi_eq (by omega) (by decide)]
  by_cases h : mkin A.2.1 q = 1
  · rw [if_pos h, if_pos h, show (0 : Int32) = n32 0 from rfl, z_add]
  · rw [if_neg h, if_neg h, z_add]
theorem t_exH (hA : EI A) (hs : cst A.2.2 = true) (hfu : 200 ≤ fu) (hE : WE E) (hX : E.1 X = some (0, 1, 0)) (v : VEnv E S (E.2 X 0) (E.2 X 1) (E.2 X 2) A) (h0 : S.1 X 3 = 0) : ∀ (k h F : Nat), h + k = chn A.2.2 → k + 1 ≤ F → ∃ S', lp_X2_run_71 fu E X F (n32 h) S = some ((exH A (fHd A.2.2 h k)).1, S') ∧ S'.1 X 3 = (exH A (fHd A.2.2 h k)).2 ∧ Ag (fun q => q = X) S S' := by
  have h10 := hA.2.2.2.2.2.2.1
  have hme := hA.2.2.1 hs
  have h30 := hA.2.1.2.1
  have hl := hA.2.2.2.2.1
  have mm := hA.2.1.2.2.2 _ hme
  intro k
  induction k with
  | zero =>
    intro h F hk hF
    obtain ⟨F, rfl⟩ : ∃ z, F = z + 1 := ⟨F - 1, by omega⟩
    show ∃ S', bd_X2_run_71 fu E X _ (n32 h) S = some ((exN A).1, S') ∧ S'.1 X 3 = (exN A).2 ∧ _
    unfold bd_X2_run_71 exN
    rw [v.2.2.2.2.2.2.2.1, zi_le (by omega) (by omega), if_pos (by omega), v.2.2.2.1, t_need hA v.2.1 hme, Option.bind_some]
    dsimp only
    have hneed : need A.2.1 (cme A.2.2) ≤ 7 := by
      unfold need
      have := mm.2.2.2.2.2.1
      split <;> omega
    rw [v.2.2.2.2.2.1, zi_le (by omega) (by omega)]
    by_cases hn : need A.2.1 (cme A.2.2) ≤ cloc A.2.2
    · rw [if_pos hn, if_pos hn]
      exact ⟨_, rfl, up2_s _ _, sF_ag⟩
    · rw [if_neg hn, if_neg hn]
      exact ⟨S, rfl, h0, Ag_refl⟩
  | succ k ih =>
    intro h F hk hF
    obtain ⟨F, rfl⟩ : ∃ z, F = z + 1 := ⟨F - 1, by omega⟩
    show ∃ S', bd_X2_run_71 fu E X (lp_X2_run_71 fu E X F) (n32 h) S = some ((exH A (if hOk A.2.2 h = true then fHd A.2.2 (h + 1) k else some h)).1, S') ∧ S'.1 X 3 = (exH A (if hOk A.2.2 h = true then fHd A.2.2 (h + 1) k else some h)).2 ∧ _
    unfold bd_X2_run_71
    rw [v.2.2.2.2.2.2.2.1, zi_le (by omega) (by omega), if_neg (by omega), t_hOk hA hfu v (by omega), Option.bind_some, b2_if]
    by_cases ho : hOk A.2.2 h = true
    · rw [if_pos ho, if_pos ho, show n32 h + 1 = n32 (h + 1) from z_add h 1]
      exact ih (h + 1) F (by omega) (by omega)
    · rw [if_neg ho, if_neg ho]
      exact ⟨_, rfl, up2_s _ _, sF_ag⟩
theorem t_exO (hA : EI A) (hs : cst A.2.2 = true) (hfu : 200 ≤ fu) (hE : WE E) (hX : E.1 X = some (0, 1, 0)) (v : VEnv E S (E.2 X 0) (E.2 X 1) (E.2 X 2) A) (h0 : S.1 X 3 = 0) : ∀ (k i F : Nat), i + k = cn A.2.2 → k + 1 ≤ F → ∃ S', lp_X2_run_20 fu E X F (n32 i) S = some ((exO A (fOp A i k)).1, S') ∧ S'.1 X 3 = (exO A (fOp A i k)).2 ∧ Ag (fun q => q = X) S S' := by
  have h100 := hA.2.2.2.2.2.1
  have h10 := hA.2.2.2.2.2.2.1
  intro k
  induction k with
  | zero =>
    intro i F hk hF
    obtain ⟨F, rfl⟩ : ∃ z, F = z + 1 := ⟨F - 1, by omega⟩
    show ∃ S', bd_X2_run_20 fu E X _ (n32 i) S = some ((exH A (fHd A.2.2 0 (chn A.2.2))).1, S') ∧ S'.1 X 3 = (exH A (fHd A.2.2 0 (chn A.2.2))).2 ∧ _
    unfold bd_X2_run_20
    rw [v.2.2.2.2.2.2.1, zi_le (by omega) (by omega), if_pos (by omega)]
    exact t_exH hA hs hfu hE hX v h0 (chn A.2.2) 0 fu (by omega) (by omega)
  | succ k ih =>
    intro i F hk hF
    obtain ⟨F, rfl⟩ : ∃ z, F = z + 1 := ⟨F - 1, by omega⟩
    have vi := v.2.2.2.2.2.2.2.2.1 i (by omega)
    have hin : inb (n32 i) 100 = true := by rw [z_inb (by omega)]; omega
    show ∃ S', bd_X2_run_20 fu E X (lp_X2_run_20 fu E X F) (n32 i) S = some ((exO A (if opOk A (cop A.2.2 i) (cx A.2.2 i) = true then fOp A (i + 1) k else some i)).1, S') ∧ S'.1 X 3 = (exO A (if opOk A (cop A.2.2 i) (cx A.2.2 i) = true then fOp A (i + 1) k else some i)).2 ∧ _
    unfold bd_X2_run_20
    rw [v.2.2.2.2.2.2.1, zi_le (by omega) (by omega), if_neg (by omega), if_pos hin, if_pos hin, z_nat (by omega), vi.1, vi.2, t_opOk hA v (hA.2.2.2.2.2.2.2.1 i (by omega)), Option.bind_some, b2_if]
    by_cases ho : opOk A (cop A.2.2 i) (cx A.2.2 i) = true
    · rw [if_pos ho, if_pos ho, show n32 i + 1 = n32 (i + 1) from z_add i 1]
      exact ih (i + 1) F (by omega) (by omega)
    · rw [if_neg ho, if_neg ho]
      exact ⟨_, rfl, up2_s _ _, sF_ag⟩
theorem t_exam (hA : EI A) (hs : cst A.2.2 = true) (hfu : 200 ≤ fu) (hE : WE E) (hX : E.1 X = some (0, 1, 0)) (v : VEnv E S (E.2 X 0) (E.2 X 1) (E.2 X 2) A) : ∃ S', sp_X2_run fu E S X = some ((exam A).1, S') ∧ S'.1 X 3 = (exam A).2 ∧ Ag (fun q => q = X) S S' := by
  have h100 := hA.2.2.2.2.2.1
  have hT := hE.2.1 X 1 0 _ hX rfl
  have hB := hE.2.1 X 1 1 _ hX rfl
  have hC := hE.2.1 X 1 2 _ hX rfl
  have v1 : VEnv E (sF S X 3 0) (E.2 X 0) (E.2 X 1) (E.2 X 2) A := venv_ag v (sF_ag (S := S) (a := X) (j := 3) (x := 0)) (nop_one hE hX hT (by decide)) (nop_one hE hX hB (by decide)) (nop_one hE hX hC (by decide))
  unfold sp_X2_run bnd exam
  dsimp only
  rw [v1.2.2.2.2.2.2.1, show (0 : Int32) = n32 0 from rfl, zi_eq (by omega) (by decide)]
  by_cases h : cn A.2.2 = 0
  · rw [if_pos h, if_pos h]
    exact ⟨_, rfl, up2_s _ _, sF_ag⟩
  · rw [if_neg h, if_neg h]
    obtain ⟨S', e, e3, a⟩ := t_exO hA hs hfu hE hX v1 (up2_s _ _) (cn A.2.2) 0 fu (by omega) (by omega)
    exact ⟨S', e, e3, Ag_trans sF_ag a⟩
end HC
