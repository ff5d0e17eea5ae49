/-! handlers looked at; the examination of both sides -/
def hBase (c : Cd) (h : Nat) : Bool := decide (0 ≤ chs c h) && (!decide (che c h ≤ chs c h) && (decide (che c h ≤ n32 (cn c)) && idx c (cht c h)))
def hPair (c : Cd) (h j : Nat) : Bool := decide (che c j ≤ chs c h) || (decide (che c h ≤ chs c j) || (decide (chs c h ≤ chs c j) && decide (che c j ≤ che c h)))
def hFrom (c : Cd) (h : Nat) : Nat → Nat → Bool
  | _, 0 => true
  | j, k + 1 => hPair c h j && hFrom c h (j + 1) k
def hOk (c : Cd) (h : Nat) : Bool := hBase c h && hFrom c h 0 h
def fHd (c : Cd) : Nat → Nat → Option Nat
  | _, 0 => none
  | h, k + 1 => if hOk c h = true then fHd c (h + 1) k else some h
def fOp (A : Enw) : Nat → Nat → Option Nat
  | _, 0 => none
  | i, k + 1 => if opOk A (cop A.2.2 i) (cx A.2.2 i) = true then fOp A (i + 1) k else some i
def exN (A : Enw) : Int32 × Int32 := if need A.2.1 (cme A.2.2) ≤ cloc A.2.2 then (0, -1) else (11, 0)
def exH (A : Enw) (o : Option Nat) : Int32 × Int32 := match o with
  | some h => (2, n32 h)
  | none => exN A
def exO (A : Enw) (o : Option Nat) : Int32 × Int32 := match o with
  | some i => (1, n32 i)
  | none => exH A (fHd A.2.2 0 (chn A.2.2))
def exam (A : Enw) : Int32 × Int32 := if cn A.2.2 = 0 then (7, 0) else exO A (fOp A 0 (cn A.2.2))
theorem psum_le {f : Nat → Nat} : ∀ k, psum f k ≤ 2 * k
  | 0 => Nat.zero_le _
  | k + 1 => by
    have := psum_le (f := f) k
    show psum f k + wide (f k) ≤ _
    unfold wide
    split <;> omega
section HC
variable {E : Ev} {S : St} {X fu : Nat} {A : Enw}
theorem t_hdL (hA : EI A) (v : VEnv E S (E.2 X 0) (E.2 X 1) (E.2 X 2) A) {h : Nat} (hh : h < chn A.2.2) : ∀ (k j F : Nat), j + k = h → k + 1 ≤ F → lp_X2_isHandlerAllowed_76 fu E X F (n32 h) (chs A.2.2 h) (che A.2.2 h) (n32 j) S = some (b2 (hFrom A.2.2 h j k), S) := by
  have h10 := hA.2.2.2.2.2.2.1
  intro k
  induction k with
  | zero =>
    intro j F hj hF
    obtain ⟨F, rfl⟩ : ∃ z, F = z + 1 := ⟨F - 1, by omega⟩
    show bd_X2_isHandlerAllowed_76 fu E X _ (n32 h) _ _ (n32 j) S = _
    unfold bd_X2_isHandlerAllowed_76
    rw [zi_le (by omega) (by omega), if_pos (by omega)]
    rfl
  | succ k ih =>
    intro j F hj hF
    obtain ⟨F, rfl⟩ : ∃ z, F = z + 1 := ⟨F - 1, by omega⟩
    have hv := v.2.2.2.2.2.2.2.2.2 j (by omega)
    have hin : inb (n32 j) 10 = true := by rw [z_inb (by omega)]; omega
    show bd_X2_isHandlerAllowed_76 fu E X (lp_X2_isHandlerAllowed_76 fu E X F) (n32 h) _ _ (n32 j) S = some (b2 (hPair A.2.2 h j && hFrom A.2.2 h (j + 1) k), S)
    unfold bd_X2_isHandlerAllowed_76 jb_X2_isHandlerAllowed_115 jb_X2_isHandlerAllowed_150
    rw [zi_le (by omega) (by omega), if_neg (by omega), if_pos hin, z_nat (by omega), hv.1, hv.2.1, show n32 j + 1 = n32 (j + 1) from z_add j 1, ih (j + 1) F (by omega) (by omega)]
    unfold hPair
    simp only [hin, ile_ite, ilt_ite]
    generalize decide (che A.2.2 j ≤ chs A.2.2 h) = b1
    generalize decide (che A.2.2 h ≤ chs A.2.2 j) = b2'
    generalize decide (chs A.2.2 h ≤ chs A.2.2 j) = b3
    generalize decide (che A.2.2 j ≤ che A.2.2 h) = b4
    cases b1 <;> cases b2' <;> cases b3 <;> cases b4 <;> rfl
theorem t_hOk (hA : EI A) (hfu : 200 ≤ fu) (v : VEnv E S (E.2 X 0) (E.2 X 1) (E.2 X 2) A) {h : Nat} (hh : h < chn A.2.2) : sp_X2_isHandlerAllowed fu E S X (n32 h) = some (b2 (hOk A.2.2 h), S) := by
  have h10 := hA.2.2.2.2.2.2.1
  have h100 := hA.2.2.2.2.2.1
  have hv := v.2.2.2.2.2.2.2.2.2 h hh
  have hin : inb (n32 h) 10 = true := by rw [z_inb (by omega)]; omega
  unfold sp_X2_isHandlerAllowed bnd jb_X2_isHandlerAllowed_45
  dsimp only
  rw [if_pos hin, if_pos hin, z_nat (by omega), hv.1, hv.2.1, hv.2.2.1, if_pos hin, t_idx v.2.2 h100, Option.bind_some]
  dsimp only
  rw [show lp_X2_isHandlerAllowed_76 fu E X fu (n32 h) (chs A.2.2 h) (che A.2.2 h) 0 S = some (b2 (hFrom A.2.2 h 0 h), S) from t_hdL hA v hh h 0 fu (by omega) (by omega), v.2.2.2.2.2.2.1]
  unfold hOk hBase
  simp only [ile_ite, ilt_ite]
  rw [b2_if]
  generalize decide (0 ≤ chs A.2.2 h) = b1
  generalize decide (che A.2.2 h ≤ chs A.2.2 h) = b2'
  generalize decide (che A.2.2 h ≤ n32 (cn A.2.2)) = b3
  generalize idx A.2.2 (cht A.2.2 h) = b4
  cases b1 <;> cases b2' <;> cases b3 <;> cases b4 <;> rfl
theorem t_need (hA : EI A) (v : VMb E S X A.2.1) {q : Nat} (hq : q < mcnt A.2.1) : sp_X8_slotsNeeded fu E S X (n32 q) = some (n32 (need A.2.1 q), S) := by
  have h30 := hA.2.1.2.1
  have hin : inb (n32 q) 30 = true := by rw [z_inb (by omega)]; omega
  have hv := v.2.2.2 q hq
  have mk := (hA.2.1.2.2.2 q hq).2.2.1
  unfold sp_X8_slotsNeeded need
  rw [if_pos hin, if_pos hin, z_nat (by omega), hv.2.1, hv.2.2.2.2.1, show (1 : Int32) = n32 1 from rfl, zi_eq (by omega) (by decide)]
  by_cases h : mkin A.2.1 q = 1
  · rw [if_pos h, if_pos h, show (0 : Int32) = n32 0 from rfl, z_add]
  · rw [if_neg h, if_neg h, z_add]
theorem t_exH (hA : EI A) (hs : cst A.2.2 = true) (hfu : 200 ≤ fu) (hE : WE E) (hX : E.1 X = some (0, 1, 0)) (v : VEnv E S (E.2 X 0) (E.2 X 1) (E.2 X 2) A) (h0 : S.1 X 3 = 0) : ∀ (k h F : Nat), h + k = chn A.2.2 → k + 1 ≤ F → ∃ S', lp_X2_run_71 fu E X F (n32 h) S = some ((exH A (fHd A.2.2 h k)).1, S') ∧ S'.1 X 3 = (exH A (fHd A.2.2 h k)).2 ∧ Ag (fun q => q = X) S S' := by
  have h10 := hA.2.2.2.2.2.2.1
  have hme := hA.2.2.1 hs
  have h30 := hA.2.1.2.1
  have hl := hA.2.2.2.2.1
  have mm := hA.2.1.2.2.2 _ hme
  intro k
  induction k with
  | zero =>
    intro h F hk hF
    obtain ⟨F, rfl⟩ : ∃ z, F = z + 1 := ⟨F - 1, by omega⟩
    show ∃ S', bd_X2_run_71 fu E X _ (n32 h) S = some ((exN A).1, S') ∧ S'.1 X 3 = (exN A).2 ∧ _
    unfold bd_X2_run_71 exN
    rw [v.2.2.2.2.2.2.2.1, zi_le (by omega) (by omega), if_pos (by omega), v.2.2.2.1, t_need hA v.2.1 hme, Option.bind_some]
    dsimp only
    have hneed : need A.2.1 (cme A.2.2) ≤ 7 := by
      unfold need
      have := mm.2.2.2.2.2.1
      split <;> omega
    rw [v.2.2.2.2.2.1, zi_le (by omega) (by omega)]
    by_cases hn : need A.2.1 (cme A.2.2) ≤ cloc A.2.2
    · rw [if_pos hn, if_pos hn]
      exact ⟨_, rfl, up2_s _ _, sF_ag⟩
    · rw [if_neg hn, if_neg hn]
      exact ⟨S, rfl, h0, Ag_refl⟩
  | succ k ih =>
    intro h F hk hF
    obtain ⟨F, rfl⟩ : ∃ z, F = z + 1 := ⟨F - 1, by omega⟩
    show ∃ S', bd_X2_run_71 fu E X (lp_X2_run_71 fu E X F) (n32 h) S = some ((exH A (if hOk A.2.2 h = true then fHd A.2.2 (h + 1) k else some h)).1, S') ∧ S'.1 X 3 = (exH A (if hOk A.2.2 h = true then fHd A.2.2 (h + 1) k else some h)).2 ∧ _
    unfold bd_X2_run_71
    rw [v.2.2.2.2.2.2.2.1, zi_le (by omega) (by omega), if_neg (by omega), t_hOk hA hfu v (by omega), Option.bind_some, b2_if]
    by_cases ho : hOk A.2.2 h = true
    · rw [if_pos ho, if_pos ho, show n32 h + 1 = n32 (h + 1) from z_add h 1]
      exact ih (h + 1) F (by omega) (by omega)
    · rw [if_neg ho, if_neg ho]
      exact ⟨_, rfl, up2_s _ _, sF_ag⟩
theorem t_exO (hA : EI A) (hs : cst A.2.2 = true) (hfu : 200 ≤ fu) (hE : WE E) (hX : E.1 X = some (0, 1, 0)) (v : VEnv E S (E.2 X 0) (E.2 X 1) (E.2 X 2) A) (h0 : S.1 X 3 = 0) : ∀ (k i F : Nat), i + k = cn A.2.2 → k + 1 ≤ F → ∃ S', lp_X2_run_20 fu E X F (n32 i) S = some ((exO A (fOp A i k)).1, S') ∧ S'.1 X 3 = (exO A (fOp A i k)).2 ∧ Ag (fun q => q = X) S S' := by
  have h100 := hA.2.2.2.2.2.1
  have h10 := hA.2.2.2.2.2.2.1
  intro k
  induction k with
  | zero =>
    intro i F hk hF
    obtain ⟨F, rfl⟩ : ∃ z, F = z + 1 := ⟨F - 1, by omega⟩
    show ∃ S', bd_X2_run_20 fu E X _ (n32 i) S = some ((exH A (fHd A.2.2 0 (chn A.2.2))).1, S') ∧ S'.1 X 3 = (exH A (fHd A.2.2 0 (chn A.2.2))).2 ∧ _
    unfold bd_X2_run_20
    rw [v.2.2.2.2.2.2.1, zi_le (by omega) (by omega), if_pos (by omega)]
    exact t_exH hA hs hfu hE hX v h0 (chn A.2.2) 0 fu (by omega) (by omega)
  | succ k ih =>
    intro i F hk hF
    obtain ⟨F, rfl⟩ : ∃ z, F = z + 1 := ⟨F - 1, by omega⟩
    have vi := v.2.2.2.2.2.2.2.2.1 i (by omega)
    have hin : inb (n32 i) 100 = true := by rw [z_inb (by omega)]; omega
    show ∃ S', bd_X2_run_20 fu E X (lp_X2_run_20 fu E X F) (n32 i) S = some ((exO A (if opOk A (cop A.2.2 i) (cx A.2.2 i) = true then fOp A (i + 1) k else some i)).1, S') ∧ S'.1 X 3 = (exO A (if opOk A (cop A.2.2 i) (cx A.2.2 i) = true then fOp A (i + 1) k else some i)).2 ∧ _
    unfold bd_X2_run_20
    rw [v.2.2.2.2.2.2.1, zi_le (by omega) (by omega), if_neg (by omega), if_pos hin, if_pos hin, z_nat (by omega), vi.1, vi.2, t_opOk hA v (hA.2.2.2.2.2.2.2.1 i (by omega)), Option.bind_some, b2_if]
    by_cases ho : opOk A (cop A.2.2 i) (cx A.2.2 i) = true
    · rw [if_pos ho, if_pos ho, show n32 i + 1 = n32 (i + 1) from z_add i 1]
      exact ih (i + 1) F (by omega) (by omega)
    · rw [if_neg ho, if_neg ho]
      exact ⟨_, rfl, up2_s _ _, sF_ag⟩
theorem t_exam (hA : EI A) (hs : cst A.2.2 = true) (hfu : 200 ≤ fu) (hE : WE E) (hX : E.1 X = some (0, 1, 0)) (v : VEnv E S (E.2 X 0) (E.2 X 1) (E.2 X 2) A) : ∃ S', sp_X2_run fu E S X = some ((exam A).1, S') ∧ S'.1 X 3 = (exam A).2 ∧ Ag (fun q => q = X) S S' := by
  have h100 := hA.2.2.2.2.2.1
  have hT := hE.2.1 X 1 0 _ hX rfl
  have hB := hE.2.1 X 1 1 _ hX rfl
  have hC := hE.2.1 X 1 2 _ hX rfl
  have v1 : VEnv E (sF S X 3 0) (E.2 X 0) (E.2 X 1) (E.2 X 2) A := venv_ag v (sF_ag (S := S) (a := X) (j := 3) (x := 0)) (nop_one hE hX hT (by decide)) (nop_one hE hX hB (by decide)) (nop_one hE hX hC (by decide))
  unfold sp_X2_run bnd exam
  dsimp only
  rw [v1.2.2.2.2.2.2.1, show (0 : Int32) = n32 0 from rfl, zi_eq (by omega) (by decide)]
  by_cases h : cn A.2.2 = 0
  · rw [if_pos h, if_pos h]
    exact ⟨_, rfl, up2_s _ _, sF_ag⟩
  · rw [if_neg h, if_neg h]
    obtain ⟨S', e, e3, a⟩ := t_exO hA hs hfu hE hX v1 (up2_s _ _) (cn A.2.2) 0 fu (by omega) (by omega)
    exact ⟨S', e, e3, Ag_trans sF_ag a⟩
end HC
section HR
variable {E : Ev} {S : St} {m fu : Nat} {A : Enw}
theorem b2_and1 {b : Bool} : b2 b &&& 1 = b2 b := by cases b <;> decide
theorem b2_and0 {b : Bool} : b2 b &&& 0 = b2 false := by cases b <;> decide
theorem r_hdL (hA : EI A) (v : VRe E S m A) {h : Nat} (hh : h < chn A.2.2) : ∀ (k j F : Nat) (a : Bool), j + k = h → k + 1 ≤ F → lp_X12_isHandler_67 fu E m F (n32 h) (b2 a) (n32 j) S = some (b2 (a && hFrom A.2.2 h j k), S) := by
  have h10 := hA.2.2.2.2.2.2.1
  intro k
  induction k with
  | zero =>
    intro j F a hj hF
    obtain ⟨F, rfl⟩ : ∃ z, F = z + 1 := ⟨F - 1, by omega⟩
    show bd_X12_isHandler_67 fu E m _ (n32 h) (b2 a) (n32 j) S = some (b2 (a && true), S)
    unfold bd_X12_isHandler_67
    rw [zi_le (by omega) (by omega), if_pos (by omega), isB_ite, Bool.and_true]
  | succ k ih =>
    intro j F a hj hF
    obtain ⟨F, rfl⟩ : ∃ z, F = z + 1 := ⟨F - 1, by omega⟩
    have hv := v.2.2.2.2.2.2.2.2.2 j (by omega)
    have hw := v.2.2.2.2.2.2.2.2.2 h hh
    have hin : inb (n32 j) 10 = true := by rw [z_inb (by omega)]; omega
    have hih : inb (n32 h) 10 = true := by rw [z_inb (by omega)]; omega
    show bd_X12_isHandler_67 fu E m (lp_X12_isHandler_67 fu E m F) (n32 h) (b2 a) (n32 j) S = some (b2 (a && (hPair A.2.2 h j && hFrom A.2.2 h (j + 1) k)), S)
    unfold bd_X12_isHandler_67 bnd
    rw [zi_le (by omega) (by omega), if_neg (by omega), if_pos hih, if_pos hin, z_nat (show j < 2 ^ 31 by omega), z_nat (show h < 2 ^ 31 by omega), hv.1, hv.2.1, hw.1, hw.2.1, b2_and1, b2_and0, show n32 j + 1 = n32 (j + 1) from z_add j 1]
    dsimp only
    rw [ih (j + 1) F a (by omega) (by omega), ih (j + 1) F false (by omega) (by omega)]
    unfold hPair
    simp only [hin, hih, ile_ite, ilt_ite]
    generalize decide (che A.2.2 j ≤ chs A.2.2 h) = b1
    generalize decide (che A.2.2 h ≤ chs A.2.2 j) = b2'
    generalize decide (chs A.2.2 h ≤ chs A.2.2 j) = b3
    generalize decide (che A.2.2 j ≤ che A.2.2 h) = b4
    cases a <;> cases b1 <;> cases b2' <;> cases b3 <;> cases b4 <;> rfl
theorem r_hOk (hA : EI A) (hfu : 200 ≤ fu) (v : VRe E S m A) {h : Nat} (hh : h < chn A.2.2) : sp_X12_isHandler fu E S m (n32 h) = some (b2 (hOk A.2.2 h), S) := by
  have h10 := hA.2.2.2.2.2.2.1
  have h100 := hA.2.2.2.2.2.1
  have hv := v.2.2.2.2.2.2.2.2.2 h hh
  have hin : inb (n32 h) 10 = true := by rw [z_inb (by omega)]; omega
  have lf : lp_X12_isHandler_67 fu E m fu (n32 h) 0 0 S = some (b2 (false && hFrom A.2.2 h 0 h), S) := r_hdL hA v hh h 0 fu false (by omega) (by omega)
  have lt : lp_X12_isHandler_67 fu E m fu (n32 h) 1 0 S = some (b2 (true && hFrom A.2.2 h 0 h), S) := r_hdL hA v hh h 0 fu true (by omega) (by omega)
  unfold sp_X12_isHandler
  rw [lf, lt, z_nat (by omega), hv.1, hv.2.1, hv.2.2.1, v.2.2.2.2.2.2.1]
  have hidx : idx A.2.2 (cht A.2.2 h) = (decide (0 ≤ cht A.2.2 h) && !decide (n32 (cn A.2.2) ≤ cht A.2.2 h)) := by
    unfold idx
    rcases z_sgn (cht A.2.2 h) with q | ⟨n, hn, e⟩
    · rw [show decide (0 ≤ cht A.2.2 h) = false from by
        rw [decide_eq_false_iff_not, z_l32]
        rw [z_i32] at q
        omega]
      rfl
    · rw [e, n32_ge hn, z_nat hn, zd_le (by omega) hn]
      by_cases c : n < cn A.2.2
      · rw [decide_eq_true c, decide_eq_false (by omega)]; rfl
      · rw [decide_eq_false c, decide_eq_true (by omega)]; rfl
  unfold hOk hBase
  rw [hidx]
  simp only [hin, ile_ite, ilt_ite]
  generalize decide (0 ≤ chs A.2.2 h) = b1
  generalize decide (che A.2.2 h ≤ chs A.2.2 h) = b2'
  generalize decide (che A.2.2 h ≤ n32 (cn A.2.2)) = b3
  generalize decide (0 ≤ cht A.2.2 h) = b4
  generalize decide (n32 (cn A.2.2) ≤ cht A.2.2 h) = b5
  cases b1 <;> cases b2' <;> cases b3 <;> cases b4 <;> cases b5 <;> rfl
theorem r_wide {n : Nat} (hn : n < 2 ^ 31) : sp_X12_wide fu E S (n32 n) = some (n32 (wide n), S) := by
  unfold sp_X12_wide wide
  rw [show (8 : Int32) = n32 8 from rfl, zi_eq hn (by decide)]
  split <;> rfl
theorem r_needL (hA : EI A) (v : VRb E S m A.2.1) {q : Nat} (hq : q < mcnt A.2.1) : ∀ (k j F b : Nat), j + k = mpcn A.2.1 q → k + 1 ≤ F → b ≤ 100 → lp_X12_needed_18 fu E m F (n32 q) (n32 (b + psum (mpty A.2.1 q) j)) (n32 j) S = some (n32 (b + psum (mpty A.2.1 q) (mpcn A.2.1 q)), S) := by
  have h30 := hA.2.1.2.1
  have mq := hA.2.1.2.2.2 q hq
  have hin : inb (n32 q) 30 = true := by rw [z_inb (by omega)]; omega
  have hv := v.2.2.2 q hq
  intro k
  induction k with
  | zero =>
    intro j F b hj hF hb
    obtain ⟨F, rfl⟩ : ∃ z, F = z + 1 := ⟨F - 1, by omega⟩
    show bd_X12_needed_18 fu E m _ (n32 q) _ (n32 j) S = _
    unfold bd_X12_needed_18
    rw [if_pos hin, z_nat (by omega), hv.2.2.2.1, zi_le (by omega) (by omega), if_pos (by omega), show j = mpcn A.2.1 q by omega]
  | succ k ih =>
    intro j F b hj hF hb
    obtain ⟨F, rfl⟩ : ∃ z, F = z + 1 := ⟨F - 1, by omega⟩
    show bd_X12_needed_18 fu E m (lp_X12_needed_18 fu E m F) (n32 q) _ (n32 j) S = _
    unfold bd_X12_needed_18 bnd
    have ty := isT_lt hA.1 (mq.2.2.2.2.2.2 j (by omega))
    rw [if_pos hin, z_nat (show q < 2 ^ 31 by omega), hv.2.2.2.1, zi_le (by omega) (by omega), if_neg (by omega), show (6 : Int32) * n32 q + n32 j = n32 (6 * q + j) from by rw [show (6 : Int32) * n32 q = n32 (6 * q) from z_mul 6 q, z_add], if_pos (by rw [z_inb (by omega)]; omega), z_nat (by omega), hv.2.2.2.2 j (by omega), r_wide (by omega), Option.bind_some]
    dsimp only
    rw [z_add, show n32 j + 1 = n32 (j + 1) from z_add j 1, show b + psum (mpty A.2.1 q) j + wide (mpty A.2.1 q j) = b + psum (mpty A.2.1 q) (j + 1) from Nat.add_assoc _ _ _]
    exact ih (j + 1) F b (by omega) (by omega) hb
theorem r_need (hA : EI A) (hfu : 200 ≤ fu) (v : VRb E S m A.2.1) {q : Nat} (hq : q < mcnt A.2.1) : sp_X12_needed fu E S m (n32 q) = some (n32 (need A.2.1 q), S) := by
  have h30 := hA.2.1.2.1
  have mq := hA.2.1.2.2.2 q hq
  have hin : inb (n32 q) 30 = true := by rw [z_inb (by omega)]; omega
  have hv := v.2.2.2 q hq
  unfold sp_X12_needed need mslo
  rw [if_pos hin, z_nat (by omega), hv.2.1, show (1 : Int32) = n32 1 from rfl, zi_eq (by omega) (by decide)]
  by_cases h : mkin A.2.1 q = 1
  · rw [if_pos h, if_pos h, show psum (mpty A.2.1 q) (mpcn A.2.1 q) + 0 = 0 + psum (mpty A.2.1 q) (mpcn A.2.1 q) by omega]
    exact r_needL hA v hq (mpcn A.2.1 q) 0 fu 0 (by omega) (by omega) (by decide)
  · rw [if_neg h, if_neg h, show psum (mpty A.2.1 q) (mpcn A.2.1 q) + 1 = 1 + psum (mpty A.2.1 q) (mpcn A.2.1 q) by omega]
    exact r_needL hA v hq (mpcn A.2.1 q) 0 fu 1 (by omega) (by omega) (by decide)
/-- the first error stays -/
def ue (e : Int32 × Int32) (k p : Int32) : Int32 × Int32 := if e.1 = 0 then (k, p) else e
theorem r_failU {e : Int32 × Int32} {k p : Int32} (h1 : S.1 m 35 = e.1) (h2 : S.1 m 36 = e.2) (h0 : 0 ≤ e.1) : ∃ S', sp_X12_fail fu E S m k p = some S' ∧ S'.1 m 35 = (ue e k p).1 ∧ S'.1 m 36 = (ue e k p).2 ∧ AgL E m [35, 36] [] S S' := by
  unfold ue
  by_cases h : e.1 = 0
  · rw [if_pos h, rx_fail (by rw [h1, h])]
    refine ⟨_, rfl, ?_, up2_s _ _, agl_trans (agl_sF (by decide)) (agl_sF (by decide))⟩
    show up2 (up2 S.1 m 35 k) m 36 p m 35 = k
    rw [up2_n _ _ (by simp), up2_s]
  · rw [if_neg h, rx_failE (by rw [h1]; exact h0) (by rw [h1]; exact h)]
    exact ⟨S, rfl, h1, h2, agl_refl⟩
def ueO (e : Int32 × Int32) (k : Int32) (o : Option Nat) : Int32 × Int32 := match o with
  | some i => ue e k (n32 i)
  | none => e
theorem ue_ge {e : Int32 × Int32} {k p : Int32} (h0 : 0 ≤ e.1) (hk : 0 ≤ k) : 0 ≤ (ue e k p).1 := by
  unfold ue
  split
  · exact hk
  · exact h0
theorem ueO_ue {e : Int32 × Int32} {k p : Int32} {o : Option Nat} (hk : k ≠ 0) : ueO (ue e k p) k o = ue e k p := by
  cases o with
  | none => rfl
  | some i =>
    show ue (ue e k p) k (n32 i) = _
    unfold ue
    by_cases h : e.1 = 0
    · rw [if_pos h, if_neg hk]
    · rw [if_neg h, if_neg h]
theorem vre_e (L : LR E m) {S' : St} (v : VRe E S m A) (a : AgL E m [35, 36] [] S S') : VRe E S' m A := vre_ag L v (agl_mono a (by decide) (by decide))
theorem r_exH (L : LR E m) (hA : EI A) (hs : cst A.2.2 = true) (hfu : 200 ≤ fu) : ∀ (k h F : Nat) (S : St) (e : Int32 × Int32), h + k = chn A.2.2 → k + 1 ≤ F → VRe E S m A → S.1 m 35 = e.1 → S.1 m 36 = e.2 → 0 ≤ e.1 → ∃ S', lp_X12_examine_72 fu E m F (n32 h) S = some S' ∧ S'.1 m 35 = (if need A.2.1 (cme A.2.2) ≤ cloc A.2.2 then ueO e 2 (fHd A.2.2 h k) else ue (ueO e 2 (fHd A.2.2 h k)) 11 0).1 ∧ S'.1 m 36 = (if need A.2.1 (cme A.2.2) ≤ cloc A.2.2 then ueO e 2 (fHd A.2.2 h k) else ue (ueO e 2 (fHd A.2.2 h k)) 11 0).2 ∧ AgL E m [35, 36] [] S S' := by
  have h10 := hA.2.2.2.2.2.2.1
  have hme := hA.2.2.1 hs
  have h30 := hA.2.1.2.1
  have hl := hA.2.2.2.2.1
  have mm := hA.2.1.2.2.2 _ hme
  intro k
  induction k with
  | zero =>
    intro h F S e hk hF v e1 e2 e0
    obtain ⟨F, rfl⟩ : ∃ z, F = z + 1 := ⟨F - 1, by omega⟩
    show ∃ S', bd_X12_examine_72 fu E m _ (n32 h) S = some S' ∧ S'.1 m 35 = (if need A.2.1 (cme A.2.2) ≤ cloc A.2.2 then e else ue e 11 0).1 ∧ S'.1 m 36 = (if need A.2.1 (cme A.2.2) ≤ cloc A.2.2 then e else ue e 11 0).2 ∧ _
    unfold bd_X12_examine_72
    have hneed : need A.2.1 (cme A.2.2) ≤ 7 := by
      unfold need
      have := mm.2.2.2.2.2.1
      split <;> omega
    rw [v.2.2.2.2.2.2.2.1, zi_le (by omega) (by omega), if_pos (by omega), v.2.2.2.1, r_need hA hfu v.2.1 hme, Option.bind_some]
    dsimp only
    rw [v.2.2.2.2.2.1, zi_le (by omega) (by omega)]
    by_cases hn : need A.2.1 (cme A.2.2) ≤ cloc A.2.2
    · rw [if_pos hn, if_pos hn]
      exact ⟨S, rfl, e1, e2, agl_refl⟩
    · rw [if_neg hn, if_neg hn]
      obtain ⟨S', q, r⟩ := r_failU (fu := fu) (k := 11) (p := 0) e1 e2 e0
      exact ⟨S', by rw [q, Option.bind_some], r⟩
  | succ k ih =>
    intro h F S e hk hF v e1 e2 e0
    obtain ⟨F, rfl⟩ : ∃ z, F = z + 1 := ⟨F - 1, by omega⟩
    have go : fHd A.2.2 h (k + 1) = if hOk A.2.2 h = true then fHd A.2.2 (h + 1) k else some h := rfl
    rw [go]
    show ∃ S', bd_X12_examine_72 fu E m (lp_X12_examine_72 fu E m F) (n32 h) S = some S' ∧ _
    unfold bd_X12_examine_72
    rw [v.2.2.2.2.2.2.2.1, zi_le (by omega) (by omega), if_neg (by omega), r_hOk hA hfu v (by omega), Option.bind_some, b2_if, show n32 h + 1 = n32 (h + 1) from z_add h 1]
    dsimp only
    by_cases ho : hOk A.2.2 h = true
    · rw [if_pos ho, if_pos ho]
      exact ih (h + 1) F S e (by omega) (by omega) v e1 e2 e0
    · rw [if_neg ho, if_neg ho]
      obtain ⟨S1, q, r1, r2, a1⟩ := r_failU (fu := fu) (k := 2) (p := n32 h) e1 e2 e0
      rw [q, Option.bind_some]
      obtain ⟨S2, q2, t1, t2, a2⟩ := ih (h + 1) F S1 (ue e 2 (n32 h)) (by omega) (by omega) (vre_e L v a1) r1 r2 (ue_ge e0 (by decide))
      rw [ueO_ue (by decide)] at t1 t2
      exact ⟨S2, q2, t1, t2, agl_trans a1 a2⟩
theorem r_exO (L : LR E m) (hA : EI A) (hs : cst A.2.2 = true) (hfu : 200 ≤ fu) : ∀ (k i F : Nat) (S : St) (e : Int32 × Int32), i + k = cn A.2.2 → k + 1 ≤ F → VRe E S m A → S.1 m 35 = e.1 → S.1 m 36 = e.2 → 0 ≤ e.1 → ∃ S' e', lp_X12_examine_31 fu E m F (n32 i) S = some S' ∧ e' = ueO (ueO e 1 (fOp A i k)) 2 (fHd A.2.2 0 (chn A.2.2)) ∧ S'.1 m 35 = (if need A.2.1 (cme A.2.2) ≤ cloc A.2.2 then e' else ue e' 11 0).1 ∧ S'.1 m 36 = (if need A.2.1 (cme A.2.2) ≤ cloc A.2.2 then e' else ue e' 11 0).2 ∧ AgL E m [35, 36] [] S S' := by
  have h100 := hA.2.2.2.2.2.1
  have h10 := hA.2.2.2.2.2.2.1
  intro k
  induction k with
  | zero =>
    intro i F S e hk hF v e1 e2 e0
    obtain ⟨F, rfl⟩ : ∃ z, F = z + 1 := ⟨F - 1, by omega⟩
    show ∃ S' e', bd_X12_examine_31 fu E m _ (n32 i) S = some S' ∧ e' = ueO e 2 (fHd A.2.2 0 (chn A.2.2)) ∧ _
    unfold bd_X12_examine_31
    rw [v.2.2.2.2.2.2.1, zi_le (by omega) (by omega), if_pos (by omega)]
    obtain ⟨S', q, r⟩ := r_exH L hA hs hfu (chn A.2.2) 0 fu S e (by omega) (by omega) v e1 e2 e0
    exact ⟨S', _, q, rfl, r⟩
  | succ k ih =>
    intro i F S e hk hF v e1 e2 e0
    obtain ⟨F, rfl⟩ : ∃ z, F = z + 1 := ⟨F - 1, by omega⟩
    have vi := v.2.2.2.2.2.2.2.2.1 i (by omega)
    have hin : inb (n32 i) 100 = true := by rw [z_inb (by omega)]; omega
    have go : fOp A i (k + 1) = if opOk A (cop A.2.2 i) (cx A.2.2 i) = true then fOp A (i + 1) k else some i := rfl
    rw [go]
    show ∃ S' e', bd_X12_examine_31 fu E m (lp_X12_examine_31 fu E m F) (n32 i) S = some S' ∧ _
    unfold bd_X12_examine_31
    rw [v.2.2.2.2.2.2.1, zi_le (by omega) (by omega), if_neg (by omega), if_pos hin, if_pos hin, z_nat (by omega), vi.1, vi.2, r_opOk hA v (hA.2.2.2.2.2.2.2.1 i (by omega)), Option.bind_some, b2_if, show n32 i + 1 = n32 (i + 1) from z_add i 1]
    dsimp only
    by_cases ho : opOk A (cop A.2.2 i) (cx A.2.2 i) = true
    · rw [if_pos ho, if_pos ho]
      exact ih (i + 1) F S e (by omega) (by omega) v e1 e2 e0
    · rw [if_neg ho, if_neg ho]
      obtain ⟨S1, q, r1, r2, a1⟩ := r_failU (fu := fu) (k := 1) (p := n32 i) e1 e2 e0
      rw [q, Option.bind_some]
      obtain ⟨S2, e', q2, he, t1, t2, a2⟩ := ih (i + 1) F S1 (ue e 1 (n32 i)) (by omega) (by omega) (vre_e L v a1) r1 r2 (ue_ge e0 (by decide))
      rw [ueO_ue (by decide)] at he
      exact ⟨S2, e', q2, he, t1, t2, agl_trans a1 a2⟩
theorem ueO_ne {e : Int32 × Int32} {k : Int32} {o : Option Nat} (h : e.1 ≠ 0) : ueO e k o = e := by
  cases o with
  | none => rfl
  | some i =>
    show ue e k (n32 i) = e
    unfold ue
    rw [if_neg h]
theorem exam_e {A : Enw} (h : ¬ cn A.2.2 = 0) : (if need A.2.1 (cme A.2.2) ≤ cloc A.2.2 then ueO (ueO (0, -1) 1 (fOp A 0 (cn A.2.2))) 2 (fHd A.2.2 0 (chn A.2.2)) else ue (ueO (ueO (0, -1) 1 (fOp A 0 (cn A.2.2))) 2 (fHd A.2.2 0 (chn A.2.2))) 11 0) = exam A := by
  unfold exam
  rw [if_neg h]
  cases fOp A 0 (cn A.2.2) with
  | some i =>
    show (if _ then ueO (1, n32 i) 2 _ else ue (ueO (1, n32 i) 2 _) 11 0) = (1, n32 i)
    rw [ueO_ne (show ((1 : Int32), n32 i).1 ≠ 0 from (by decide : (1 : Int32) ≠ 0))]
    split
    · rfl
    · unfold ue
      rw [if_neg (show ¬ ((1 : Int32), n32 i).1 = 0 from (by decide : ¬ (1 : Int32) = 0))]
  | none =>
    show (if _ then ueO (0, -1) 2 _ else ue (ueO (0, -1) 2 _) 11 0) = exH A _
    cases fHd A.2.2 0 (chn A.2.2) with
    | some i =>
      show (if _ then (2, n32 i) else ue (2, n32 i) 11 0) = (2, n32 i)
      split
      · rfl
      · unfold ue
        rw [if_neg (show ¬ ((2 : Int32), n32 i).1 = 0 from (by decide : ¬ (2 : Int32) = 0))]
    | none => rfl
theorem r_exam (L : LR E m) (hA : EI A) (hs : cst A.2.2 = true) (hfu : 200 ≤ fu) (v : VRe E S m A) : ∃ S', sp_X12_examine fu E S m = some S' ∧ S'.1 m 35 = (exam A).1 ∧ S'.1 m 36 = (exam A).2 ∧ S'.1 m 37 = 0 ∧ AgL E m [35, 36, 37] [] S S' := by
  have h100 := hA.2.2.2.2.2.1
  unfold sp_X12_examine bnd
  dsimp only
  have a0 : AgL E m [35, 36, 37] [] S (sF (sF (sF S m 35 0) m 36 (-1)) m 37 0) := agl_trans (agl_sF (by decide)) (agl_trans (agl_sF (by decide)) (agl_sF (by decide)))
  have v0 : VRe E _ m A := vre_ag L v (agl_mono a0 (by decide) (by decide))
  have f35 : (sF (sF (sF S m 35 0) m 36 (-1)) m 37 0).1 m 35 = 0 := by
    show up2 (up2 (up2 S.1 m 35 0) m 36 (-1)) m 37 0 m 35 = 0
    rw [up2_n _ _ (by simp), up2_n _ _ (by simp), up2_s]
  have f36 : (sF (sF (sF S m 35 0) m 36 (-1)) m 37 0).1 m 36 = -1 := by
    show up2 (up2 (up2 S.1 m 35 0) m 36 (-1)) m 37 0 m 36 = -1
    rw [up2_n _ _ (by simp), up2_s]
  have f37 : (sF (sF (sF S m 35 0) m 36 (-1)) m 37 0).1 m 37 = 0 := up2_s _ _
  generalize sF (sF (sF S m 35 0) m 36 (-1)) m 37 0 = S0 at a0 v0 f35 f36 f37
  rw [v0.2.2.2.2.2.2.1, show (0 : Int32) = n32 0 from rfl, zi_eq (by omega) (by decide), show n32 0 = (0 : Int32) from rfl]
  by_cases h : cn A.2.2 = 0
  · rw [if_pos h]
    obtain ⟨S1, q, r1, r2, a1⟩ := r_failU (fu := fu) (e := (0, -1)) (k := 7) (p := 0) f35 f36 (show (0 : Int32) ≤ 0 by decide)
    rw [q, Option.bind_some]
    obtain ⟨S2, e', q2, he, t1, t2, a2⟩ := r_exO L hA hs hfu (cn A.2.2) 0 fu S1 (7, 0) (by omega) (by omega) (vre_e L v0 a1) r1 r2 (show (0 : Int32) ≤ 7 by decide)
    have ee : e' = (7, 0) := by
      rw [he, ueO_ne (e := (7, 0)) (by decide), ueO_ne (e := (7, 0)) (by decide)]
    have ex : (if need A.2.1 (cme A.2.2) ≤ cloc A.2.2 then e' else ue e' 11 0) = exam A := by
      rw [ee]
      unfold exam
      rw [if_pos h]
      split <;> rfl
    rw [ex] at t1 t2
    refine ⟨S2, q2, t1, t2, ?_, agl_trans a0 (agl_trans (agl_mono a1 (by decide) (by decide)) (agl_mono a2 (by decide) (by decide)))⟩
    rw [agl_f a2 rfl, agl_f a1 rfl]; exact f37
  · rw [if_neg h]
    obtain ⟨S2, e', q2, he, t1, t2, a2⟩ := r_exO L hA hs hfu (cn A.2.2) 0 fu S0 (0, -1) (by omega) (by omega) v0 f35 f36 (show (0 : Int32) ≤ 0 by decide)
    rw [he, exam_e h] at t1 t2
    refine ⟨S2, q2, t1, t2, ?_, agl_trans a0 (agl_mono a2 (by decide) (by decide))⟩
    rw [agl_f a2 rfl]; exact f37
end HR
