def prot (c : Cd) (h i : Nat) : Bool := decide (chs c h ≤ n32 i) && !decide (che c h ≤ n32 i)
def cauF (c : Cd) (h : Nat) (x : Fr) : Fr := (x.1, (fun _ => n32 (8 * chc c h)), 1, x.2.2.2)
def tgt (c : Cd) (h : Nat) : Nat := (cht c h).toNatClampNeg
def flw (d : Dcl) (y : Fr) (t : Nat) (s : Ist) : Int32 × Ist := match aFlow d y t s with
  | none => (8, s)
  | some s' => (0, s')
def aHdI (A : Enw) (i : Nat) (f : Fr) : Nat → Nat → Ist → Int32 × Ist
  | _, 0, s => (0, s)
  | h, k + 1, s => if prot A.2.2 h i = true then (if cmost A.2.2 = 0 then (6, s) else if (flw A.1 (cauF A.2.2 h f) (tgt A.2.2 h) s).1 = 0 then aHdI A i f (h + 1) k (flw A.1 (cauF A.2.2 h f) (tgt A.2.2 h) s).2 else (flw A.1 (cauF A.2.2 h f) (tgt A.2.2 h) s)) else aHdI A i f (h + 1) k s
def fal (op : Nat) : Bool := decide (op ≠ 22) && decide (op < 27 ∨ 31 < op)
def jmp (op : Nat) : Bool := decide (22 ≤ op ∧ op ≤ 26)
def aS1 (A : Enw) (i : Nat) (f : Fr) (s : Ist) : Int32 × Ist := if fal (cop A.2.2 i) = true then (if i + 1 < cn A.2.2 then flw A.1 f (i + 1) s else (7, s)) else (0, s)
def aSuI (A : Enw) (i : Nat) (f : Fr) (s : Ist) : Int32 × Ist := if (aS1 A i f s).1 = 0 then (if jmp (cop A.2.2 i) = true then flw A.1 f (cx A.2.2 i).toNatClampNeg (aS1 A i f s).2 else aS1 A i f s) else aS1 A i f s
def aPrI (A : Enw) (i : Nat) (f : Fr) (s : Ist) : Int32 × Ist := if (aHdI A i f 0 (chn A.2.2) s).1 = 0 then (if (aExec A i f).2 = 0 then aSuI A i (aExec A i f).1 (aHdI A i f 0 (chn A.2.2) s).2 else ((aExec A i f).2, (aHdI A i f 0 (chn A.2.2) s).2)) else aHdI A i f 0 (chn A.2.2) s
def Good (A : Enw) : Prop := exam A = (0, -1)
theorem good_cn {A : Enw} (h : Good A) : 0 < cn A.2.2 := by
  unfold Good exam at h
  by_cases c : cn A.2.2 = 0
  · rw [if_pos c] at h
    exact absurd (congrArg Prod.fst h) (by decide)
  · omega
theorem fOp_none {A : Enw} : ∀ (k i : Nat), fOp A i k = none → ∀ q, i ≤ q → q < i + k → opOk A (cop A.2.2 q) (cx A.2.2 q) = true
  | 0, _, _, q, h1, h2 => by omega
  | k + 1, i, h, q, h1, h2 => by
    have h' : (if opOk A (cop A.2.2 i) (cx A.2.2 i) = true then fOp A (i + 1) k else some i) = none := h
    by_cases c : opOk A (cop A.2.2 i) (cx A.2.2 i) = true
    · rw [if_pos c] at h'
      by_cases e : q = i
      · rw [e]; exact c
      · exact fOp_none k (i + 1) h' q (by omega) (by omega)
    · rw [if_neg c] at h'; cases h'
theorem fHd_none {c : Cd} : ∀ (k i : Nat), fHd c i k = none → ∀ q, i ≤ q → q < i + k → hOk c q = true
  | 0, _, _, q, h1, h2 => by omega
  | k + 1, i, h, q, h1, h2 => by
    have h' : (if hOk c i = true then fHd c (i + 1) k else some i) = none := h
    by_cases cc : hOk c i = true
    · rw [if_pos cc] at h'
      by_cases e : q = i
      · rw [e]; exact cc
      · exact fHd_none k (i + 1) h' q (by omega) (by omega)
    · rw [if_neg cc] at h'; cases h'
theorem good_all {A : Enw} (h : Good A) : (∀ i, i < cn A.2.2 → opOk A (cop A.2.2 i) (cx A.2.2 i) = true) ∧ (∀ q, q < chn A.2.2 → hOk A.2.2 q = true) ∧ need A.2.1 (cme A.2.2) ≤ cloc A.2.2 := by
  have h0 := good_cn h
  unfold Good exam at h
  rw [if_neg (by omega)] at h
  cases ho : fOp A 0 (cn A.2.2) with
  | some i =>
    rw [ho] at h
    exact absurd (congrArg Prod.fst h) (show ¬ (1 : Int32) = 0 by decide)
  | none =>
    rw [ho] at h
    have h : exH A (fHd A.2.2 0 (chn A.2.2)) = (0, -1) := h
    cases hh : fHd A.2.2 0 (chn A.2.2) with
    | some i =>
      rw [hh] at h
      exact absurd (congrArg Prod.fst h) (show ¬ (2 : Int32) = 0 by decide)
    | none =>
      rw [hh] at h
      have h : exN A = (0, -1) := h
      unfold exN at h
      refine ⟨fun i hi => fOp_none _ 0 ho i (Nat.zero_le _) (by omega), fun q hq => fHd_none _ 0 hh q (Nat.zero_le _) (by omega), ?_⟩
      by_cases c : need A.2.1 (cme A.2.2) ≤ cloc A.2.2
      · exact c
      · rw [if_neg c] at h
        exact absurd (congrArg Prod.fst h) (show ¬ (11 : Int32) = 0 by decide)
theorem hOk_tgt {c : Cd} {h : Nat} (hk : hOk c h = true) : cht c h = n32 (tgt c h) ∧ tgt c h < cn c := by
  unfold hOk hBase idx at hk
  simp only [Bool.and_eq_true, decide_eq_true_eq] at hk
  obtain ⟨n, hn, e⟩ := ge0_n (decide_eq_true hk.1.2.2.2.1)
  unfold tgt
  refine ⟨?_, hk.1.2.2.2.2⟩
  rw [e, z_nat hn]
theorem jmp_x {A : Enw} (h : Good A) {i : Nat} (hA : EI A) (hi : i < cn A.2.2) (hj : jmp (cop A.2.2 i) = true) : cx A.2.2 i = n32 (cx A.2.2 i).toNatClampNeg ∧ (cx A.2.2 i).toNatClampNeg < cn A.2.2 := by
  have h100 := hA.2.2.2.2.2.1
  have ok := okX_of (hA.2.2.2.2.2.2.2.1 i hi) ((good_all h).1 i hi)
  unfold jmp at hj
  rw [decide_eq_true_eq] at hj
  obtain ⟨n, e, hn⟩ := ok.2.2.1 hj
  rw [e, z_nat (by omega)]
  exact ⟨rfl, hn⟩
theorem join_8 {d : Dcl} (hd : DI d) {v w q : Int32} (hv : svA d v) (hw : svA d w) (hq : q = 8 ∨ q = -3) (h : joinA d v w = q) : v = q ∧ w = q := by
  have nr : rfV q = false := by rcases hq with rfl | rfl <;> rfl
  have n2 : q ≠ -2 := by rcases hq with rfl | rfl <;> decide
  by_cases e : v = w
  · unfold joinA at h
    rw [if_pos e] at h
    exact ⟨h, by rw [← e]; exact h⟩
  · exfalso
    have hrf : rfV (joinA d v w) = true ∨ joinA d v w = -2 := by
      unfold joinA
      rw [if_neg e]
      by_cases c : rfV v = false ∨ rfV w = false
      · rw [if_pos c]; exact Or.inr rfl
      · rw [if_neg c]
        have h1 : rfV v = true := by
          cases q : rfV v with
          | true => rfl
          | false => exact absurd (Or.inl q) c
        have h2 : rfV w = true := by
          cases q : rfV w with
          | true => rfl
          | false => exact absurd (Or.inr q) c
        by_cases c3 : v = -1
        · rw [if_pos c3]; exact Or.inl h2
        · rw [if_neg c3]
          by_cases c4 : w = -1
          · rw [if_pos c4]; exact Or.inl h1
          · rw [if_neg c4]
            have hsv := sv_join hd hv hw
            unfold joinA at hsv
            rw [if_neg e, if_neg c, if_neg c3, if_neg c4] at hsv
            left
            obtain ⟨n, rfl, hn, rn, n160⟩ := sv_rf hd hv h1 c3
            obtain ⟨r, rfl, hr, rr, r160⟩ := sv_rf hd hw h2 c4
            rw [z_nat (by omega), z_nat (by omega)] at hsv ⊢
            have l1 := lev_le n
            have hge : 16 ≤ jnN d n r ∧ jnN d n r < 2 ^ 31 := by
              have hcc : 2 ≤ cc d ((n - min (lev n) (lev r)) / 8) ((r - min (lev n) (lev r)) / 8) ∧ cc d ((n - min (lev n) (lev r)) / 8) ((r - min (lev n) (lev r)) / 8) ≤ 20 := by
                have h20 := hd.2.1
                unfold cc
                split
                · rename_i hcl
                  rw [Bool.and_eq_true] at hcl
                  have c1 := cls_lt hcl.1
                  have k2 : ∀ (f a b : Nat), 2 ≤ a → a < d.1 → 2 ≤ ccF d f a b ∧ ccF d f a b ≤ 20 := by
                    intro f
                    induction f with
                    | zero => intro a b _ _; show 2 ≤ 2 ∧ 2 ≤ 20; omega
                    | succ f ih =>
                      intro a b h2 ha
                      show 2 ≤ (if anc d a b = true then a else if a ≤ 2 then 2 else ccF d f (d.2.1 a) b) ∧ (if anc d a b = true then a else if a ≤ 2 then 2 else ccF d f (d.2.1 a) b) ≤ 20
                      split
                      · omega
                      · split
                        · omega
                        · rename_i _ q
                          have := hd.2.2.1 a (by omega) ha
                          exact ih _ _ this.1 (by omega)
                  exact k2 20 _ _ c1.1 c1.2
                · omega
              have hk1 : min (lev n) (lev r) ≤ lev n := Nat.min_le_left _ _
              unfold jnN
              dsimp only
              generalize min (lev n) (lev r) = k at hk1 hcc
              split <;> omega
            rw [rfV_n hge.2]
            unfold rfN
            simp only [Bool.and_eq_true, bne_iff_ne, ne_eq]
            omega
    rw [h] at hrf
    rcases hrf with z | z
    · rw [nr] at z; cases z
    · exact n2 z
theorem pr_jn {d : Dcl} (hd : DI d) {x y : Nat → Int32} {h : Nat} (hx : PrS x h) (hy : PrS y h) (sx : ∀ i, i < h → svA d (x i)) (sy : ∀ i, i < h → svA d (y i)) : PrS (fun i => joinA d (x i) (y i)) h := by
  intro i hi
  have px := hx i hi
  have py := hy i hi
  constructor
  · intro z
    have e := join_8 hd (sx i hi) (sy i hi) (Or.inl rfl) z
    have k1 := px.1 e.1
    have k2 := py.1 e.2
    refine ⟨k1.1, ?_⟩
    show joinA d (x (i + 1)) (y (i + 1)) = -3
    rw [k1.2, k2.2]; rfl
  · intro z
    have e := join_8 hd (sx i hi) (sy i hi) (Or.inr rfl) z
    have k1 := px.2 e.1
    have k2 := py.2 e.2
    refine ⟨k1.1, ?_⟩
    show joinA d (x (i - 1)) (y (i - 1)) = 8
    rw [k1.2, k2.2]; rfl
theorem wx_jn {A : Enw} (hd : DI A.1) {x y : Fr} (hx : WX A x) (hy : WX A y) (h : x.2.2.1 = y.2.2.1) : WX A (jnF A.1 x y) := by
  refine ⟨wf_jn hd hx.1 hy.1 h, prL_S.mpr (pr_jn hd (prL_S.mp hx.2.1) (prL_S.mp hy.2.1) hx.1.1 hy.1.1), pr_jn hd hx.2.2.1 (show PrS y.2.1 x.2.2.1 by rw [h]; exact hy.2.2.1) hx.1.2.1 (show ∀ i, i < x.2.2.1 → svA A.1 (y.2.1 i) by rw [h]; exact hy.1.2.1), hx.2.2.2.1, fun j hj hj2 => ?_⟩
  show joinA A.1 (x.1 j) (y.1 j) = -2
  rw [hx.2.2.2.2 j hj hj2, hy.2.2.2.2 j hj hj2]; rfl
theorem wx_cau {A : Enw} (hA : EI A) {x : Fr} {h : Nat} (hx : WX A x) (hh : h < chn A.2.2) (hm : cmost A.2.2 ≠ 0) : WX A (cauF A.2.2 h x) := by
  have hc := hA.2.2.2.2.2.2.2.2 h hh
  have h20 := hA.1.2.1
  have n83 := n32_83 (n := 8 * chc A.2.2 h) (by omega) (by omega)
  refine ⟨⟨hx.1.1, fun i hi => sv_n (isTb hc.1), (by show 1 ≤ 12; omega)⟩, hx.2.1, fun i hi => ?_, by show 1 ≤ cmost A.2.2; omega, hx.2.2.2.2⟩
  exact ⟨fun z => absurd z n83.1, fun z => absurd z n83.2⟩
theorem aFlow_wx {A : Enw} (hd : DI A.1) {y : Fr} {t : Nat} {s s' : Ist} (ws : TWX A s.1) (wy : WX A y) (ht : t < 100) (h : aFlow A.1 y t s = some s') : TWX A s'.1 := by
  unfold aFlow at h
  cases htb : s.1 t with
  | none =>
    rw [htb] at h
    have h : some (upT s.1 t y, upB s.2 t true) = some s' := h
    cases h
    intro i x hi hx
    have hx : upT s.1 t y i = some x := hx
    unfold upT at hx
    by_cases e : i = t
    · rw [if_pos e] at hx; cases hx; exact wy
    · rw [if_neg e] at hx; exact ws i x hi hx
  | some z =>
    rw [htb] at h
    have h : (if mrgOk A.1 z y = true then some (upT s.1 t (jnF A.1 z y), upB s.2 t (s.2 t || mrgCh A.1 z y)) else none) = some s' := h
    by_cases ok : mrgOk A.1 z y = true
    · rw [if_pos ok] at h
      cases h
      have hh : z.2.2.1 = y.2.2.1 := by
        unfold mrgOk at ok
        rw [Bool.and_eq_true, decide_eq_true_eq] at ok
        exact ok.1
      intro i x hi hx
      have hx : upT s.1 t (jnF A.1 z y) i = some x := hx
      unfold upT at hx
      by_cases e : i = t
      · rw [if_pos e] at hx; cases hx; exact wx_jn hd (ws t z ht htb) wy hh
      · rw [if_neg e] at hx; exact ws i x hi hx
    · rw [if_neg ok] at h; cases h
theorem flw_wx {A : Enw} (hd : DI A.1) {y : Fr} {t : Nat} {s : Ist} (ws : TWX A s.1) (wy : WX A y) (ht : t < 100) : TWX A (flw A.1 y t s).2.1 := by
  unfold flw
  cases h : aFlow A.1 y t s with
  | none => exact ws
  | some s' => exact aFlow_wx hd ws wy ht h
theorem flw_8 {d : Dcl} {y : Fr} {t : Nat} {s : Ist} : (flw d y t s).1 = 0 ∧ aFlow d y t s = some (flw d y t s).2 ∨ (flw d y t s).1 = 8 ∧ aFlow d y t s = none := by
  unfold flw
  cases h : aFlow d y t s with
  | none => exact Or.inr ⟨rfl, rfl⟩
  | some s' => exact Or.inl ⟨rfl, rfl⟩
