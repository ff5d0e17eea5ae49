abbrev Fr : Type := (Nat → Int32) × (Nat → Int32) × Nat × Bool
abbrev Ms : Type := Fr × Int32
def up1 (f : Nat → Int32) (i : Nat) (x : Int32) : Nat → Int32 := fun j => if j = i then x else f j
theorem up1_s (f : Nat → Int32) (i : Nat) (x : Int32) : up1 f i x i = x := if_pos rfl
theorem up1_n (f : Nat → Int32) {i j : Nat} (x : Int32) (h : j ≠ i) : up1 f i x j = f j := if_neg h
abbrev Mb : Type := (Nat × (Nat → Nat) × (Nat → Nat)) × (Nat × (Nat → Nat) × (Nat → Nat) × (Nat → Int32) × (Nat → Nat) × (Nat → Nat → Nat))
def fcnt (b : Mb) : Nat := b.1.1
def fown (b : Mb) : Nat → Nat := b.1.2.1
def ftyp (b : Mb) : Nat → Nat := b.1.2.2
def mcnt (b : Mb) : Nat := b.2.1
def mown (b : Mb) : Nat → Nat := b.2.2.1
def mkin (b : Mb) : Nat → Nat := b.2.2.2.1
def mres (b : Mb) : Nat → Int32 := b.2.2.2.2.1
def mpcn (b : Mb) : Nat → Nat := b.2.2.2.2.2.1
def mpty (b : Mb) : Nat → Nat → Nat := b.2.2.2.2.2.2
def wide (n : Nat) : Nat := if n = 8 then 2 else 1
def psum (f : Nat → Nat) : Nat → Nat
  | 0 => 0
  | k + 1 => psum f k + wide (f k)
def mslo (b : Mb) (m : Nat) : Nat := psum (mpty b m) (mpcn b m)
def need (b : Mb) (m : Nat) : Nat := mslo b m + (if mkin b m = 1 then 0 else 1)
abbrev Cd : Type := (Bool × Nat × Nat × Nat) × (Nat × (Nat → Nat) × (Nat → Int32)) × (Nat × (Nat → Int32) × (Nat → Int32) × (Nat → Int32) × (Nat → Nat))
def cst (c : Cd) : Bool := c.1.1
def cme (c : Cd) : Nat := c.1.2.1
def cmost (c : Cd) : Nat := c.1.2.2.1
def cloc (c : Cd) : Nat := c.1.2.2.2
def cn (c : Cd) : Nat := c.2.1.1
def cop (c : Cd) : Nat → Nat := c.2.1.2.1
def cx (c : Cd) : Nat → Int32 := c.2.1.2.2
def chn (c : Cd) : Nat := c.2.2.1
def chs (c : Cd) : Nat → Int32 := c.2.2.2.1
def che (c : Cd) : Nat → Int32 := c.2.2.2.2.1
def cht (c : Cd) : Nat → Int32 := c.2.2.2.2.2.1
def chc (c : Cd) : Nat → Nat := c.2.2.2.2.2.2
abbrev Enw : Type := Dcl × Mb × Cd
def MI (d : Dcl) (b : Mb) : Prop := fcnt b ≤ 30 ∧ mcnt b ≤ 30 ∧ (∀ i, i < fcnt b → cls d (fown b i) = true ∧ isT d (ftyp b i) = true) ∧ ∀ m, m < mcnt b → 2 ≤ mown b m ∧ mown b m < d.1 ∧ mkin b m ≤ 2 ∧ (mres b m = -1 ∨ ∃ n, mres b m = n32 n ∧ isT d n = true) ∧ mpcn b m ≤ 6 ∧ mslo b m ≤ 6 ∧ ∀ k, k < mpcn b m → isT d (mpty b m k) = true
def CI (d : Dcl) (b : Mb) (c : Cd) : Prop := (cst c = true → cme c < mcnt b) ∧ cmost c ≤ 12 ∧ cloc c ≤ 12 ∧ cn c ≤ 100 ∧ chn c ≤ 10 ∧ (∀ i, i < cn c → cop c i ≤ 45) ∧ ∀ h, h < chn c → chc c h < d.1 ∧ 2 ≤ chc c h
def EI (A : Enw) : Prop := DI A.1 ∧ MI A.1 A.2.1 ∧ CI A.1 A.2.1 A.2.2
def WFr (d : Dcl) (x : Fr) : Prop := (∀ i, i < 12 → svA d (x.1 i)) ∧ (∀ i, i < x.2.2.1 → svA d (x.2.1 i)) ∧ x.2.2.1 ≤ 12
def anyR (v : Int32) : Bool := rfT v || v == -1 || v == -4 || decide (v ≤ -10)
def rowV (v : Int32) : Bool := v == -1 || (decide (0 ≤ v) && decide (0 < lev v.toNatClampNeg))
def arrT (v : Int32) : Bool := decide (0 ≤ v) && decide (0 < v.toNatClampNeg % 8)
def whole (v : Int32) : Bool := v != 8 && v != -3
def aReq (c : Bool) (k : Int32) (y : Ms) : Ms := if y.2 = 0 ∧ c = false then (y.1, k) else y
def aPop (y : Ms) : Int32 × Ms := if y.2 ≠ 0 then (-2, y) else if y.1.2.2.1 = 0 then (-2, (y.1, 3)) else (y.1.2.1 (y.1.2.2.1 - 1), ((y.1.1, y.1.2.1, y.1.2.2.1 - 1, y.1.2.2.2), 0))
def aPush (most : Nat) (v : Int32) (y : Ms) : Ms := if y.2 ≠ 0 then y else if most ≤ y.1.2.2.1 then (y.1, 6) else ((y.1.1, up1 y.1.2.1 y.1.2.2.1 v, y.1.2.2.1 + 1, y.1.2.2.2), 0)
def aPopT (d : Dcl) (ty : Int32) (y : Ms) : Ms := if ty = 8 then aReq ((aPop (aPop y).2).1 == 8 && (aPop y).1 == -3) 4 (aPop (aPop y).2).2 else aReq (fitsA d (aPop y).1 ty) 4 (aPop y).2
def aPushT (most : Nat) (ty : Int32) (y : Ms) : Ms := if ty = 8 then aPush most (-3) (aPush most ty y) else aPush most ty y
def aPopC (c : Int32 → Bool) (y : Ms) : Int32 × Ms := ((aPop y).1, aReq (c (aPop y).1) 4 (aPop y).2)
def brk (n : Nat) (l : Nat → Int32) : Nat → Int32 :=
  let l1 := if l n = -3 ∧ 0 < n then up1 l (n - 1) (-2) else l
  if l1 n = 8 ∧ n < 11 then up1 l1 (n + 1) (-2) else l1
def aStore (n : Nat) (v : Int32) (y : Ms) : Ms := ((up1 (brk n y.1.1) n v, y.1.2), y.2)
def rep (old new : Int32) (f : Nat → Int32) : Nat → Int32 := fun i => if f i = old then new else f i
def hasR (v : Int32) (s : Nat → Int32) : Nat → Nat → Bool
  | _, 0 => false
  | i, j + 1 => s i == v || hasR v s (i + 1) j
def hasS (v : Int32) (s : Nat → Int32) (h : Nat) : Bool := hasR v s 0 h
def aLocal (A : Enw) (op : Nat) (x : Int32) (y : Ms) : Ms :=
  let mx := cmost A.2.2
  let n := x.toNatClampNeg
  if op = 1 then aPush mx 0 y
  else if op = 2 then aPushT mx 8 y
  else if op = 3 then aPush mx (-1) y
  else if op = 4 then aPush mx 0 (aReq (y.1.1 n == 0) 5 y)
  else if op = 5 then aPushT mx 8 (aReq (y.1.1 n == 8) 5 y)
  else if op = 6 then aPush mx (y.1.1 n) (aReq (anyR (y.1.1 n)) 5 y)
  else if op = 7 then aStore n 0 (aPopT A.1 0 y)
  else if op = 8 then aStore (n + 1) (-3) (aStore n 8 (aPopT A.1 8 y))
  else if op = 9 then aStore n (aPopC anyR y).1 (aPopC anyR y).2
  else if op = 21 then aReq (y.1.1 n == 0) 5 y
  else y
def aPair (mx op : Nat) (y : Ms) : Ms :=
  let u := (aPop y).1
  let l := (aPop (aPop y).2).1
  let z := aReq (l == 8 || (whole l && whole u)) 4 (aPop (aPop y).2).2
  if op = 14 then aPush mx u (aPush mx l (aPush mx u (aPush mx l z))) else z
def aMove (A : Enw) (op : Nat) (y : Ms) : Ms :=
  let mx := cmost A.2.2
  if op = 11 ∨ op = 14 then aPair mx op y
  else
    let u := aPopC whole y
    if op = 12 then aPush mx u.1 (aPush mx u.1 u.2)
    else if op = 13 then aPush mx u.1 (aPush mx (aPopC whole u.2).1 (aPush mx u.1 (aPopC whole u.2).2))
    else if op = 15 then aPush mx (aPopC whole u.2).1 (aPush mx u.1 (aPopC whole u.2).2)
    else u.2
def aNum (A : Enw) (op : Nat) (y : Ms) : Ms :=
  let mx := cmost A.2.2
  let d := A.1
  if op = 16 then aPush mx 0 (aPopT d 0 (aPopT d 0 y))
  else if op = 17 then aPushT mx 8 (aPopT d 8 (aPopT d 8 y))
  else if op = 18 then aPushT mx 8 (aPopT d 0 y)
  else if op = 19 then aPush mx 0 (aPopT d 8 y)
  else if op = 20 then aPush mx 0 (aPopT d 8 (aPopT d 8 y))
  else if op = 23 then aPopT d 0 y
  else if op = 24 then aPopT d 0 (aPopT d 0 y)
  else if op = 25 then (aPopC anyR y).2
  else if op = 26 then (aPopC anyR (aPopC anyR y).2).2
  else y
def aEnd (A : Enw) (op : Nat) (y : Ms) : Ms :=
  let r := mres A.2.1 (cme A.2.2)
  let d := A.1
  if op = 27 then aReq (r == 0) 9 (aPopT d 0 y)
  else if op = 28 then aReq (r == 8) 9 (aPopT d 8 y)
  else if op = 29 then aReq (rfT r && fitsA d (aPopC rfV y).1 r) 9 (aPopC rfV y).2
  else if op = 30 then aReq (r == -1 && !y.1.2.2.2) 9 y
  else (aPopC rfV y).2
def aObj (A : Enw) (op : Nat) (x : Int32) (y : Ms) : Ms :=
  let mx := cmost A.2.2
  let n := x.toNatClampNeg
  if op = 32 then aPushT mx (n32 (ftyp A.2.1 n)) (aPopT A.1 (n32 (8 * fown A.2.1 n)) y)
  else if op = 33 then aReq (((aPop (aPopT A.1 (n32 (ftyp A.2.1 n)) y)).1 == -4 && fown A.2.1 n == mown A.2.1 (cme A.2.2)) || fitsA A.1 (aPop (aPopT A.1 (n32 (ftyp A.2.1 n)) y)).1 (n32 (8 * fown A.2.1 n))) 4 (aPop (aPopT A.1 (n32 (ftyp A.2.1 n)) y)).2
  else if op = 44 then aPush mx x (aPopC rfV y).2
  else aPush mx 0 (aPopC rfV y).2
def aArr (A : Enw) (op : Nat) (x : Int32) (y : Ms) : Ms :=
  let mx := cmost A.2.2
  let d := A.1
  if op = 38 then aPush mx (x + 1) (aPopT d 0 y)
  else if op = 39 then aPush mx 0 (aPopT d 1 (aPopT d 0 y))
  else if op = 40 then aPopT d 1 (aPopT d 0 (aPopT d 0 y))
  else if op = 41 then
    let u := aPopC rowV (aPopT d 0 y)
    aPush mx (if u.1 = -1 then -1 else u.1 - 1) u.2
  else if op = 42 then (aPopC rowV (aPopT d 0 (aPopC rfV y).2)).2
  else aPush mx 0 (aPopC (fun v => v == -1 || arrT v) y).2
def aNew (A : Enw) (v : Int32) (y : Ms) : Ms :=
  let z := aReq (!hasS v y.1.2.1 y.1.2.2.1) 4 y
  aPush (cmost A.2.2) v ((rep v (-2) z.1.1, z.1.2), z.2)
def aPars (d : Dcl) (f : Nat → Nat) : Nat → Ms → Ms
  | 0, y => y
  | k + 1, y => aPars d f k (aPopT d (n32 (f k)) y)
def isCre (c : Cd) (i : Int32) (b : Nat) : Bool := decide (0 ≤ i) && decide (i < n32 (cn c)) && cop c i.toNatClampNeg == 34 && cx c i.toNatClampNeg == n32 b
def aInit (A : Enw) (b : Nat) (y : Ms) : Ms :=
  let own := mown A.2.1 (cme A.2.2)
  let o := (aPop y).1
  let ok := if o = -4 then b == own || (decide (3 ≤ own) && b == A.1.2.1 own) else decide (o ≤ -10) && isCre A.2.2 (-10 - o) b
  let z := aReq ok 4 (aPop y).2
  if z.2 = 0 then
    let w := n32 (8 * (if o = -4 then own else b))
    ((rep o w z.1.1, rep o w z.1.2.1, z.1.2.2.1, z.1.2.2.2 && !(o == -4)), 0)
  else z
def aCall (A : Enw) (op : Nat) (m : Nat) (y : Ms) : Ms :=
  let mx := cmost A.2.2
  let z := aPars A.1 (mpty A.2.1 m) (mpcn A.2.1 m) y
  if op = 35 then aInit A (mown A.2.1 m) z
  else
    let w := if op = 36 then aPopT A.1 (n32 (8 * mown A.2.1 m)) z else z
    if mres A.2.1 m = -1 then w else aPushT mx (mres A.2.1 m) w
def aExec (A : Enw) (i : Nat) (f : Fr) : Ms :=
  let op := cop A.2.2 i
  let x := cx A.2.2 i
  if op ≤ 9 ∨ op = 21 then aLocal A op x (f, 0)
  else if op ≤ 15 then aMove A op (f, 0)
  else if op ≤ 26 then aNum A op (f, 0)
  else if op ≤ 31 then aEnd A op (f, 0)
  else if op = 34 then aNew A (-10 - n32 i) (f, 0)
  else if 35 ≤ op ∧ op ≤ 37 then aCall A op x.toNatClampNeg (f, 0)
  else if 38 ≤ op ∧ op ≤ 43 then aArr A op x (f, 0)
  else aObj A op x (f, 0)
def okX (A : Enw) (op : Nat) (x : Int32) : Prop :=
  ((op = 4 ∨ op = 6 ∨ op = 7 ∨ op = 9 ∨ op = 21) → ∃ n, x = n32 n ∧ n < cloc A.2.2) ∧
  ((op = 5 ∨ op = 8) → ∃ n, x = n32 n ∧ n + 1 < cloc A.2.2) ∧
  ((22 ≤ op ∧ op ≤ 26) → ∃ n, x = n32 n ∧ n < cn A.2.2) ∧
  ((op = 32 ∨ op = 33) → ∃ n, x = n32 n ∧ n < fcnt A.2.1) ∧
  (op = 34 → ∃ n, x = n32 n ∧ cls A.1 n = true) ∧
  ((35 ≤ op ∧ op ≤ 37) → ∃ n, x = n32 n ∧ n < mcnt A.2.1 ∧ mkin A.2.1 n = (if op = 35 then 2 else if op = 36 then 0 else 1)) ∧
  (op = 38 → ∃ n, x = n32 n ∧ isT A.1 n = true ∧ n % 8 < 4) ∧
  ((op = 44 ∨ op = 45) → ∃ n, x = n32 n ∧ isT A.1 n = true ∧ rfN n = true)
section WF
variable {d : Dcl} {y : Ms}
theorem sv_n {n : Nat} (h : isT d n = true) : svA d (n32 n) := Or.inl ⟨n, rfl, h⟩
theorem sv_top : svA d (-2) := Or.inr (Or.inl (by decide))
theorem sv_null : svA d (-1) := Or.inr (Or.inl (by decide))
theorem sv_high : svA d (-3) := Or.inr (Or.inl (by decide))
theorem isT0 (hd : DI d) : isT d 0 = true := isT_iff.mpr ⟨by have := hd.1; omega, by decide⟩
theorem isT1 (hd : DI d) : isT d 1 = true := isT_iff.mpr ⟨by have := hd.1; omega, by decide⟩
theorem isT8 (hd : DI d) : isT d 8 = true := isT_iff.mpr ⟨by have := hd.1; omega, by decide⟩
theorem isTb {b : Nat} (hb : b < d.1) : isT d (8 * b) = true := isT_iff.mpr ⟨by omega, by omega⟩
theorem sv_0 (hd : DI d) : svA d 0 := sv_n (n := 0) (isT0 hd)
theorem sv_8 (hd : DI d) : svA d 8 := sv_n (n := 8) (isT8 hd)
theorem wf_req {c : Bool} {k : Int32} (h : WFr d y.1) : WFr d (aReq c k y).1 := by
  unfold aReq
  split <;> exact h
theorem wf_pop (h : WFr d y.1) : WFr d (aPop y).2.1 ∧ svA d (aPop y).1 := by
  unfold aPop
  split
  · exact ⟨h, sv_top⟩
  · split
    · exact ⟨h, sv_top⟩
    · rename_i h2
      exact ⟨⟨h.1, fun i hi => h.2.1 i (by show i < y.1.2.2.1; have : i < y.1.2.2.1 - 1 := hi; omega), by show y.1.2.2.1 - 1 ≤ 12; have := h.2.2; omega⟩, h.2.1 _ (by omega)⟩
theorem wf_push {mx : Nat} {v : Int32} (hm : mx ≤ 12) (hv : svA d v) (h : WFr d y.1) : WFr d (aPush mx v y).1 := by
  unfold aPush
  split
  · exact h
  · split
    · exact h
    · rename_i h2
      refine ⟨h.1, fun i hi => ?_, by show y.1.2.2.1 + 1 ≤ 12; omega⟩
      show svA d (up1 _ _ _ i)
      by_cases e : i = y.1.2.2.1
      · rw [e, up1_s]; exact hv
      · rw [up1_n _ _ e]; exact h.2.1 i (by have : i < y.1.2.2.1 + 1 := hi; omega)
theorem wf_popT {ty : Int32} (h : WFr d y.1) : WFr d (aPopT d ty y).1 := by
  unfold aPopT
  split
  · exact wf_req (wf_pop (wf_pop h).1).1
  · exact wf_req (wf_pop h).1
theorem wf_popC {c : Int32 → Bool} (h : WFr d y.1) : WFr d (aPopC c y).2.1 ∧ svA d (aPopC c y).1 := ⟨wf_req (wf_pop h).1, (wf_pop h).2⟩
theorem sv_up1 {l : Nat → Int32} {n : Nat} {v : Int32} (h : ∀ i, i < 12 → svA d (l i)) (hv : svA d v) : ∀ i, i < 12 → svA d (up1 l n v i) := by
  intro i hi
  by_cases e : i = n
  · rw [e, up1_s]; exact hv
  · rw [up1_n _ _ e]; exact h i hi
theorem sv_brk {l : Nat → Int32} {n : Nat} (h : ∀ i, i < 12 → svA d (l i)) : ∀ i, i < 12 → svA d (brk n l i) := by
  unfold brk
  have h1 : ∀ i, i < 12 → svA d ((if l n = -3 ∧ 0 < n then up1 l (n - 1) (-2) else l) i) := by
    split
    · exact sv_up1 h sv_top
    · exact h
  have h2 : ∀ l1 : Nat → Int32, (∀ i, i < 12 → svA d (l1 i)) → ∀ i, i < 12 → svA d ((if l1 n = 8 ∧ n < 11 then up1 l1 (n + 1) (-2) else l1) i) := by
    intro l1 hl
    split
    · exact sv_up1 hl sv_top
    · exact hl
  exact h2 _ h1
theorem wf_store {n : Nat} {v : Int32} (hv : svA d v) (h : WFr d y.1) : WFr d (aStore n v y).1 := ⟨sv_up1 (sv_brk h.1) hv, h.2⟩
end WF
