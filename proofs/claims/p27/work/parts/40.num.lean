abbrev n32 (n : Nat) : Int32 := Int32.ofNat n
def b2 (b : Bool) : Int32 := if b = true then 1 else 0
theorem b2_isB {b : Bool} : isB (b2 b) = true := by cases b <;> rfl
theorem z_int {n : Nat} (h : n < 2 ^ 31) : (n32 n).toInt = n := Int32.toInt_ofNat_of_lt h
theorem z_lt {a b : Nat} (ha : a < 2 ^ 31) (hb : b < 2 ^ 31) : (n32 a < n32 b) = (a < b) := propext (Int32.ofNat_lt_ofNat ha hb)
theorem z_le {a b : Nat} (ha : a < 2 ^ 31) (hb : b < 2 ^ 31) : (n32 a ≤ n32 b) = (a ≤ b) := propext (Int32.ofNat_le_ofNat ha hb)
theorem z_eq {a b : Nat} (ha : a < 2 ^ 31) (hb : b < 2 ^ 31) : (n32 a = n32 b) = (a = b) := by
  apply propext
  constructor
  · intro h
    have := congrArg Int32.toInt h
    rw [z_int ha, z_int hb] at this
    omega
  · intro h; rw [h]
theorem z_nat {n : Nat} (h : n < 2 ^ 31) : (n32 n).toNatClampNeg = n := Int32.toNatClampNeg_ofNat_of_lt h
theorem z_inb {n N : Nat} (h : n < 2 ^ 31) : (inb (n32 n) N = true) = (n < N) := by
  apply propext
  unfold inb
  rw [z_int h, Bool.and_eq_true, decide_eq_true_eq, decide_eq_true_eq]
  omega
theorem z_div {n : Nat} (h : n < 2 ^ 31) : n32 n / 8 = n32 (n / 8) := by
  rw [← Int32.toInt_inj, Int32.toInt_div_of_ne_right _ _ (by decide), z_int h, z_int (by omega)]
  show (n : Int).tdiv 8 = _
  rw [Int.tdiv_eq_ediv_of_nonneg (by omega)]
  omega
theorem z_add (a b : Nat) : n32 a + n32 b = n32 (a + b) := (Int32.ofNat_add a b).symm
theorem z_mul (a b : Nat) : n32 a * n32 b = n32 (a * b) := (Int32.ofNat_mul a b).symm
theorem z_sub {a b : Nat} (h : b ≤ a) : n32 a - n32 b = n32 (a - b) := (Int32.ofNat_sub a b h).symm
theorem z_mod {n : Nat} (h : n < 2 ^ 31) : n32 n - n32 n / 8 * 8 = n32 (n % 8) := by
  rw [z_div h]
  show n32 n - n32 (n / 8) * n32 8 = _
  rw [z_mul, z_sub (by omega)]
  congr 1
  omega
theorem z_sgn (x : Int32) : x < 0 ∨ ∃ n, n < 2 ^ 31 ∧ x = n32 n := by
  by_cases h : x.toInt < 0
  · exact Or.inl (Int32.lt_iff_toInt_lt.mpr (by rw [Int32.toInt_zero]; exact h))
  · refine Or.inr ⟨x.toInt.toNat, ?_, ?_⟩
    · have := Int32.toInt_lt x
      omega
    · rw [← Int32.toInt_inj, z_int (by have := Int32.toInt_lt x; omega)]
      omega
theorem z_neg {x : Int32} (h : x < 0) {n : Nat} (hn : n < 2 ^ 31) : x ≠ n32 n := by
  intro e
  rw [e] at h
  exact Int32.ofNat_not_neg hn h
theorem z_nlt {n : Nat} (hn : n < 2 ^ 31) : (n32 n < 0) = False := eq_false (Int32.ofNat_not_neg hn)
theorem z_ne1 {n : Nat} (hn : n < 2 ^ 31) : (n32 n = -1) = False := eq_false fun h => z_neg (x := -1) (by decide) hn h.symm
theorem z_ne2 {n : Nat} (hn : n < 2 ^ 31) : (n32 n = -2) = False := eq_false fun h => z_neg (x := -2) (by decide) hn h.symm
theorem z_ne3 {n : Nat} (hn : n < 2 ^ 31) : (n32 n = -3) = False := eq_false fun h => z_neg (x := -3) (by decide) hn h.symm
theorem z_i32 {x y : Int32} : (x < y) = (x.toInt < y.toInt) := propext Int32.lt_iff_toInt_lt
theorem z_l32 {x y : Int32} : (x ≤ y) = (x.toInt ≤ y.toInt) := propext Int32.le_iff_toInt_le
abbrev Dcl : Type := Nat × (Nat → Nat) × (Nat → Bool)
def DI (d : Dcl) : Prop := 3 ≤ d.1 ∧ d.1 ≤ 20 ∧ (∀ b, 3 ≤ b → b < d.1 → 2 ≤ d.2.1 b ∧ d.2.1 b < b ∧ d.2.2 (d.2.1 b) = false ∧ (d.2.2 b = true → d.2.1 b = 2)) ∧ ∀ b, b < 3 → d.2.2 b = false
def isT (d : Dcl) (n : Nat) : Bool := decide (n / 8 < d.1) && decide (n % 8 ≤ 4)
def rfN (n : Nat) : Bool := n != 0 && n != 8
def cls (d : Dcl) (b : Nat) : Bool := decide (2 ≤ b) && decide (b < d.1) && !d.2.2 b
def itf (d : Dcl) (b : Nat) : Bool := decide (2 ≤ b) && decide (b < d.1) && d.2.2 b
def lev (n : Nat) : Nat := if n / 8 < 2 ∧ 0 < n % 8 then n % 8 - 1 else n % 8
def ancF (d : Dcl) : Nat → Nat → Nat → Bool
  | 0, _, _ => false
  | f + 1, a, b => b == a || (decide (3 ≤ b) && ancF d f a (d.2.1 b))
def anc (d : Dcl) (a b : Nat) : Bool := ancF d 20 a b
def subN (d : Dcl) (n m : Nat) : Bool :=
  let k := min (lev n) (lev m)
  decide ((m - k) % 8 = 0) && (decide (m - k = 16) || itf d ((m - k) / 8) || (decide ((n - k) % 8 = 0) && anc d ((m - k) / 8) ((n - k) / 8)))
def ccF (d : Dcl) : Nat → Nat → Nat → Nat
  | 0, _, _ => 2
  | f + 1, a, b => if anc d a b = true then a else if a ≤ 2 then 2 else ccF d f (d.2.1 a) b
def cc (d : Dcl) (a b : Nat) : Nat := if (cls d a && cls d b) = true then ccF d 20 a b else 2
def jnN (d : Dcl) (n m : Nat) : Nat :=
  let k := min (lev n) (lev m)
  if (n - k) % 8 = 0 ∧ (m - k) % 8 = 0 then 8 * cc d ((n - k) / 8) ((m - k) / 8) + k else 16 + k
def rfT (v : Int32) : Bool := decide (0 ≤ v) && v != 0 && v != 8
def rfV (v : Int32) : Bool := v == -1 || rfT v
def fitsA (d : Dcl) (v w : Int32) : Bool := v == w || w == -2 || (rfT w && (v == -1 || (rfT v && subN d v.toNatClampNeg w.toNatClampNeg)))
def joinA (d : Dcl) (v w : Int32) : Int32 := if v = w then v else if rfV v = false ∨ rfV w = false then -2 else if v = -1 then w else if w = -1 then v else n32 (jnN d v.toNatClampNeg w.toNatClampNeg)
def svA (d : Dcl) (v : Int32) : Prop := (∃ n, v = n32 n ∧ isT d n = true) ∨ (-4 ≤ v.toInt ∧ v.toInt ≤ -1) ∨ (-110 < v.toInt ∧ v.toInt ≤ -10)
theorem isT_iff {d : Dcl} {n : Nat} : isT d n = true ↔ n / 8 < d.1 ∧ n % 8 ≤ 4 := by simp [isT]
theorem isT_lt {d : Dcl} (hd : DI d) {n : Nat} (h : isT d n = true) : n < 160 := by
  rw [isT_iff] at h
  have := hd.2.1
  omega
theorem rfT_n {n : Nat} (h : n < 2 ^ 31) : rfT (n32 n) = rfN n := by
  unfold rfT rfN
  rw [show (0 : Int32) = n32 0 from rfl, show (8 : Int32) = n32 8 from rfl]
  rw [Bool.eq_iff_iff]
  simp only [Bool.and_eq_true, decide_eq_true_eq, bne_iff_ne, ne_eq, z_le (show 0 < 2 ^ 31 by decide) h, z_eq h (show 0 < 2 ^ 31 by decide), z_eq h (show 8 < 2 ^ 31 by decide)]
  omega
theorem rfT_neg {v : Int32} (h : v < 0) : rfT v = false := by
  unfold rfT
  rw [z_i32] at h
  have : (0 : Int32).toInt = 0 := by decide
  rw [this] at h
  have : ¬ (0 ≤ v) := by rw [z_l32]; omega
  simp [this]
theorem rfV_n {n : Nat} (h : n < 2 ^ 31) : rfV (n32 n) = rfN n := by
  unfold rfV
  rw [rfT_n h]
  have : (n32 n == -1) = false := by rw [beq_eq_false_iff_ne, ne_eq, z_ne1 h]; exact not_false
  rw [this, Bool.false_or]
