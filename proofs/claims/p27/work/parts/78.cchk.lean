def aAll (p : Nat → Bool) : Nat → Nat → Bool
  | _, 0 => true
  | i, k + 1 => p i && aAll p (i + 1) k
def ffA (d : Dcl) (x y : Fr) : Bool := decide (x.2.2.1 = y.2.2.1) && ((!x.2.2.2 || y.2.2.2) && (aAll (fun i => fitsA d (x.1 i) (y.1 i)) 0 12 && aAll (fun i => fitsA d (x.2.1 i) (y.2.1 i)) 0 x.2.2.1))
def flK (d : Dcl) (tb : Nat → Option Fr) (y : Fr) (t : Nat) (b : Bool) : Int32 × Bool := match tb t with
  | none => (10, b)
  | some x => if ffA d y x = true then (0, b) else (10, b)
def nfK (_ : Fr) (_ : Nat) (_ : Bool) : Int32 × Bool := (0, true)
def LK (E : Ev) (K : Nat) : Prop := WE E ∧ Inj E ∧ E.1 K = some (0, 5, 0) ∧ (E.2 (E.2 K 7) 0 = E.2 K 1 ∧ E.2 (E.2 K 7) 1 = E.2 K 5 ∧ E.2 (E.2 K 7) 2 = E.2 K 0) ∧ E.2 (E.2 K 6) 0 = E.2 K 1 ∧ E.2 (E.2 K 6) 1 = E.2 K 5 ∧ E.2 (E.2 K 6) 2 = E.2 K 0
section CK1
variable {E : Ev} {S : St} {fu K : Nat} {A : Enw} {tb : Nat → Option Fr}
theorem lk_C (L : LK E K) : E.1 (E.2 K 0) = some (0, 0, 0) := L.1.2.1 K 5 0 _ L.2.2.1 rfl
theorem lk_T (L : LK E K) : E.1 (E.2 K 1) = some (0, 8, 0) := L.1.2.1 K 5 1 _ L.2.2.1 rfl
theorem lk_B (L : LK E K) : E.1 (E.2 K 5) = some (0, 7, 0) := L.1.2.1 K 5 5 _ L.2.2.1 rfl
theorem lk_p (L : LK E K) : E.1 (E.2 K 2) = some (0, 2, 0) := L.1.2.1 K 5 2 _ L.2.2.1 rfl
theorem lk_c (L : LK E K) : E.1 (E.2 K 8) = some (0, 2, 0) := L.1.2.1 K 5 8 _ L.2.2.1 rfl
theorem lk_M (L : LK E K) : E.1 (E.2 K 7) = some (0, 6, 0) := L.1.2.1 K 5 7 _ L.2.2.1 rfl
theorem lk_X (L : LK E K) : E.1 (E.2 K 6) = some (0, 1, 0) := L.1.2.1 K 5 6 _ L.2.2.1 rfl
theorem lk_t (L : LK E K) : E.1 (E.2 K 9) = some (0, 3, 0) := L.1.2.1 K 5 9 _ L.2.2.1 rfl
theorem lk_pc (L : LK E K) : E.2 K 2 ≠ E.2 K 8 := fr_ne2 L.1 L.2.1 L.2.2.1 (show (ftab 5)[2]? = some (some (0, 2, 0)) from rfl) L.2.2.1 (show (ftab 5)[8]? = some (some (0, 2, 0)) from rfl) (fun e => by simp at e)
theorem lk_pt (L : LK E K) : ∀ i, i < 100 → E.2 K 2 ≠ frA E (E.2 K 9) i := fun i hi => fr_ne L.1 L.2.1 (lk_t L) L.2.2.1 (show (ftab 5)[2]? = some (some (0, 2, 0)) from rfl) hi
theorem lk_ct (L : LK E K) : ∀ i, i < 100 → E.2 K 8 ≠ frA E (E.2 K 9) i := fun i hi => fr_ne L.1 L.2.1 (lk_t L) L.2.2.1 (show (ftab 5)[8]? = some (some (0, 2, 0)) from rfl) hi
theorem t_ffS {T a b : Nat} {x y : Fr} (hd : DI A.1) (vT : VT E S T A.1) (hfu : 200 ≤ fu) (va : VF E S a x) (vb : VF E S b y) (wx : WFr A.1 x) (wy : WFr A.1 y) (hh : x.2.2.1 = y.2.2.1) : ∀ (k i F : Nat), i + k = x.2.2.1 → k + 1 ≤ F → lp_X10_frameFits_64 fu E T a b F (n32 i) S = some (b2 (aAll (fun i => fitsA A.1 (x.2.1 i) (y.2.1 i)) i k), S) := by
  have h12 := wx.2.2
  intro k
  induction k with
  | zero =>
    intro i F hk hF
    obtain ⟨F, rfl⟩ : ∃ z, F = z + 1 := ⟨F - 1, by omega⟩
    show bd_X10_frameFits_64 fu E T a b _ (n32 i) S = some (1, S)
    unfold bd_X10_frameFits_64
    rw [va.2.2.1, zi_le (by omega) (by omega), if_pos (by omega)]
  | succ k ih =>
    intro i F hk hF
    obtain ⟨F, rfl⟩ : ∃ z, F = z + 1 := ⟨F - 1, by omega⟩
    have hin : inb (n32 i) 12 = true := by rw [z_inb (by omega)]; omega
    show bd_X10_frameFits_64 fu E T a b (lp_X10_frameFits_64 fu E T a b F) (n32 i) S = some (b2 (fitsA A.1 (x.2.1 i) (y.2.1 i) && aAll (fun i => fitsA A.1 (x.2.1 i) (y.2.1 i)) (i + 1) k), S)
    unfold bd_X10_frameFits_64
    rw [va.2.2.1, zi_le (by omega) (by omega), if_neg (by omega), if_pos hin, if_pos hin, z_nat (show i < 2 ^ 31 by omega), va.2.1 i (by omega), vb.2.1 i (by omega), t_fits hd vT (by omega) (wx.2.1 i (by omega)) (wy.2.1 i (by omega)), Option.bind_some, b2_if, show n32 i + 1 = n32 (i + 1) from z_add i 1]
    dsimp only
    cases fitsA A.1 (x.2.1 i) (y.2.1 i) with
    | true => rw [if_pos rfl, Bool.true_and]; exact ih (i + 1) F (by omega) (by omega)
    | false => rw [if_neg (by decide)]; rfl
theorem t_ffL {T a b : Nat} {x y : Fr} (hd : DI A.1) (vT : VT E S T A.1) (hfu : 200 ≤ fu) (va : VF E S a x) (vb : VF E S b y) (wx : WFr A.1 x) (wy : WFr A.1 y) (hh : x.2.2.1 = y.2.2.1) : ∀ (k i F : Nat), i + k = 12 → k + 1 ≤ F → lp_X10_frameFits_29 fu E T a b F (n32 i) S = some (b2 (aAll (fun i => fitsA A.1 (x.1 i) (y.1 i)) i k && aAll (fun i => fitsA A.1 (x.2.1 i) (y.2.1 i)) 0 x.2.2.1), S) := by
  have h12 := wx.2.2
  intro k
  induction k with
  | zero =>
    intro i F hk hF
    obtain ⟨F, rfl⟩ : ∃ z, F = z + 1 := ⟨F - 1, by omega⟩
    have hi : i = 12 := by omega
    subst hi
    show bd_X10_frameFits_29 fu E T a b _ (n32 12) S = _
    unfold bd_X10_frameFits_29
    rw [if_pos (show (12 : Int32) ≤ n32 12 by decide)]
    exact t_ffS hd vT hfu va vb wx wy hh x.2.2.1 0 fu (by omega) (by omega)
  | succ k ih =>
    intro i F hk hF
    obtain ⟨F, rfl⟩ : ∃ z, F = z + 1 := ⟨F - 1, by omega⟩
    have hin : inb (n32 i) 12 = true := by rw [z_inb (by omega)]; omega
    show bd_X10_frameFits_29 fu E T a b (lp_X10_frameFits_29 fu E T a b F) (n32 i) S = some (b2 ((fitsA A.1 (x.1 i) (y.1 i) && aAll (fun i => fitsA A.1 (x.1 i) (y.1 i)) (i + 1) k) && aAll (fun i => fitsA A.1 (x.2.1 i) (y.2.1 i)) 0 x.2.2.1), S)
    unfold bd_X10_frameFits_29
    rw [show (12 : Int32) = n32 12 from rfl, zi_le (by decide) (by omega), if_neg (by omega), if_pos hin, if_pos hin, z_nat (show i < 2 ^ 31 by omega), va.1 i (by omega), vb.1 i (by omega), t_fits hd vT (by omega) (wx.1 i (by omega)) (wy.1 i (by omega)), Option.bind_some, b2_if, show n32 i + 1 = n32 (i + 1) from z_add i 1]
    dsimp only
    cases fitsA A.1 (x.1 i) (y.1 i) with
    | true => rw [if_pos rfl, Bool.true_and]; exact ih (i + 1) F (by omega) (by omega)
    | false => rw [if_neg (by decide)]; rfl
theorem t_frF {T a b : Nat} {x y : Fr} (hd : DI A.1) (vT : VT E S T A.1) (hfu : 200 ≤ fu) (va : VF E S a x) (vb : VF E S b y) (wx : WFr A.1 x) (wy : WFr A.1 y) : sp_X10_frameFits fu E S T a b = some (b2 (ffA A.1 x y), S) := by
  have h1 := wx.2.2
  have h2 := wy.2.2
  unfold sp_X10_frameFits ffA
  rw [va.2.2.1, vb.2.2.1, zi_eq (by omega) (by omega), va.2.2.2, vb.2.2.2, b2_if, b2_if]
  by_cases hh : x.2.2.1 = y.2.2.1
  · rw [if_pos hh, decide_eq_true hh, Bool.true_and]
    have e : lp_X10_frameFits_29 fu E T a b fu 0 S = _ := t_ffL hd vT hfu va vb wx wy hh 12 0 fu rfl (by omega)
    rw [e]
    cases x.2.2.2 <;> cases y.2.2.2 <;> rfl
  · rw [if_neg hh, decide_eq_false hh]; rfl
theorem c_flK (L : LK E K) (hA : EI A) (hfu : 200 ≤ fu) (vT : VT E S (E.2 K 1) A.1) (vt : VTb E S (E.2 K 9) tb) (tw : TWX A tb) {a t : Nat} {y : Fr} {b : Bool} (va : VF E S a y) (wy : WFr A.1 y) (ht : t < 100) : sp_X6_flow fu E S K (n32 t) a 0 = some ((flK A.1 tb y t b).1, S) := by
  have hin : inb (n32 t) 100 = true := by rw [z_inb (by omega)]; omega
  unfold sp_X6_flow jb_X6_flow_42 flK
  rw [if_pos rfl, t_has vt ht, Option.bind_some, b2_if]
  dsimp only
  rw [if_pos hin, z_nat (show t < 2 ^ 31 by omega)]
  cases htb : tb t with
  | none => rfl
  | some x =>
    rw [show (some x : Option Fr).isSome = true from rfl, if_pos rfl]
    have vx : VF E S (E.2 (E.2 (E.2 K 9) 0) t) x := (vt.2.1 t x ht htb).1
    rw [t_frF hA.1 vT hfu va vx wy (tw t x ht htb).1, Option.bind_some, b2_if]
    dsimp only
    cases ffA A.1 y x <;> rfl
theorem c_hdK (L : LK E K) (hA : EI A) (hG : Good A) (hfu : 200 ≤ fu) (tw : TWX A tb) {f : Fr} (wf : WX A f) {i : Nat} {b : Bool} : ∀ (k h F : Nat) (S : St), h + k = chn A.2.2 → k + 1 ≤ F → VEnv E S (E.2 K 1) (E.2 K 5) (E.2 K 0) A → VTb E S (E.2 K 9) tb → VF E S (E.2 K 2) f → ∃ S', lp_X0_flowToHandlers_5_2 fu E K F (n32 i) (n32 h) S = some ((gHd A (flK A.1 tb) i f h k b).1, S') ∧ Ag (PF E (E.2 K 8)) S S' := by
  have h10 := hA.2.2.2.2.2.2.1
  have h100 := hA.2.2.2.2.2.1
  have hmx := hA.2.2.2.1
  have hE := L.1
  have hI := L.2.1
  have hP : ∀ q, PF E (E.2 K 8) q → muT (E.1 q) = true := mu_pf hE (lk_c L)
  intro k
  induction k with
  | zero =>
    intro h F S hk hF v vt vf
    obtain ⟨F, rfl⟩ : ∃ z, F = z + 1 := ⟨F - 1, by omega⟩
    refine ⟨S, ?_, Ag_refl⟩
    show bd_X0_flowToHandlers_5_2 fu E K _ (n32 i) (n32 h) S = some (0, S)
    unfold bd_X0_flowToHandlers_5_2
    rw [v.2.2.2.2.2.2.2.1, zi_le (by omega) (by omega), if_pos (by omega)]
  | succ k ih =>
    intro h F S hk hF v vt vf
    obtain ⟨F, rfl⟩ : ∃ z, F = z + 1 := ⟨F - 1, by omega⟩
    have hh : h < chn A.2.2 := by omega
    have hin : inb (n32 h) 10 = true := by rw [z_inb (by omega)]; omega
    have ht := hOk_tgt ((good_all hG).2.1 h hh)
    have go : gHd A (flK A.1 tb) i f h (k + 1) b = (if prot A.2.2 h i = true then (if cmost A.2.2 = 0 then (6, b) else if (flK A.1 tb (cauF A.2.2 h f) (tgt A.2.2 h) b).1 = 0 then gHd A (flK A.1 tb) i f (h + 1) k (flK A.1 tb (cauF A.2.2 h f) (tgt A.2.2 h) b).2 else (flK A.1 tb (cauF A.2.2 h f) (tgt A.2.2 h) b)) else gHd A (flK A.1 tb) i f (h + 1) k b) := rfl
    have eb : (flK A.1 tb (cauF A.2.2 h f) (tgt A.2.2 h) b).2 = b := by
      unfold flK
      split
      · rfl
      · split <;> rfl
    rw [go, eb]
    show ∃ S', bd_X0_flowToHandlers_5_2 fu E K (lp_X0_flowToHandlers_5_2 fu E K F) (n32 i) (n32 h) S = _ ∧ _
    unfold bd_X0_flowToHandlers_5_2
    rw [v.2.2.2.2.2.2.2.1, zi_le (by omega) (by omega), if_neg (by omega), t_prot v.2.2 h10 hh, Option.bind_some, b2_if, show n32 h + 1 = n32 (h + 1) from z_add h 1]
    dsimp only
    by_cases c1 : prot A.2.2 h i = true
    · rw [if_pos c1, if_pos c1, v.2.2.2.2.1, show (0 : Int32) = n32 0 from rfl, zi_eq (by omega) (by decide), show n32 0 = (0 : Int32) from rfl]
      by_cases c2 : cmost A.2.2 = 0
      · rw [if_pos c2, if_pos c2]
        exact ⟨S, rfl, Ag_refl⟩
      · have vh := v.2.2.2.2.2.2.2.2.2 h hh
        rw [if_neg c2, if_neg c2, if_pos hin, z_nat (by omega), vh.2.2.2]
        obtain ⟨S1, e1, v1, a1⟩ := f_caught (fu := fu) (c := chc A.2.2 h) hE hI (lk_c L) (lk_p L) (Ne.symm (lk_pc L)) vf wf.1.2.2
        have v1 : VF E S1 (E.2 K 8) (cauF A.2.2 h f) := v1
        have ve1 := venv_mu hE v a1 hP (lk_T L) (lk_B L) (lk_C L)
        have vt1 : VTb E S1 (E.2 K 9) tb := vtb_ag vt a1 (fun q hq z => pf_pt hE hI (lk_t L) (lk_c L) (lk_ct L) q z hq)
        have vf1 : VF E S1 (E.2 K 2) f := vf_ag vf a1 (pf_dis hE hI (lk_p L) (lk_c L) (lk_pc L))
        have wc := wx_cau hA wf hh c2
        have tl : tgt A.2.2 h < 100 := by have := ht.2; omega
        rw [e1, Option.bind_some, if_pos hin, (ve1.2.2.2.2.2.2.2.2.2 h hh).2.2.1, ht.1, c_flK (b := b) L hA hfu ve1.1 vt1 tw v1 wc.1 tl, Option.bind_some]
        dsimp only
        by_cases c3 : (flK A.1 tb (cauF A.2.2 h f) (tgt A.2.2 h) b).1 = 0
        · rw [if_pos c3, if_pos c3]
          obtain ⟨S3, e3, a3⟩ := ih (h + 1) F S1 (by omega) (by omega) ve1 vt1 vf1
          exact ⟨S3, e3, Ag_trans a1 a3⟩
        · rw [if_neg c3, if_neg c3]
          exact ⟨S1, rfl, a1⟩
    · rw [if_neg c1, if_neg c1]
      exact ih (h + 1) F S (by omega) (by omega) v vt vf
theorem flK_2 {d : Dcl} {f : Fr} {t : Nat} {b : Bool} : (flK d tb f t b).2 = b := by
  unfold flK
  split
  · rfl
  · split <;> rfl
theorem gHd_2 {i : Nat} {f : Fr} {b : Bool} : ∀ (k h : Nat), (gHd A (flK A.1 tb) i f h k b).2 = b
  | 0, _ => rfl
  | k + 1, h => by
    show (if prot A.2.2 h i = true then (if cmost A.2.2 = 0 then ((6 : Int32), b) else if (flK A.1 tb (cauF A.2.2 h f) (tgt A.2.2 h) b).1 = 0 then gHd A (flK A.1 tb) i f (h + 1) k (flK A.1 tb (cauF A.2.2 h f) (tgt A.2.2 h) b).2 else (flK A.1 tb (cauF A.2.2 h f) (tgt A.2.2 h) b)) else gHd A (flK A.1 tb) i f (h + 1) k b).2 = b
    rw [flK_2]
    split
    · split
      · rfl
      · split
        · exact gHd_2 k (h + 1)
        · exact flK_2
    · exact gHd_2 k (h + 1)
theorem c_suK (L : LK E K) (hA : EI A) (hG : Good A) (hfu : 200 ≤ fu) (tw : TWX A tb) {f : Fr} (wf : WX A f) {i : Nat} (hi : i < cn A.2.2) {b : Bool} (v : VEnv E S (E.2 K 1) (E.2 K 5) (E.2 K 0) A) (vt : VTb E S (E.2 K 9) tb) (vf : VF E S (E.2 K 2) f) : sp_X0_flowToSuccessors_5 fu E S K (n32 i) = some ((gSu A (flK A.1 tb) nfK i f b).1, S) := by
  have h100 := hA.2.2.2.2.2.1
  have hop := hA.2.2.2.2.2.2.2.1 i hi
  have hin : inb (n32 i) 100 = true := by rw [z_inb (by omega)]; omega
  have vh := v.2.2.2.2.2.2.2.2.1 i hi
  have go : ∀ (s1 : Int32 × Bool), jb_X0_flowToSuccessors_5_50 fu E K (n32 i) (n32 (cop A.2.2 i)) s1.1 S = some ((if s1.1 = 0 then (if jmp (cop A.2.2 i) = true then flK A.1 tb f (cx A.2.2 i).toNatClampNeg s1.2 else s1) else s1).1, S) := by
    intro s1
    unfold jb_X0_flowToSuccessors_5_50
    by_cases c : s1.1 = 0
    · rw [if_pos c, if_pos c]
      have ej : sp_X9_jumps fu E S (n32 (cop A.2.2 i)) = some (b2 (jmp (cop A.2.2 i)), S) := jmp_ite hop
      rw [ej, Option.bind_some, b2_if]
      dsimp only
      by_cases cj : jmp (cop A.2.2 i) = true
      · rw [if_pos cj, if_pos cj, if_pos hin]
        have hx := jmp_x hG hA hi cj
        rw [z_nat (show i < 2 ^ 31 by omega), vh.2, hx.1, z_nat (show (cx A.2.2 i).toNatClampNeg < 2 ^ 31 by omega), c_flK (b := s1.2) L hA hfu v.1 vt tw vf wf.1 (show (cx A.2.2 i).toNatClampNeg < 100 by omega)]
        rfl
      · rw [if_neg cj, if_neg cj]
    · rw [if_neg c, if_neg c]
  unfold sp_X0_flowToSuccessors_5 bnd
  have ef : sp_X9_fallsThrough fu E S (n32 (cop A.2.2 i)) = some (b2 (fal (cop A.2.2 i)), S) := fal_ite hop
  rw [if_pos hin, z_nat (show i < 2 ^ 31 by omega), vh.1]
  dsimp only
  rw [ef, Option.bind_some, b2_if, show n32 i + 1 = n32 (i + 1) from z_add i 1]
  dsimp only
  unfold gSu gS1
  by_cases c1 : fal (cop A.2.2 i) = true
  · rw [if_pos c1, if_pos c1, t_idx v.2.2 h100, Option.bind_some, b2_if]
    unfold idx
    rw [n32_ge (show i + 1 < 2 ^ 31 by omega), z_nat (show i + 1 < 2 ^ 31 by omega), Bool.true_and]
    dsimp only
    by_cases c2 : i + 1 < cn A.2.2
    · rw [if_pos (decide_eq_true c2), if_pos c2]
      exact go (0, true)
    · rw [if_neg (by rw [decide_eq_true_eq]; exact c2), if_neg c2]
      exact go (7, b)
  · rw [if_neg c1, if_neg c1]
    exact go (0, b)
end CK1
