def jnF (d : Dcl) (x y : Fr) : Fr := (fun i => joinA d (x.1 i) (y.1 i), fun i => joinA d (x.2.1 i) (y.2.1 i), x.2.2.1, x.2.2.2 || y.2.2.2)
def okJ (d : Dcl) (x y : Nat → Int32) : Nat → Nat → Bool
  | _, 0 => true
  | i, k + 1 => (joinA d (x i) (y i) != -2 || x i == y i) && okJ d x y (i + 1) k
def chJ (d : Dcl) (x y : Nat → Int32) : Nat → Nat → Bool
  | _, 0 => false
  | i, k + 1 => (joinA d (x i) (y i) != x i) || chJ d x y (i + 1) k
def mrgOk (d : Dcl) (x y : Fr) : Bool := decide (x.2.2.1 = y.2.2.1) && okJ d x.2.1 y.2.1 0 x.2.2.1
def mrgCh (d : Dcl) (x y : Fr) : Bool := (y.2.2.2 && !x.2.2.2) || chJ d x.2.1 y.2.1 0 x.2.2.1 || chJ d x.1 y.1 0 12
def upB (f : Nat → Bool) (i : Nat) (b : Bool) : Nat → Bool := fun j => if j = i then b else f j
abbrev Ist : Type := (Nat → Option Fr) × (Nat → Bool)
def aFlow (d : Dcl) (y : Fr) (t : Nat) (s : Ist) : Option Ist := match s.1 t with
  | none => some (upT s.1 t y, upB s.2 t true)
  | some x => if mrgOk d x y = true then some (upT s.1 t (jnF d x y), upB s.2 t (s.2 t || mrgCh d x y)) else none
theorem sv_join {d : Dcl} (hd : DI d) {v w : Int32} (hv : svA d v) (hw : svA d w) : svA d (joinA d v w) := by
  unfold joinA
  split
  · exact hv
  split
  · exact sv_top
  rename_i h1 h2
  split
  · exact hw
  split
  · exact hv
  rename_i h3 h4
  have hrv : rfV v = true := by
    cases c : rfV v with
    | true => rfl
    | false => exact absurd (Or.inl c) h2
  have hrw : rfV w = true := by
    cases c : rfV w with
    | true => rfl
    | false => exact absurd (Or.inr c) h2
  obtain ⟨n, rfl, hn, rn, n160⟩ := sv_rf hd hv hrv h3
  obtain ⟨r, rfl, hr, rr, r160⟩ := sv_rf hd hw hrw h4
  rw [z_nat (by omega), z_nat (by omega)]
  refine sv_n ?_
  have hnn := isT_iff.mp hn
  have hrr := isT_iff.mp hr
  have l1 := lev_le n
  have l2 := lev_le r
  have h3d := hd.1
  have hk1 : min (lev n) (lev r) ≤ lev n := Nat.min_le_left _ _
  unfold jnN
  dsimp only
  generalize min (lev n) (lev r) = k at hk1
  split
  · rename_i hc
    refine isT_iff.mpr ?_
    have hcc : cc d ((n - k) / 8) ((r - k) / 8) < d.1 := by
      unfold cc
      split
      · rename_i hcl
        rw [Bool.and_eq_true] at hcl
        have c1 := cls_lt hcl.1
        have key : ∀ (f a b : Nat), 2 ≤ a → a < d.1 → ccF d f a b < d.1 := by
          intro f
          induction f with
          | zero => intro a b _ _; show 2 < d.1; omega
          | succ f ih =>
            intro a b h2 ha
            show (if anc d a b = true then a else if a ≤ 2 then 2 else ccF d f (d.2.1 a) b) < d.1
            split
            · exact ha
            · split
              · omega
              · rename_i _ q
                have := hd.2.2.1 a (by omega) ha
                exact ih _ _ this.1 (by omega)
        exact key 20 _ _ c1.1 c1.2
      · omega
    omega
  · exact isT_iff.mpr (by omega)
theorem wf_jn {d : Dcl} (hd : DI d) {x y : Fr} (hx : WFr d x) (hy : WFr d y) (h : x.2.2.1 = y.2.2.1) : WFr d (jnF d x y) := ⟨fun i hi => sv_join hd (hx.1 i hi) (hy.1 i hi), fun i hi => sv_join hd (hx.2.1 i hi) (hy.2.1 i (by rw [← h]; exact hi)), hx.2.2⟩
section CF
variable {E : Ev} {S : St} {fu J : Nat} {A : Enw}
def VPd (E : Ev) (S : St) (J : Nat) (pd : Nat → Bool) : Prop := ∀ i, i < 100 → S.2.1 (E.2 J 10) i = b2 (pd i)
def mix (q : Nat) (l s : Nat → Int32) : Nat → Int32 := fun z => if z < q then l z else s z
theorem mix_0 {l s : Nat → Int32} {z : Nat} : mix 0 l s z = s z := if_neg (Nat.not_lt_zero z)
theorem mix_ge {q z : Nat} {l s : Nat → Int32} (h : q ≤ z) : mix q l s z = s z := if_neg (by omega)
theorem mix_lt {q z : Nat} {l s : Nat → Int32} (h : z < q) : mix q l s z = l z := if_pos h
theorem mix_up {q z : Nat} {l s : Nat → Int32} {v : Int32} (h : v = l q) : up1 (mix q l s) q v z = mix (q + 1) l s z := by
  by_cases e : z = q
  · rw [e, up1_s, mix_lt (by omega), h]
  · rw [up1_n _ _ e]
    by_cases e2 : z < q
    · rw [mix_lt e2, mix_lt (by omega)]
    · rw [mix_ge (by omega), mix_ge (by omega)]
theorem vf_stk {f : Nat} {x : Fr} {i : Nat} {z : Int32} (n01 : E.2 f 0 ≠ E.2 f 1) (v : VF E S f x) : VF E (sG S (E.2 f 1) i z) f (x.1, up1 x.2.1 i z, x.2.2) := by
  refine ⟨fun j hj => (up2_n _ _ (fun e => n01 e.1)).trans (v.1 j hj), fun j hj => ?_, v.2.2.1, v.2.2.2⟩
  show up2 S.2.1 (E.2 f 1) i z (E.2 f 1) j = up1 x.2.1 i z j
  by_cases e : j = i
  · rw [e, up2_s, up1_s]
  · rw [up2_n _ _ (fun w => e w.2), up1_n _ _ e]; exact v.2.1 j hj
theorem c_floL {a k4 t : Nat} {x y : Fr} {s : Nat → Int32} {h : Nat} {mk : Bool} {pd : Nat → Bool} (hE : WE E) (hI : Inj E) (hJ : E.1 J = some (0, 4, 0)) (hd : DI A.1) (hfu : 200 ≤ fu) (hk : E.1 k4 = some (0, 2, 0)) (ha : E.1 a = some (0, 2, 0)) (hak : a ≠ k4) (ht : t < 100) (wx : ∀ i, i < 12 → svA A.1 (x.1 i)) (wy : ∀ i, i < 12 → svA A.1 (y.1 i)) : ∀ (j i F : Nat) (S : St) (ch : Bool), i + j = 12 → j + 1 ≤ F → VT E S (E.2 J 1) A.1 → VF E S a y → VF E S k4 (mix i (fun z => joinA A.1 (x.1 z) (y.1 z)) x.1, s, h, mk) → S.2.1 (E.2 J 10) t = b2 (pd t) → ∃ S', lp_X5_flow_211 fu E J a k4 F (n32 t) (b2 ch) (n32 i) S = some (0, S') ∧ VF E S' k4 (fun z => joinA A.1 (x.1 z) (y.1 z), s, h, mk) ∧ S'.2.1 (E.2 J 10) t = b2 (pd t || (ch || chJ A.1 x.1 y.1 i j)) ∧ (∀ z, z ≠ t → S'.2.1 (E.2 J 10) z = S.2.1 (E.2 J 10) z) ∧ Ag (fun q => PF E k4 q ∨ q = E.2 J 10) S S' := by
  have hT : E.1 (E.2 J 1) = some (0, 8, 0) := hE.2.1 J 4 1 _ hJ rfl
  have hP : E.1 (E.2 J 10) = some (1, 1, 100) := hE.2.1 J 4 10 _ hJ rfl
  have hint : inb (n32 t) 100 = true := by rw [z_inb (by omega)]; exact ht
  have n01 : E.2 k4 0 ≠ E.2 k4 1 := pf_ar hE hI hk hk (by decide) (by decide) (fun e => by simp at e)
  have np : ¬ PF E k4 (E.2 J 10) := fun z => by
    rcases z with z | z | z
    · exact ne_ty hP hk (by decide) z
    · exact ne_ty hP (pf_t0 hE hk) (by decide) z
    · exact ne_ty hP (pf_t1 hE hk) (by decide) z
  intro j
  induction j with
  | zero =>
    intro i F S ch hi hF vT va vk hp
    obtain ⟨F, rfl⟩ : ∃ z, F = z + 1 := ⟨F - 1, by omega⟩
    show ∃ S', bd_X5_flow_211 fu E J a k4 _ (n32 t) (b2 ch) (n32 i) S = some (0, S') ∧ VF E S' k4 _ ∧ S'.2.1 (E.2 J 10) t = b2 (pd t || (ch || false)) ∧ _
    unfold bd_X5_flow_211 bnd
    dsimp only
    rw [show (12 : Int32) = n32 12 from rfl, zi_le (by decide) (by omega), if_pos (by omega), if_pos hint, z_nat (by omega), hp, b2_if, b2_if, if_pos hint, Bool.or_false]
    have key : ∀ w : Bool, ∃ S', some ((0 : Int32), sG S (E.2 J 10) t (b2 w)) = some (0, S') ∧ VF E S' k4 (fun z => joinA A.1 (x.1 z) (y.1 z), s, h, mk) ∧ S'.2.1 (E.2 J 10) t = b2 w ∧ (∀ z, z ≠ t → S'.2.1 (E.2 J 10) z = S.2.1 (E.2 J 10) z) ∧ Ag (fun q => PF E k4 q ∨ q = E.2 J 10) S S' := by
      intro w
      refine ⟨_, rfl, ?_, up2_s _ _, fun z hz => up2_n _ _ (fun e => hz e.2), Ag_mono sG_ag (fun q z => Or.inr z)⟩
      refine vf_ag (vf_eq vk (fun z hz => show mix i (fun z => joinA A.1 (x.1 z) (y.1 z)) x.1 z = joinA A.1 (x.1 z) (y.1 z) from mix_lt (l := fun z => joinA A.1 (x.1 z) (y.1 z)) (by omega)) (fun _ _ => rfl) rfl) (sG_ag (S := S) (a := E.2 J 10) (j := t) (x := b2 w)) (fun q hq z => ?_)
      rw [z] at hq
      exact np hq
    cases pd t with
    | true =>
      rw [if_pos rfl, Bool.true_or]
      exact key true
    | false =>
      rw [if_neg (by decide), Bool.false_or]
      cases ch with
      | true => rw [if_pos rfl]; exact key true
      | false => rw [if_neg (by decide), if_pos hint]; exact key false
  | succ j ih =>
    intro i F S ch hi hF vT va vk hp
    obtain ⟨F, rfl⟩ : ∃ z, F = z + 1 := ⟨F - 1, by omega⟩
    have hini : inb (n32 i) 12 = true := by rw [z_inb (by omega)]; omega
    show ∃ S', bd_X5_flow_211 fu E J a k4 (lp_X5_flow_211 fu E J a k4 F) (n32 t) (b2 ch) (n32 i) S = some (0, S') ∧ VF E S' k4 _ ∧ S'.2.1 (E.2 J 10) t = b2 (pd t || (ch || ((joinA A.1 (x.1 i) (y.1 i) != x.1 i) || chJ A.1 x.1 y.1 (i + 1) j))) ∧ _
    unfold bd_X5_flow_211 jb_X5_flow_265 bnd
    have e1 : S.2.1 (E.2 k4 0) i = x.1 i := (vk.1 i (by omega)).trans (show mix i (fun z => joinA A.1 (x.1 z) (y.1 z)) x.1 i = x.1 i from mix_ge (Nat.le_refl i))
    rw [show (12 : Int32) = n32 12 from rfl, zi_le (by decide) (by omega), if_neg (by omega), if_pos hini, if_pos hini, z_nat (by omega), e1, va.1 i (by omega), t_join hd vT (by omega) (wx i (by omega)) (wy i (by omega)), Option.bind_some]
    dsimp only
    simp only [hini, eq_self, if_true]
    rw [e1, b2_if, show n32 i + 1 = n32 (i + 1) from z_add i 1]
    have step : ∀ w : Bool, ∃ S', lp_X5_flow_211 fu E J a k4 F (n32 t) (b2 w) (n32 (i + 1)) (sG S (E.2 k4 0) i (joinA A.1 (x.1 i) (y.1 i))) = some (0, S') ∧ VF E S' k4 (fun z => joinA A.1 (x.1 z) (y.1 z), s, h, mk) ∧ S'.2.1 (E.2 J 10) t = b2 (pd t || (w || chJ A.1 x.1 y.1 (i + 1) j)) ∧ (∀ z, z ≠ t → S'.2.1 (E.2 J 10) z = S.2.1 (E.2 J 10) z) ∧ Ag (fun q => PF E k4 q ∨ q = E.2 J 10) S S' := by
      intro w
      have ag : Ag (PF E k4) S (sG S (E.2 k4 0) i (joinA A.1 (x.1 i) (y.1 i))) := Ag_mono sG_ag (fun q z => Or.inr (Or.inl z))
      have v1 := vf_eq (z := (mix (i + 1) (fun z => joinA A.1 (x.1 z) (y.1 z)) x.1, s, h, mk)) (vf_loc (i := i) (z := joinA A.1 (x.1 i) (y.1 i)) n01 vk) (fun z hz => show up1 (mix i (fun z => joinA A.1 (x.1 z) (y.1 z)) x.1) i (joinA A.1 (x.1 i) (y.1 i)) z = mix (i + 1) (fun z => joinA A.1 (x.1 z) (y.1 z)) x.1 z from mix_up (l := fun z => joinA A.1 (x.1 z) (y.1 z)) rfl) (fun _ _ => rfl) rfl
      obtain ⟨S', r1, r2, r3, r4, r5⟩ := ih (i + 1) F _ w (by omega) (by omega) (vt_ag vT ag (nop_PF hE hI hk hT (by decide))) (vf_ag va ag (pf_dis hE hI ha hk hak)) v1 ((congrFun (ag _ np).2.1 t).trans hp)
      exact ⟨S', r1, r2, r3, fun z hz => (r4 z hz).trans (congrFun (ag _ np).2.1 z), Ag_trans (Ag_mono ag (fun q z => Or.inl z)) r5⟩
    cases ch with
    | true => rw [if_pos rfl, Bool.true_or]; exact step true
    | false =>
      rw [if_neg (by decide), Bool.false_or]
      by_cases c : joinA A.1 (x.1 i) (y.1 i) = x.1 i
      · rw [if_pos c, show (joinA A.1 (x.1 i) (y.1 i) != x.1 i) = false from by rw [c]; exact bne_self_eq_false _]
        exact step false
      · rw [if_neg c, show (joinA A.1 (x.1 i) (y.1 i) != x.1 i) = true from by simpa using c]
        exact step true
theorem c_floS {a k4 t : Nat} {x y : Fr} {l : Nat → Int32} {mk : Bool} (hE : WE E) (hI : Inj E) (hJ : E.1 J = some (0, 4, 0)) (hd : DI A.1) (hfu : 200 ≤ fu) (hk : E.1 k4 = some (0, 2, 0)) (ha : E.1 a = some (0, 2, 0)) (hak : a ≠ k4) (h12 : x.2.2.1 ≤ 12) (hh : x.2.2.1 = y.2.2.1) (wx : ∀ i, i < x.2.2.1 → svA A.1 (x.2.1 i)) (wy : ∀ i, i < y.2.2.1 → svA A.1 (y.2.1 i)) : ∀ (j i F : Nat) (S : St) (ch : Bool), i + j = x.2.2.1 → j + 1 ≤ F → VT E S (E.2 J 1) A.1 → VF E S a y → VF E S k4 (l, mix i (fun z => joinA A.1 (x.2.1 z) (y.2.1 z)) x.2.1, x.2.2.1, mk) → ∃ S', lp_X5_flow_105 fu E J a k4 F (n32 t) (b2 ch) (n32 i) S = (if okJ A.1 x.2.1 y.2.1 i j = true then lp_X5_flow_211 fu E J a k4 fu (n32 t) (b2 (ch || chJ A.1 x.2.1 y.2.1 i j)) 0 S' else some (8, S')) ∧ Ag (PF E k4) S S' ∧ (okJ A.1 x.2.1 y.2.1 i j = true → VF E S' k4 (l, fun z => joinA A.1 (x.2.1 z) (y.2.1 z), x.2.2.1, mk)) := by
  have hT : E.1 (E.2 J 1) = some (0, 8, 0) := hE.2.1 J 4 1 _ hJ rfl
  have n01 : E.2 k4 0 ≠ E.2 k4 1 := pf_ar hE hI hk hk (by decide) (by decide) (fun e => by simp at e)
  intro j
  induction j with
  | zero =>
    intro i F S ch hi hF vT va vk
    obtain ⟨F, rfl⟩ : ∃ z, F = z + 1 := ⟨F - 1, by omega⟩
    refine ⟨S, ?_, Ag_refl, fun _ => vf_eq vk (fun _ _ => rfl) (fun z hz => show mix i (fun z => joinA A.1 (x.2.1 z) (y.2.1 z)) x.2.1 z = joinA A.1 (x.2.1 z) (y.2.1 z) from mix_lt (l := fun z => joinA A.1 (x.2.1 z) (y.2.1 z)) (by have : z < x.2.2.1 := hz; omega)) rfl⟩
    show bd_X5_flow_105 fu E J a k4 _ (n32 t) (b2 ch) (n32 i) S = (if true = true then lp_X5_flow_211 fu E J a k4 fu (n32 t) (b2 (ch || false)) 0 S else some (8, S))
    unfold bd_X5_flow_105
    rw [vk.2.2.1, zi_le (show x.2.2.1 < 2 ^ 31 by omega) (show i < 2 ^ 31 by omega), if_pos (show x.2.2.1 ≤ i by omega), if_pos rfl, Bool.or_false]
  | succ j ih =>
    intro i F S ch hi hF vT va vk
    obtain ⟨F, rfl⟩ : ∃ z, F = z + 1 := ⟨F - 1, by omega⟩
    have hini : inb (n32 i) 12 = true := by rw [z_inb (by omega)]; omega
    have e1 : S.2.1 (E.2 k4 1) i = x.2.1 i := (vk.2.1 i (by show i < x.2.2.1; omega)).trans (show mix i (fun z => joinA A.1 (x.2.1 z) (y.2.1 z)) x.2.1 i = x.2.1 i from mix_ge (Nat.le_refl i))
    have e2 : S.2.1 (E.2 a 1) i = y.2.1 i := va.2.1 i (by omega)
    show ∃ S', bd_X5_flow_105 fu E J a k4 (lp_X5_flow_105 fu E J a k4 F) (n32 t) (b2 ch) (n32 i) S = (if ((joinA A.1 (x.2.1 i) (y.2.1 i) != -2 || x.2.1 i == y.2.1 i) && okJ A.1 x.2.1 y.2.1 (i + 1) j) = true then lp_X5_flow_211 fu E J a k4 fu (n32 t) (b2 (ch || ((joinA A.1 (x.2.1 i) (y.2.1 i) != x.2.1 i) || chJ A.1 x.2.1 y.2.1 (i + 1) j))) 0 S' else some (8, S')) ∧ Ag (PF E k4) S S' ∧ (((joinA A.1 (x.2.1 i) (y.2.1 i) != -2 || x.2.1 i == y.2.1 i) && okJ A.1 x.2.1 y.2.1 (i + 1) j) = true → _)
    unfold bd_X5_flow_105 jb_X5_flow_167 jb_X5_flow_190 bnd
    rw [vk.2.2.1, zi_le (show x.2.2.1 < 2 ^ 31 by omega) (show i < 2 ^ 31 by omega), if_neg (show ¬ x.2.2.1 ≤ i by omega), if_pos hini, if_pos hini, z_nat (by omega), e1, e2, t_join hd vT (by omega) (wx i (by omega)) (wy i (by omega)), Option.bind_some]
    dsimp only
    simp only [hini, eq_self, if_true]
    rw [e1, e2, b2_if, show n32 i + 1 = n32 (i + 1) from z_add i 1]
    have step : ∀ w : Bool, ∃ S', lp_X5_flow_105 fu E J a k4 F (n32 t) (b2 w) (n32 (i + 1)) (sG S (E.2 k4 1) i (joinA A.1 (x.2.1 i) (y.2.1 i))) = (if okJ A.1 x.2.1 y.2.1 (i + 1) j = true then lp_X5_flow_211 fu E J a k4 fu (n32 t) (b2 (w || chJ A.1 x.2.1 y.2.1 (i + 1) j)) 0 S' else some (8, S')) ∧ Ag (PF E k4) S S' ∧ (okJ A.1 x.2.1 y.2.1 (i + 1) j = true → VF E S' k4 (l, fun z => joinA A.1 (x.2.1 z) (y.2.1 z), x.2.2.1, mk)) := by
      intro w
      have ag : Ag (PF E k4) S (sG S (E.2 k4 1) i (joinA A.1 (x.2.1 i) (y.2.1 i))) := Ag_mono sG_ag (fun q z => Or.inr (Or.inr z))
      have v1 := vf_eq (z := (l, mix (i + 1) (fun z => joinA A.1 (x.2.1 z) (y.2.1 z)) x.2.1, x.2.2.1, mk)) (vf_stk (i := i) (z := joinA A.1 (x.2.1 i) (y.2.1 i)) n01 vk) (fun _ _ => rfl) (fun z hz => show up1 (mix i (fun z => joinA A.1 (x.2.1 z) (y.2.1 z)) x.2.1) i (joinA A.1 (x.2.1 i) (y.2.1 i)) z = mix (i + 1) (fun z => joinA A.1 (x.2.1 z) (y.2.1 z)) x.2.1 z from mix_up (l := fun z => joinA A.1 (x.2.1 z) (y.2.1 z)) rfl) rfl
      obtain ⟨S', r1, r2, r3⟩ := ih (i + 1) F _ w (by omega) (by omega) (vt_ag vT ag (nop_PF hE hI hk hT (by decide))) (vf_ag va ag (pf_dis hE hI ha hk hak)) v1
      exact ⟨S', r1, Ag_trans ag r2, r3⟩
    have go : (joinA A.1 (x.2.1 i) (y.2.1 i) != -2 || x.2.1 i == y.2.1 i) = true → ∃ S', (if ch = true then lp_X5_flow_105 fu E J a k4 F (n32 t) 1 (n32 (i + 1)) (sG S (E.2 k4 1) i (joinA A.1 (x.2.1 i) (y.2.1 i))) else if joinA A.1 (x.2.1 i) (y.2.1 i) = x.2.1 i then lp_X5_flow_105 fu E J a k4 F (n32 t) 0 (n32 (i + 1)) (sG S (E.2 k4 1) i (joinA A.1 (x.2.1 i) (y.2.1 i))) else lp_X5_flow_105 fu E J a k4 F (n32 t) 1 (n32 (i + 1)) (sG S (E.2 k4 1) i (joinA A.1 (x.2.1 i) (y.2.1 i)))) = (if ((joinA A.1 (x.2.1 i) (y.2.1 i) != -2 || x.2.1 i == y.2.1 i) && okJ A.1 x.2.1 y.2.1 (i + 1) j) = true then lp_X5_flow_211 fu E J a k4 fu (n32 t) (b2 (ch || ((joinA A.1 (x.2.1 i) (y.2.1 i) != x.2.1 i) || chJ A.1 x.2.1 y.2.1 (i + 1) j))) 0 S' else some (8, S')) ∧ Ag (PF E k4) S S' ∧ (((joinA A.1 (x.2.1 i) (y.2.1 i) != -2 || x.2.1 i == y.2.1 i) && okJ A.1 x.2.1 y.2.1 (i + 1) j) = true → VF E S' k4 (l, fun z => joinA A.1 (x.2.1 z) (y.2.1 z), x.2.2.1, mk)) := by
      intro hg
      rw [hg, Bool.true_and]
      cases ch with
      | true => rw [if_pos rfl, Bool.true_or]; exact step true
      | false =>
        rw [if_neg (by decide), Bool.false_or]
        by_cases c : joinA A.1 (x.2.1 i) (y.2.1 i) = x.2.1 i
        · rw [if_pos c, show (joinA A.1 (x.2.1 i) (y.2.1 i) != x.2.1 i) = false from by rw [c]; exact bne_self_eq_false _]
          exact step false
        · rw [if_neg c, show (joinA A.1 (x.2.1 i) (y.2.1 i) != x.2.1 i) = true from by simpa using c]
          exact step true
    by_cases c1 : joinA A.1 (x.2.1 i) (y.2.1 i) = -2
    · rw [if_pos c1]
      by_cases c2 : x.2.1 i = y.2.1 i
      · rw [if_pos c2]
        exact go (by rw [show (x.2.1 i == y.2.1 i) = true from by rw [beq_iff_eq]; exact c2, Bool.or_true])
      · rw [if_neg c2, show (joinA A.1 (x.2.1 i) (y.2.1 i) != -2) = false from by rw [c1]; rfl, show (x.2.1 i == y.2.1 i) = false from beq_eq_false_iff_ne.mpr c2, Bool.false_or, Bool.false_and]
        exact ⟨S, (if_neg (by decide)).symm, Ag_refl, fun z => by cases z⟩
    · rw [if_neg c1]
      exact go (by rw [show (joinA A.1 (x.2.1 i) (y.2.1 i) != -2) = true from by simpa using c1, Bool.true_or])
end CF
