/-! the reference: a frame flows to an index (inference) -/
theorem join_top {d : Dcl} (hd : DI d) {v w : Int32} (hv : svA d v) (hw : svA d w) : (joinA d v w == -2) = (joinA d w v == -2) := by
  have key : ∀ {v w : Int32}, svA d v → svA d w → v ≠ w → (joinA d v w == -2) = (!(rfV v && rfV w)) := by
    intro v w hv hw hne
    unfold joinA
    rw [if_neg hne]
    by_cases c : rfV v = false ∨ rfV w = false
    · rw [if_pos c]
      rcases c with c | c <;> rw [c]
      · rfl
      · cases rfV v <;> rfl
    · rw [if_neg c]
      have h1 : rfV v = true := by
        cases q : rfV v with
        | true => rfl
        | false => exact absurd (Or.inl q) c
      have h2 : rfV w = true := by
        cases q : rfV w with
        | true => rfl
        | false => exact absurd (Or.inr q) c
      rw [h1, h2]
      have nr : ∀ z : Int32, rfV z = true → (z == -2) = false := fun z hz => beq_eq_false_iff_ne.mpr (fun e => by rw [e] at hz; cases hz)
      by_cases c3 : v = -1
      · rw [if_pos c3]; exact nr w h2
      · rw [if_neg c3]
        by_cases c4 : w = -1
        · rw [if_pos c4]; exact nr v h1
        · rw [if_neg c4]
          refine beq_eq_false_iff_ne.mpr ?_
          have hsv := sv_join hd hv hw
          unfold joinA at hsv
          rw [if_neg hne, if_neg c, if_neg c3, if_neg c4] at hsv
          have hlt : jnN d v.toNatClampNeg w.toNatClampNeg < 2 ^ 31 := by
            obtain ⟨n, rfl, hn, rn, n160⟩ := sv_rf hd hv h1 c3
            obtain ⟨r, rfl, hr, rr, r160⟩ := sv_rf hd hw h2 c4
            rw [z_nat (by omega), z_nat (by omega)]
            have l1 := lev_le n
            have hcc : ∀ a b, cc d a b ≤ 20 := by
              intro a b
              have h20 := hd.2.1
              unfold cc
              split
              · rename_i hcl
                rw [Bool.and_eq_true] at hcl
                have c1 := cls_lt hcl.1
                have k2 : ∀ (f a b : Nat), 2 ≤ a → a < d.1 → ccF d f a b ≤ 20 := by
                  intro f
                  induction f with
                  | zero => intro a b _ _; show 2 ≤ 20; omega
                  | succ f ih =>
                    intro a b h2 ha
                    show (if anc d a b = true then a else if a ≤ 2 then 2 else ccF d f (d.2.1 a) b) ≤ 20
                    split
                    · omega
                    · split
                      · omega
                      · rename_i _ q
                        have := hd.2.2.1 a (by omega) ha
                        exact ih _ _ this.1 (by omega)
                exact k2 20 _ _ c1.1 c1.2
              · omega
            unfold jnN
            dsimp only
            have hk1 : min (lev n) (lev r) ≤ lev n := Nat.min_le_left _ _
            generalize min (lev n) (lev r) = k at hk1
            have := hcc ((n - k) / 8) ((r - k) / 8)
            split <;> omega
          rw [ne_eq, z_ne2 hlt]; exact id
  by_cases e : v = w
  · rw [e]
  · rw [key hv hw e, key hw hv (Ne.symm e), Bool.and_comm]
def neqF (f g : Nat → Int32) : Nat → Nat → Bool
  | _, 0 => false
  | i, k + 1 => (f i != g i) || neqF f g (i + 1) k
theorem chJ_n {d : Dcl} {x y : Nat → Int32} : ∀ (k i : Nat), chJ d x y i k = neqF (fun z => joinA d (x z) (y z)) x i k
  | 0, _ => rfl
  | k + 1, i => by
    show (_ || chJ d x y (i + 1) k) = (_ || neqF _ x (i + 1) k)
    rw [chJ_n k (i + 1)]
theorem neqF_congr {f g f' g' : Nat → Int32} : ∀ (k i : Nat), (∀ z, i ≤ z → z < i + k → (f z != g z) = (f' z != g' z)) → neqF f g i k = neqF f' g' i k
  | 0, _, _ => rfl
  | k + 1, i, h => by
    show (_ || neqF f g (i + 1) k) = (_ || neqF f' g' (i + 1) k)
    rw [neqF_congr k (i + 1) (fun z h1 h2 => h z (by omega) (by omega)), h i (Nat.le_refl _) (by omega)]
theorem neqF_add {f g : Nat → Int32} : ∀ (a b i : Nat), neqF f g i (a + b) = (neqF f g i a || neqF f g (i + a) b)
  | 0, b, i => by rw [Nat.zero_add, Nat.add_zero]; rfl
  | a + 1, b, i => by
    rw [show a + 1 + b = (a + b) + 1 by omega]
    show (_ || neqF f g (i + 1) (a + b)) = ((_ || neqF f g (i + 1) a) || neqF f g (i + (a + 1)) b)
    rw [neqF_add a b (i + 1), Bool.or_assoc, show i + 1 + a = i + (a + 1) by omega]
theorem neqF_sh {f g : Nat → Int32} {c : Nat} : ∀ (k i : Nat), neqF f g (c + i) k = neqF (fun z => f (c + z)) (fun z => g (c + z)) i k
  | 0, _ => rfl
  | k + 1, i => by
    show (_ || neqF f g (c + i + 1) k) = (_ || neqF _ _ (i + 1) k)
    rw [show c + i + 1 = c + (i + 1) by omega, neqF_sh k (i + 1)]
/-- a frame at a place of a long array -/
def VA (S : St) (r off : Nat) (x : Fr) : Prop := (∀ i, i < 12 → S.2.1 r (off + i) = x.1 i) ∧ (∀ i, i < x.2.2.1 → S.2.1 r (off + (12 + i)) = x.2.1 i) ∧ S.2.1 r (off + 24) = n32 x.2.2.1 ∧ S.2.1 r (off + 25) = b2 x.2.2.2
def VNj (E : Ev) (S : St) (m aj : Nat) (x : Fr) : Prop := (∀ i, i < 12 → S.2.1 (E.2 m aj) i = x.1 i) ∧ (∀ i, i < x.2.2.1 → S.2.1 (E.2 m aj) (12 + i) = x.2.1 i) ∧ S.2.1 (E.2 m aj) 24 = n32 x.2.2.1 ∧ S.2.1 (E.2 m aj) 25 = b2 x.2.2.2
def VRI (E : Ev) (S : St) (m : Nat) (tb : Nat → Option Fr) : Prop := (∀ i, i < 100 → S.2.1 (E.2 m 28) i = b2 (tb i).isSome) ∧ ∀ i x, i < 100 → tb i = some x → VA S (E.2 m 29) (26 * i) x
def VRP (E : Ev) (S : St) (m : Nat) (pd : Nat → Bool) : Prop := ∀ i, i < 100 → S.2.1 (E.2 m 42) i = b2 (pd i)
def TWX (A : Enw) (tb : Nat → Option Fr) : Prop := ∀ i x, i < 100 → tb i = some x → WX A x
def OutT (E : Ev) (m t : Nat) (S S' : St) : Prop := (∀ z, (z < 26 * t ∨ 26 * t + 26 ≤ z) → S'.2.1 (E.2 m 29) z = S.2.1 (E.2 m 29) z) ∧ (∀ z, z ≠ t → S'.2.1 (E.2 m 28) z = S.2.1 (E.2 m 28) z) ∧ ∀ z, z ≠ t → S'.2.1 (E.2 m 42) z = S.2.1 (E.2 m 42) z
theorem outT_refl {E : Ev} {m t : Nat} {S : St} : OutT E m t S S := ⟨fun _ _ => rfl, fun _ _ => rfl, fun _ _ => rfl⟩
theorem outT_trans {E : Ev} {m t : Nat} {S S1 S2 : St} (h : OutT E m t S S1) (g : OutT E m t S1 S2) : OutT E m t S S2 := ⟨fun z hz => (g.1 z hz).trans (h.1 z hz), fun z hz => (g.2.1 z hz).trans (h.2.1 z hz), fun z hz => (g.2.2 z hz).trans (h.2.2 z hz)⟩
theorem va_out {E : Ev} {m t i : Nat} {S S' : St} {x : Fr} (v : VA S (E.2 m 29) (26 * i) x) (h12 : x.2.2.1 ≤ 12) (o : OutT E m t S S') (hi : i ≠ t) : VA S' (E.2 m 29) (26 * i) x := ⟨fun q hq => (o.1 _ (by omega)).trans (v.1 q hq), fun q hq => (o.1 _ (by omega)).trans (v.2.1 q hq), (o.1 _ (by omega)).trans v.2.2.1, (o.1 _ (by omega)).trans v.2.2.2⟩
section RG
variable {E : Ev} {S : St} {m fu : Nat} {A : Enw} {tb : Nat → Option Fr} {pd : Nat → Bool}
theorem vri_up {S' : St} {t : Nat} {z : Fr} (v : VRI E S m tb) (wt : TWX A tb) (o : OutT E m t S S') (h1 : S'.2.1 (E.2 m 28) t = 1) (h2 : VA S' (E.2 m 29) (26 * t) z) : VRI E S' m (upT tb t z) := by
  refine ⟨fun i hi => ?_, fun i x hi hx => ?_⟩
  · by_cases e : i = t
    · rw [e, h1]; unfold upT; rw [if_pos rfl]; rfl
    · rw [o.2.1 i e, v.1 i hi]; unfold upT; rw [if_neg e]
  · by_cases e : i = t
    · subst e
      have : upT tb i z i = some z := if_pos rfl
      rw [this] at hx
      cases hx
      exact h2
    · have : upT tb t z i = tb i := if_neg e
      rw [this] at hx
      exact va_out (v.2 i x hi hx) (wt i x hi hx).1.2.2 o e
theorem vrp_up {S' : St} {t : Nat} {b : Bool} (v : VRP E S m pd) (o : OutT E m t S S') (h1 : S'.2.1 (E.2 m 42) t = b2 b) : VRP E S' m (upB pd t b) := by
  intro i hi
  show _ = b2 (if i = t then b else pd i)
  by_cases e : i = t
  · rw [if_pos e, e, h1]
  · rw [if_neg e, o.2.2 i e]; exact v i hi
/-- a frame is copied whole to a place without one -/
theorem r_cpyL (L : LR E m) {aj t : Nat} (ht : t < 100) (haj : aj = 39 ∨ aj = 40) : ∀ (j q F : Nat) (S : St), q + j = 26 → j + 1 ≤ F → (∀ z, z < q → S.2.1 (E.2 m 29) (26 * t + z) = S.2.1 (E.2 m aj) z) → ∃ S', lp_X12_merge_17 fu E m (E.2 m aj) F (n32 t) (n32 (26 * t)) (n32 q) S = some S' ∧ (∀ z, z < 26 → S'.2.1 (E.2 m 29) (26 * t + z) = S.2.1 (E.2 m aj) z) ∧ S'.2.1 (E.2 m 28) t = 1 ∧ S'.2.1 (E.2 m 42) t = 1 ∧ OutT E m t S S' ∧ AgL E m [] [28, 29, 42] S S' := by
  have n1 : E.2 m 29 ≠ E.2 m 28 := lr_ne L rfl rfl (by decide)
  have n2 : E.2 m 29 ≠ E.2 m 42 := lr_ne L rfl rfl (by decide)
  have n3 : E.2 m 28 ≠ E.2 m 42 := lr_ne L rfl rfl (by decide)
  have n4 : E.2 m aj ≠ E.2 m 29 := by rcases haj with rfl | rfl <;> exact lr_ne L rfl rfl (by decide)
  have hint : inb (n32 t) 100 = true := by rw [z_inb (by omega)]; exact ht
  intro j
  induction j with
  | zero =>
    intro q F S hq hF h
    obtain ⟨F, rfl⟩ : ∃ z, F = z + 1 := ⟨F - 1, by omega⟩
    show ∃ S', bd_X12_merge_17 fu E m (E.2 m aj) _ (n32 t) (n32 (26 * t)) (n32 q) S = some S' ∧ _
    unfold bd_X12_merge_17 bnd
    dsimp only
    rw [show (26 : Int32) = n32 26 from rfl, zi_le (by decide) (by omega), if_pos (by omega), if_pos hint, if_pos hint, z_nat (by omega)]
    refine ⟨_, rfl, fun z hz => ?_, ?_, up2_s _ _, ⟨fun z hz => ?_, fun z hz => ?_, fun z hz => ?_⟩, agl_trans (agl_sG (by decide)) (agl_sG (by decide))⟩
    · exact (up2_n _ _ (fun e => n2 e.1)).trans ((up2_n _ _ (fun e => n1 e.1)).trans (h z (by omega)))
    · exact (up2_n _ _ (fun e => n3 e.1)).trans (up2_s _ _)
    · exact (up2_n _ _ (fun e => n2 e.1)).trans (up2_n _ _ (fun e => n1 e.1))
    · exact (up2_n _ _ (fun e => n3 e.1)).trans (up2_n _ _ (fun e => hz e.2))
    · exact (up2_n _ _ (fun e => hz e.2)).trans (up2_n _ _ (fun e => n3 e.1.symm))
  | succ j ih =>
    intro q F S hq hF h
    obtain ⟨F, rfl⟩ : ∃ z, F = z + 1 := ⟨F - 1, by omega⟩
    show ∃ S', bd_X12_merge_17 fu E m (E.2 m aj) (lp_X12_merge_17 fu E m (E.2 m aj) F) (n32 t) (n32 (26 * t)) (n32 q) S = some S' ∧ _
    unfold bd_X12_merge_17 bnd
    dsimp only
    rw [show (26 : Int32) = n32 26 from rfl, zi_le (by decide) (by omega), if_neg (by omega), if_pos (by rw [z_inb (by omega)]; omega), z_add, if_pos (by rw [z_inb (by omega)]; omega), z_nat (by omega), z_nat (by omega), show n32 q + 1 = n32 (q + 1) from z_add q 1]
    have ea : ∀ z, (sG S (E.2 m 29) (26 * t + q) (S.2.1 (E.2 m aj) q)).2.1 (E.2 m aj) z = S.2.1 (E.2 m aj) z := fun z => up2_n _ _ (fun e => n4 e.1)
    obtain ⟨S', e, r1, r2, r3, r4, r5⟩ := ih (q + 1) F (sG S (E.2 m 29) (26 * t + q) (S.2.1 (E.2 m aj) q)) (by omega) (by omega) (fun z hz => by
      rw [ea]
      show up2 S.2.1 (E.2 m 29) (26 * t + q) _ (E.2 m 29) (26 * t + z) = _
      by_cases e : z = q
      · rw [e, up2_s]
      · rw [up2_n _ _ (fun w => e (by have := w.2; omega))]; exact h z (by omega))
    refine ⟨S', e, fun z hz => (r1 z hz).trans (ea z), r2, r3, ⟨fun z hz => (r4.1 z hz).trans (up2_n _ _ (fun w => by have := w.2; omega)), fun z hz => (r4.2.1 z hz).trans (up2_n _ _ (fun w => n1 w.1.symm)), fun z hz => (r4.2.2 z hz).trans (up2_n _ _ (fun w => n2 w.1.symm))⟩, agl_trans (agl_sG (by decide)) r5⟩
/-- can two stacks be joined? -/
theorem r_fitL (L : LR E m) (hA : EI A) (hfu : 200 ≤ fu) {aj t : Nat} {x y : Fr} (ht : t < 100) (v : VRe E S m A) (vx : VA S (E.2 m 29) (26 * t) x) (vy : VNj E S m aj y) (wx : WFr A.1 x) (wy : WFr A.1 y) : ∀ (j i F : Nat) (c : Bool), (c = true → x.2.2.1 = y.2.2.1) → i + j = y.2.2.1 → j + 1 ≤ F → lp_X12_merge_85 fu E m (E.2 m aj) F (n32 t) (n32 (26 * t)) (b2 c) (n32 (12 + i)) S = jb_X12_merge_153 fu E m (E.2 m aj) (n32 t) (n32 (26 * t)) (b2 (c && okJ A.1 x.2.1 y.2.1 i j)) S := by
  have hd := hA.1
  have hy12 := wy.2.2
  intro j
  induction j with
  | zero =>
    intro i F c hc hi hF
    obtain ⟨F, rfl⟩ : ∃ z, F = z + 1 := ⟨F - 1, by omega⟩
    show bd_X12_merge_85 fu E m (E.2 m aj) _ (n32 t) (n32 (26 * t)) (b2 c) (n32 (12 + i)) S = jb_X12_merge_153 fu E m (E.2 m aj) (n32 t) (n32 (26 * t)) (b2 (c && true)) S
    unfold bd_X12_merge_85
    rw [c24, vy.2.2.1, show (12 : Int32) + n32 y.2.2.1 = n32 (12 + y.2.2.1) from z_add 12 _, zi_le (by omega) (by omega), if_pos (by omega), Bool.and_true]
  | succ j ih =>
    intro i F c hc hi hF
    obtain ⟨F, rfl⟩ : ∃ z, F = z + 1 := ⟨F - 1, by omega⟩
    show bd_X12_merge_85 fu E m (E.2 m aj) (lp_X12_merge_85 fu E m (E.2 m aj) F) (n32 t) (n32 (26 * t)) (b2 c) (n32 (12 + i)) S = jb_X12_merge_153 fu E m (E.2 m aj) (n32 t) (n32 (26 * t)) (b2 (c && ((joinA A.1 (x.2.1 i) (y.2.1 i) != -2 || x.2.1 i == y.2.1 i) && okJ A.1 x.2.1 y.2.1 (i + 1) j))) S
    unfold bd_X12_merge_85
    rw [c24, vy.2.2.1, show (12 : Int32) + n32 y.2.2.1 = n32 (12 + y.2.2.1) from z_add 12 _, zi_le (by omega) (by omega), if_neg (by omega), b2_if]
    cases c with
    | false => rw [if_neg (by decide), Bool.false_and]
    | true =>
      have hxy := hc rfl
      have sx := wx.2.1 i (by omega)
      have sy := wy.2.1 i (by omega)
      have hin1 : inb (n32 (12 + i)) 26 = true := by rw [z_inb (by omega)]; omega
      have hin2 : inb (n32 (26 * t + (12 + i))) 2600 = true := by rw [z_inb (by omega)]; omega
      rw [if_pos rfl, Bool.true_and, z_add, z_nat (show 12 + i < 2 ^ 31 by omega), z_nat (show 26 * t + (12 + i) < 2 ^ 31 by omega), vy.2.1 i (by omega), vx.2.1 i (by omega), r_join hd v.1 (by omega) sy sx, Option.bind_some]
      simp only [hin1, hin2, eq_self, if_true]
      rw [show n32 (12 + i) + 1 = n32 (12 + (i + 1)) from z_add (12 + i) 1]
      have st : ∀ w : Bool, lp_X12_merge_85 fu E m (E.2 m aj) F (n32 t) (n32 (26 * t)) (b2 w) (n32 (12 + (i + 1))) S = jb_X12_merge_153 fu E m (E.2 m aj) (n32 t) (n32 (26 * t)) (b2 (w && okJ A.1 x.2.1 y.2.1 (i + 1) j)) S := fun w => ih (i + 1) F w (fun _ => hxy) (by omega) (by omega)
      have jt := join_top hd sx sy
      by_cases c1 : y.2.1 i = x.2.1 i
      · rw [if_pos c1, show (x.2.1 i == y.2.1 i) = true from by rw [c1]; exact beq_self_eq_true _, Bool.or_true]
        exact st true
      · rw [if_neg c1, show (x.2.1 i == y.2.1 i) = false from beq_eq_false_iff_ne.mpr (Ne.symm c1), Bool.or_false]
        by_cases c2 : joinA A.1 (y.2.1 i) (x.2.1 i) = -2
        · rw [if_pos c2]
          rw [show (joinA A.1 (y.2.1 i) (x.2.1 i) == -2) = true from by rw [beq_iff_eq]; exact c2] at jt
          rw [show (joinA A.1 (x.2.1 i) (y.2.1 i) != -2) = false from by show (!(joinA A.1 (x.2.1 i) (y.2.1 i) == -2)) = false; rw [jt]; rfl]
          exact st false
        · rw [if_neg c2]
          rw [show (joinA A.1 (y.2.1 i) (x.2.1 i) == -2) = false from beq_eq_false_iff_ne.mpr c2] at jt
          rw [show (joinA A.1 (x.2.1 i) (y.2.1 i) != -2) = true from by show (!(joinA A.1 (x.2.1 i) (y.2.1 i) == -2)) = true; rw [jt]; rfl]
          exact st true
end RG
