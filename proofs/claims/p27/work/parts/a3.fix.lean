/-! what inference leaves: each frame's flows arrive -/
def TLe (tb tb' : Nat → Option Fr) : Prop := ∀ j x, tb j = some x → ∃ x', tb' j = some x' ∧ LeF x x'
/-- what instruction j does with f arrives in the table -/
def SatJ (A : Enw) (tb : Nat → Option Fr) (j : Nat) (f : Fr) : Prop := (aExec A j f).2 = 0 ∧ (fal (cop A.2.2 j) = true → j + 1 < cn A.2.2 ∧ ∃ x, tb (j + 1) = some x ∧ LeF (aExec A j f).1 x) ∧ (jmp (cop A.2.2 j) = true → ∃ x, tb (cx A.2.2 j).toNatClampNeg = some x ∧ LeF (aExec A j f).1 x) ∧ ∀ h, h < chn A.2.2 → prot A.2.2 h j = true → ∃ x, tb (tgt A.2.2 h) = some x ∧ LeF (cauF A.2.2 h f) x
/-- where an index isn't pending, its frame hasn't grown -/
def FD (s s' : Ist) : Prop := ∀ j, s'.2 j = false → s.2 j = false ∧ ∀ x', s'.1 j = some x' → ∃ x, s.1 j = some x ∧ LeF x' x
def FI (A : Enw) (e : Nat) (s : Ist) : Prop := (∀ j x, s.1 j = some x → j < cn A.2.2 ∧ VOk x) ∧ (∀ j x, s.1 j = some x → s.2 j = false → j = e ∨ SatJ A s.1 j x) ∧ ∃ x, s.1 0 = some x ∧ LeF (aFst A) x
theorem tle_r {tb : Nat → Option Fr} : TLe tb tb := fun _ x h => ⟨x, h, leF_r x⟩
theorem tle_t {a b c : Nat → Option Fr} (h : TLe a b) (g : TLe b c) : TLe a c := fun j x e => by
  obtain ⟨x1, e1, l1⟩ := h j x e
  obtain ⟨x2, e2, l2⟩ := g j x1 e1
  exact ⟨x2, e2, leF_t l1 l2⟩
theorem fd_r {s : Ist} : FD s s := fun _ h => ⟨h, fun x e => ⟨x, e, leF_r x⟩⟩
theorem fd_t {a b c : Ist} (h : FD a b) (g : FD b c) : FD a c := fun j w => by
  obtain ⟨g1, g2⟩ := g j w
  obtain ⟨h1, h2⟩ := h j g1
  refine ⟨h1, fun x' e => ?_⟩
  obtain ⟨x1, e1, l1⟩ := g2 x' e
  obtain ⟨x2, e2, l2⟩ := h2 x1 e1
  exact ⟨x2, e2, leF_t l1 l2⟩
theorem to_le {tb tb' : Nat → Option Fr} {t : Nat} {y : Fr} (l : TLe tb tb') (h : ∃ x, tb t = some x ∧ LeF y x) : ∃ x, tb' t = some x ∧ LeF y x := by
  obtain ⟨x, e, q⟩ := h
  obtain ⟨x', e', q'⟩ := l t x e
  exact ⟨x', e', leF_t q q'⟩
theorem to_dn {tb : Nat → Option Fr} {t : Nat} {y z : Fr} (l : LeF z y) (h : ∃ x, tb t = some x ∧ LeF y x) : ∃ x, tb t = some x ∧ LeF z x := by
  obtain ⟨x, e, q⟩ := h
  exact ⟨x, e, leF_t l q⟩
theorem sat_le {A : Enw} {tb tb' : Nat → Option Fr} {j : Nat} {f : Fr} (h : SatJ A tb j f) (l : TLe tb tb') : SatJ A tb' j f := ⟨h.1, fun w => ⟨(h.2.1 w).1, to_le l (h.2.1 w).2⟩, fun w => to_le l (h.2.2.1 w), fun q hq w => to_le l (h.2.2.2 q hq w)⟩
theorem cau_le {c : Cd} {h : Nat} {f g : Fr} (l : LeF g f) : LeF (cauF c h g) (cauF c h f) := ⟨rfl, l.2.1, fun _ _ => fL_r _⟩
theorem sat_dn {A : Enw} (hA : LW A) {tb : Nat → Option Fr} {j : Nat} {f g : Fr} (hj : j < cn A.2.2) (h : SatJ A tb j f) (l : LeF g f) (vg : VOk g) (vf : VOk f) : SatJ A tb j g := by
  obtain ⟨e1, e2, -, -⟩ := ex_le hA hj l vg vf h.1
  exact ⟨e1, fun w => ⟨(h.2.1 w).1, to_dn e2 (h.2.1 w).2⟩, fun w => to_dn e2 (h.2.2.1 w), fun q hq w => to_dn (cau_le l) (h.2.2.2 q hq w)⟩
theorem okJ_at {d : Dcl} {x y : Nat → Int32} : ∀ (k i : Nat), okJ d x y i k = true → ∀ z, i ≤ z → z < i + k → joinA d (x z) (y z) ≠ -2 ∨ x z = y z
  | 0, i, _, z, h1, h2 => absurd h2 (by omega)
  | k + 1, i, h, z, h1, h2 => by
    have h : ((joinA d (x i) (y i) != -2 || x i == y i) && okJ d x y (i + 1) k) = true := h
    rw [Bool.and_eq_true, Bool.or_eq_true, bne_iff_ne, beq_iff_eq] at h
    by_cases c : z = i
    · rw [c]; exact h.1
    · exact okJ_at k (i + 1) h.2 z (by omega) (by omega)
theorem chJ_at {d : Dcl} {x y : Nat → Int32} : ∀ (k i : Nat), chJ d x y i k = false → ∀ z, i ≤ z → z < i + k → joinA d (x z) (y z) = x z
  | 0, i, _, z, h1, h2 => absurd h2 (by omega)
  | k + 1, i, h, z, h1, h2 => by
    have h : ((joinA d (x i) (y i) != x i) || chJ d x y (i + 1) k) = false := h
    rw [Bool.or_eq_false_iff, bne_eq_false_iff_eq] at h
    by_cases c : z = i
    · rw [c]; exact h.1
    · exact chJ_at k (i + 1) h.2 z (by omega) (by omega)
/-- merging -/
theorem jn_le {x y : Fr} (vx : VOk x) (vy : VOk y) (ok : mrgOk d0 x y = true) : LeF x (jnF d0 x y) ∧ LeF y (jnF d0 x y) ∧ VOk (jnF d0 x y) ∧ (mrgCh d0 x y = false → LeF (jnF d0 x y) x) := by
  unfold mrgOk at ok
  rw [Bool.and_eq_true, decide_eq_true_eq] at ok
  obtain ⟨hh, ok⟩ := ok
  have jl : ∀ i, i < 12 → joinA d0 (x.1 i) (y.1 i) = jL (x.1 i) (y.1 i) := fun i hi => join_L (vx.1 i hi).a (vy.1 i hi).a
  have js : ∀ i, i < x.2.2.1 → joinA d0 (x.2.1 i) (y.2.1 i) = jL (x.2.1 i) (y.2.1 i) := fun i hi => join_L (vx.2.1 i hi).a (vy.2.1 i (by rw [← hh]; exact hi)).a
  refine ⟨⟨rfl, fun i hi => ?_, fun i hi => ?_⟩, ⟨hh.symm, fun i hi => ?_, fun i hi => ?_⟩, ⟨fun i hi => ?_, fun i hi => ?_, ?_⟩, fun ch => ⟨rfl, fun i hi => ?_, fun i hi => ?_⟩⟩
  · show fL (x.1 i) (joinA d0 (x.1 i) (y.1 i)) = true
    rw [jl i hi]; exact jL_l _ _
  · show fL (x.2.1 i) (joinA d0 (x.2.1 i) (y.2.1 i)) = true
    rw [js i hi]; exact jL_l _ _
  · show fL (y.1 i) (joinA d0 (x.1 i) (y.1 i)) = true
    rw [jl i hi]; exact jL_r _ _
  · show fL (y.2.1 i) (joinA d0 (x.2.1 i) (y.2.1 i)) = true
    rw [js i (by rw [hh]; exact hi)]; exact jL_r _ _
  · show vLo (joinA d0 (x.1 i) (y.1 i))
    rw [jl i hi]; exact vLo_j (vx.1 i hi) (vy.1 i hi)
  · have hi : i < x.2.2.1 := hi
    show vSt (joinA d0 (x.2.1 i) (y.2.1 i))
    have q := okJ_at _ _ ok i (Nat.zero_le _) (by omega)
    rw [js i hi] at q ⊢
    exact vSt_j (vx.2.1 i hi) (vy.2.1 i (by rw [← hh]; exact hi)) q
  · show (x.2.2.2 || y.2.2.2) = false
    rw [vx.2.2, vy.2.2]; rfl
  · unfold mrgCh at ch
    rw [Bool.or_eq_false_iff] at ch
    show fL (joinA d0 (x.1 i) (y.1 i)) (x.1 i) = true
    rw [chJ_at _ _ ch.2 i (Nat.zero_le _) (by omega)]; exact fL_r _
  · have hi : i < x.2.2.1 := hi
    unfold mrgCh at ch
    rw [Bool.or_eq_false_iff, Bool.or_eq_false_iff] at ch
    show fL (joinA d0 (x.2.1 i) (y.2.1 i)) (x.2.1 i) = true
    rw [chJ_at _ _ ch.1.2 i (Nat.zero_le _) (by omega)]; exact fL_r _
theorem upT_s (tb : Nat → Option Fr) (t : Nat) (y : Fr) : upT tb t y t = some y := if_pos rfl
theorem upT_n (tb : Nat → Option Fr) {t j : Nat} (y : Fr) (h : j ≠ t) : upT tb t y j = tb j := if_neg h
theorem upB_s (f : Nat → Bool) (t : Nat) (b : Bool) : upB f t b t = b := if_pos rfl
theorem upB_n (f : Nat → Bool) {t j : Nat} (b : Bool) (h : j ≠ t) : upB f t b j = f j := if_neg h
theorem tle_up {tb : Nat → Option Fr} {t : Nat} {w : Fr} (h : ∀ x, tb t = some x → LeF x w) : TLe tb (upT tb t w) := fun j x e => by
  by_cases c : j = t
  · subst c; exact ⟨w, upT_s _ _ _, h x e⟩
  · exact ⟨x, (upT_n _ _ c).trans e, leF_r x⟩
/-- a frame flows -/
theorem fi_flow {A : Enw} (hA : LW A) {e t : Nat} {y : Fr} {s s' : Ist} (h : FI A e s) (ht : t < cn A.2.2) (vy : VOk y) (ef : aFlow A.1 y t s = some s') : FI A e s' ∧ TLe s.1 s'.1 ∧ FD s s' ∧ ∃ x, s'.1 t = some x ∧ LeF y x := by
  rw [hA.1.1] at ef
  unfold aFlow at ef
  obtain ⟨i1, i2, i3⟩ := h
  cases htb : s.1 t with
  | none =>
    rw [htb] at ef
    have ef : some (upT s.1 t y, upB s.2 t true) = some s' := ef
    cases ef
    have le : TLe s.1 (upT s.1 t y) := tle_up (fun x e => by rw [htb] at e; cases e)
    refine ⟨⟨fun j x hx => ?_, fun j x hx hp => ?_, to_le le i3⟩, le, fun j hp => ?_, ⟨y, upT_s _ _ _, leF_r y⟩⟩
    · have hx : upT s.1 t y j = some x := hx
      by_cases c : j = t
      · subst c; rw [upT_s] at hx; cases hx; exact ⟨ht, vy⟩
      · rw [upT_n _ _ c] at hx; exact i1 j x hx
    · have hx : upT s.1 t y j = some x := hx
      have hp : upB s.2 t true j = false := hp
      by_cases c : j = t
      · subst c; rw [upB_s] at hp; cases hp
      · rw [upT_n _ _ c] at hx; rw [upB_n _ _ c] at hp
        exact (i2 j x hx hp).imp id (fun q => sat_le q le)
    · have hp : upB s.2 t true j = false := hp
      by_cases c : j = t
      · subst c; rw [upB_s] at hp; cases hp
      · rw [upB_n _ _ c] at hp
        refine ⟨hp, fun x' hx => ?_⟩
        have hx : upT s.1 t y j = some x' := hx
        rw [upT_n _ _ c] at hx
        exact ⟨x', hx, leF_r _⟩
  | some x0 =>
    rw [htb] at ef
    have ef : (if mrgOk d0 x0 y = true then some (upT s.1 t (jnF d0 x0 y), upB s.2 t (s.2 t || mrgCh d0 x0 y)) else none) = some s' := ef
    by_cases ok : mrgOk d0 x0 y = true
    · rw [if_pos ok] at ef
      cases ef
      have v0 := (i1 t x0 htb).2
      obtain ⟨l1, l2, vw, l3⟩ := jn_le v0 vy ok
      have le : TLe s.1 (upT s.1 t (jnF d0 x0 y)) := tle_up (fun x e => by rw [htb] at e; cases e; exact l1)
      refine ⟨⟨fun j x hx => ?_, fun j x hx hp => ?_, to_le le i3⟩, le, fun j hp => ?_, ⟨_, upT_s _ _ _, l2⟩⟩
      · have hx : upT s.1 t (jnF d0 x0 y) j = some x := hx
        by_cases c : j = t
        · subst c; rw [upT_s] at hx; cases hx; exact ⟨ht, vw⟩
        · rw [upT_n _ _ c] at hx; exact i1 j x hx
      · have hx : upT s.1 t (jnF d0 x0 y) j = some x := hx
        have hp : upB s.2 t (s.2 t || mrgCh d0 x0 y) j = false := hp
        by_cases c : j = t
        · subst c
          rw [upB_s, Bool.or_eq_false_iff] at hp
          rw [upT_s] at hx; cases hx
          exact (i2 j x0 htb hp.1).imp id (fun q => sat_dn hA ht (sat_le q le) (l3 hp.2) vw v0)
        · rw [upT_n _ _ c] at hx; rw [upB_n _ _ c] at hp
          exact (i2 j x hx hp).imp id (fun q => sat_le q le)
      · have hp : upB s.2 t (s.2 t || mrgCh d0 x0 y) j = false := hp
        by_cases c : j = t
        · subst c
          rw [upB_s, Bool.or_eq_false_iff] at hp
          refine ⟨hp.1, fun x' hx => ?_⟩
          have hx : upT s.1 j (jnF d0 x0 y) j = some x' := hx
          rw [upT_s] at hx; cases hx
          exact ⟨x0, htb, l3 hp.2⟩
        · rw [upB_n _ _ c] at hp
          refine ⟨hp, fun x' hx => ?_⟩
          have hx : upT s.1 t (jnF d0 x0 y) j = some x' := hx
          rw [upT_n _ _ c] at hx
          exact ⟨x', hx, leF_r _⟩
    · rw [if_neg ok] at ef; cases ef
/-- the law's code is well formed -/
theorem lw_opOk {A : Enw} (hA : LW A) {i : Nat} (hi : i < cn A.2.2) : opOk A (cop A.2.2 i) (cx A.2.2 i) = true := by
  obtain ⟨⟨hd, hb⟩, ⟨-, -, -, hl⟩, ⟨-, h12, hO, -⟩, -⟩ := hA
  unfold opOk
  dsimp only
  rw [hd, hb, hl]
  rcases hO i hi with (c | c | c | c | c | c) | ⟨c, k, hk, ex⟩ | ⟨c, t, ht, ex⟩ | ⟨c, ex⟩ | ⟨c, ex⟩ | ⟨c, ex⟩
  · rw [c]; rfl
  · rw [c]; rfl
  · rw [c]; rfl
  · rw [c]; rfl
  · rw [c]; rfl
  · rw [c]; rfl
  · have q : ∀ k : Fin 3, (decide (0 ≤ n32 k.1) && decide ((n32 k.1).toNatClampNeg < 3)) = true := by decide
    have q := q ⟨k, hk⟩
    rw [ex]
    rcases c with c | c | c | c <;> rw [c] <;> exact q
  · have q : (decide (0 ≤ n32 t) && decide ((n32 t).toNatClampNeg < cn A.2.2)) = true := by
      rw [z_nat (by omega), decide_eq_true ht, Bool.and_true]
      exact n32_ge (by omega)
    rw [ex]
    rcases c with c | c | c <;> rw [c] <;> exact q
  · rw [c]; rcases ex with e | e <;> rw [e]
    · exact show (decide (0 ≤ (3 : Int32)) && cls d0 (Int32.toNatClampNeg 3)) = true by decide
    · exact show (decide (0 ≤ (4 : Int32)) && cls d0 (Int32.toNatClampNeg 4)) = true by decide
  · rw [c]; rcases ex with e | e <;> rw [e]
    · exact show (decide (0 ≤ (1 : Int32)) && (decide (Int32.toNatClampNeg 1 < mcnt b0) && decide (mkin b0 (Int32.toNatClampNeg 1) = 2))) = true by decide
    · exact show (decide (0 ≤ (2 : Int32)) && (decide (Int32.toNatClampNeg 2 < mcnt b0) && decide (mkin b0 (Int32.toNatClampNeg 2) = 2))) = true by decide
  · rw [c]; rcases ex with e | e | e <;> rw [e]
    · exact show (decide (0 ≤ (16 : Int32)) && (isT d0 (Int32.toNatClampNeg 16) && rfN (Int32.toNatClampNeg 16))) = true by decide
    · exact show (decide (0 ≤ (24 : Int32)) && (isT d0 (Int32.toNatClampNeg 24) && rfN (Int32.toNatClampNeg 24))) = true by decide
    · exact show (decide (0 ≤ (32 : Int32)) && (isT d0 (Int32.toNatClampNeg 32) && rfN (Int32.toNatClampNeg 32))) = true by decide
theorem fOp_all {A : Enw} : ∀ (k i : Nat), (∀ q, i ≤ q → q < i + k → opOk A (cop A.2.2 q) (cx A.2.2 q) = true) → fOp A i k = none
  | 0, _, _ => rfl
  | k + 1, i, h => by
    show (if opOk A (cop A.2.2 i) (cx A.2.2 i) = true then fOp A (i + 1) k else some i) = none
    rw [if_pos (h i (Nat.le_refl _) (by omega))]
    exact fOp_all k (i + 1) (fun q h1 h2 => h q (by omega) (by omega))
theorem lw_good {A : Enw} (hA : LW A) : Good A := by
  have hO := fun i hi => lw_opOk hA (i := i) hi
  obtain ⟨⟨hd, hb⟩, ⟨-, hm, -, hl⟩, ⟨h3, -, -, -⟩, hc, hh⟩ := hA
  unfold Good exam
  rw [if_neg (by omega), fOp_all _ _ (fun q _ h2 => hO q (by omega))]
  show exH A (fHd A.2.2 0 (chn A.2.2)) = (0, -1)
  have e : fHd A.2.2 0 (chn A.2.2) = none := by
    rcases Nat.lt_or_ge 0 (chn A.2.2) with c | c
    · have c1 : chn A.2.2 = 1 := by omega
      rw [c1]
      show (if hOk A.2.2 0 = true then none else some 0) = none
      have : hOk A.2.2 0 = true := by
        unfold hOk
        rw [(hh 0 (by omega)).1]; rfl
      rw [if_pos this]
    · rw [show chn A.2.2 = 0 by omega]; rfl
  rw [e]
  show exN A = (0, -1)
  unfold exN
  rw [hb, hm, hl]; rfl
theorem lw_last {A : Enw} (hA : LW A) {i : Nat} (hi : i < cn A.2.2) (h : fal (cop A.2.2 i) = true) : i + 1 < cn A.2.2 := by
  by_cases c : i = cn A.2.2 - 1
  · rw [c, hA.2.2.1.2.2.2] at h
    exact absurd h (by decide)
  · omega
theorem cau_ok {A : Enw} (hA : LW A) {h : Nat} (hh : h < chn A.2.2) {f : Fr} (vf : VOk f) : VOk (cauF A.2.2 h f) := by
  refine ⟨vf.1, fun i _ => ?_, vf.2.2⟩
  show vSt (n32 (8 * chc A.2.2 h))
  rw [(hA.2.2.2.2 h hh).2]
  exact Or.inr (Or.inr (Or.inr (Or.inr (Or.inl rfl))))
section FIX
variable {A : Enw} {i e : Nat} {f : Fr}
theorem fi_hdI (hA : LW A) (vf : VOk f) : ∀ (k h : Nat) (s : Ist), h + k = chn A.2.2 → FI A e s → (aHdI A i f h k s).1 = 0 → FI A e (aHdI A i f h k s).2 ∧ TLe s.1 (aHdI A i f h k s).2.1 ∧ FD s (aHdI A i f h k s).2 ∧ ∀ q, h ≤ q → q < h + k → prot A.2.2 q i = true → ∃ x, (aHdI A i f h k s).2.1 (tgt A.2.2 q) = some x ∧ LeF (cauF A.2.2 q f) x
  | 0, h, s, _, hs, _ => ⟨hs, tle_r, fd_r, fun q h1 h2 => absurd h2 (by omega)⟩
  | k + 1, h, s, hk, hs, hc => by
    have hh : h < chn A.2.2 := by omega
    have ht := hOk_tgt ((good_all (lw_good hA)).2.1 h hh)
    have go : aHdI A i f h (k + 1) s = (if prot A.2.2 h i = true then (if cmost A.2.2 = 0 then ((6 : Int32), s) else if (flw A.1 (cauF A.2.2 h f) (tgt A.2.2 h) s).1 = 0 then aHdI A i f (h + 1) k (flw A.1 (cauF A.2.2 h f) (tgt A.2.2 h) s).2 else (flw A.1 (cauF A.2.2 h f) (tgt A.2.2 h) s)) else aHdI A i f (h + 1) k s) := rfl
    rw [go] at hc ⊢
    by_cases c1 : prot A.2.2 h i = true
    · rw [if_pos c1] at hc ⊢
      by_cases c2 : cmost A.2.2 = 0
      · rw [if_pos c2] at hc
        exact absurd hc (show ¬ (6 : Int32) = 0 by decide)
      · rw [if_neg c2] at hc ⊢
        rcases flw_8 (d := A.1) (y := cauF A.2.2 h f) (t := tgt A.2.2 h) (s := s) with ⟨k0, ks⟩ | ⟨k8, _⟩
        · rw [if_pos k0] at hc ⊢
          obtain ⟨f1, f2, f3, f4⟩ := fi_flow hA hs ht.2 (cau_ok hA hh vf) ks
          obtain ⟨r1, r2, r3, r4⟩ := fi_hdI hA vf k (h + 1) _ (by omega) f1 hc
          refine ⟨r1, tle_t f2 r2, fd_t f3 r3, fun q h1 h2 hp => ?_⟩
          by_cases w : q = h
          · rw [w]; exact to_le r2 f4
          · exact r4 q (by omega) (by omega) hp
        · rw [if_neg (by rw [k8]; decide)] at hc
          rw [k8] at hc
          exact absurd hc (by decide)
    · rw [if_neg c1] at hc ⊢
      obtain ⟨r1, r2, r3, r4⟩ := fi_hdI hA vf k (h + 1) s (by omega) hs hc
      refine ⟨r1, r2, r3, fun q h1 h2 hp => ?_⟩
      by_cases w : q = h
      · rw [w] at hp; exact absurd hp c1
      · exact r4 q (by omega) (by omega) hp
theorem fi_suI (hA : LW A) (hE : EI A) (hi : i < cn A.2.2) (vf : VOk f) {s : Ist} (hs : FI A e s) (hc : (aSuI A i f s).1 = 0) : FI A e (aSuI A i f s).2 ∧ TLe s.1 (aSuI A i f s).2.1 ∧ FD s (aSuI A i f s).2 ∧ (fal (cop A.2.2 i) = true → i + 1 < cn A.2.2 ∧ ∃ x, (aSuI A i f s).2.1 (i + 1) = some x ∧ LeF f x) ∧ (jmp (cop A.2.2 i) = true → ∃ x, (aSuI A i f s).2.1 (cx A.2.2 i).toNatClampNeg = some x ∧ LeF f x) := by
  have s1 : (aS1 A i f s).1 = 0 → FI A e (aS1 A i f s).2 ∧ TLe s.1 (aS1 A i f s).2.1 ∧ FD s (aS1 A i f s).2 ∧ (fal (cop A.2.2 i) = true → i + 1 < cn A.2.2 ∧ ∃ x, (aS1 A i f s).2.1 (i + 1) = some x ∧ LeF f x) := by
    intro h
    unfold aS1 at h ⊢
    by_cases c1 : fal (cop A.2.2 i) = true
    · have c2 := lw_last hA hi c1
      rw [if_pos c1, if_pos c2] at h ⊢
      rcases flw_8 (d := A.1) (y := f) (t := i + 1) (s := s) with ⟨k0, ks⟩ | ⟨k8, _⟩
      · obtain ⟨f1, f2, f3, f4⟩ := fi_flow hA hs c2 vf ks
        exact ⟨f1, f2, f3, fun _ => ⟨c2, f4⟩⟩
      · rw [k8] at h; exact absurd h (by decide)
    · rw [if_neg c1]; exact ⟨hs, tle_r, fd_r, fun w => absurd w c1⟩
  unfold aSuI at hc ⊢
  by_cases c0 : (aS1 A i f s).1 = 0
  · obtain ⟨q1, q2, q3, q4⟩ := s1 c0
    rw [if_pos c0] at hc ⊢
    by_cases cj : jmp (cop A.2.2 i) = true
    · have hx := jmp_x (lw_good hA) hE hi cj
      rw [if_pos cj] at hc ⊢
      rcases flw_8 (d := A.1) (y := f) (t := (cx A.2.2 i).toNatClampNeg) (s := (aS1 A i f s).2) with ⟨k0, ks⟩ | ⟨k8, _⟩
      · obtain ⟨f1, f2, f3, f4⟩ := fi_flow hA q1 hx.2 vf ks
        exact ⟨f1, tle_t q2 f2, fd_t q3 f3, fun w => ⟨(q4 w).1, to_le f2 (q4 w).2⟩, fun _ => f4⟩
      · rw [k8] at hc; exact absurd hc (by decide)
    · rw [if_neg cj]
      exact ⟨q1, q2, q3, q4, fun w => absurd w cj⟩
  · rw [if_neg c0] at hc; exact absurd hc c0
/-- an instruction is processed -/
theorem fi_prI (hA : LW A) (hE : EI A) (hi : i < cn A.2.2) {s : Ist} (hs : FI A i s) (hf : s.1 i = some f) (hc : (aPrI A i f s).1 = 0) : FI A 100 (aPrI A i f s).2 := by
  have vf := (hs.1 i f hf).2
  unfold aPrI at hc ⊢
  by_cases c1 : (aHdI A i f 0 (chn A.2.2) s).1 = 0
  · rw [if_pos c1] at hc ⊢
    obtain ⟨h1, h2, h3, h4⟩ := fi_hdI hA vf (chn A.2.2) 0 s (by omega) hs c1
    by_cases c2 : (aExec A i f).2 = 0
    · rw [if_pos c2] at hc ⊢
      obtain ⟨-, -, -, vx⟩ := ex_le hA hi (leF_r f) vf vf c2
      obtain ⟨r1, r2, r3, r4, r5⟩ := fi_suI hA hE hi vx h1 hc
      refine ⟨r1.1, fun j x hx hp => ?_, r1.2.2⟩
      rcases r1.2.1 j x hx hp with q | q
      · subst q
        obtain ⟨-, d2⟩ := fd_t h3 r3 j hp
        obtain ⟨x0, e0, l0⟩ := d2 x hx
        rw [hf] at e0
        cases e0
        exact Or.inr (sat_dn hA hi ⟨c2, r4, r5, fun h hh w => to_le r2 (h4 h (Nat.zero_le _) (by omega) w)⟩ l0 (r1.1 j x hx).2 vf)
      · exact Or.inr q
    · rw [if_neg c2] at hc; exact absurd hc c2
  · rw [if_neg c1] at hc; exact absurd hc c1
theorem k0 : kOk 0 := Or.inl rfl
theorem k6 : kOk 6 := Or.inr (Or.inr (Or.inr (Or.inr (Or.inl rfl))))
theorem k8 : kOk 8 := Or.inr (Or.inr (Or.inr (Or.inr (Or.inr (Or.inl rfl)))))
theorem kk_flw {d : Dcl} {y : Fr} {t : Nat} {s : Ist} : kOk (flw d y t s).1 := by
  rcases flw_8 (d := d) (y := y) (t := t) (s := s) with ⟨h, _⟩ | ⟨h, _⟩
  · rw [h]; exact k0
  · rw [h]; exact k8
theorem kk_hdI : ∀ (k h : Nat) (s : Ist), kOk (aHdI A i f h k s).1
  | 0, _, _ => k0
  | k + 1, h, s => by
    have go : aHdI A i f h (k + 1) s = (if prot A.2.2 h i = true then (if cmost A.2.2 = 0 then ((6 : Int32), s) else if (flw A.1 (cauF A.2.2 h f) (tgt A.2.2 h) s).1 = 0 then aHdI A i f (h + 1) k (flw A.1 (cauF A.2.2 h f) (tgt A.2.2 h) s).2 else (flw A.1 (cauF A.2.2 h f) (tgt A.2.2 h) s)) else aHdI A i f (h + 1) k s) := rfl
    rw [go]
    split
    · split
      · exact k6
      split
      · exact kk_hdI k (h + 1) _
      · exact kk_flw
    · exact kk_hdI k (h + 1) s
theorem kk_prI (hA : LW A) (hi : i < cn A.2.2) {s : Ist} : kOk (aPrI A i f s).1 := by
  unfold aPrI
  split
  · split
    · unfold aSuI aS1
      by_cases c1 : fal (cop A.2.2 i) = true
      · have c2 := lw_last hA hi c1
        rw [if_pos c1, if_pos c2]
        split
        · split
          · exact kk_flw
          · exact kk_flw
        · exact kk_flw
      · rw [if_neg c1]
        split
        · split
          · exact kk_flw
          · exact k0
        · exact k0
    · exact ex_kd hA hi
  · exact kk_hdI _ _ _
theorem run_fi (hA : LW A) (hE : EI A) : ∀ (n : Nat) (y : Rst), InvI A y.1.2 n → (y.1.1 = 0 → FI A 100 y.1.2 ∧ y.2.2 = -1) → kOk y.1.1 → (y.1.1 ≠ 0 → y.2.2 ≠ -1) → kOk (aRun A n y).1.1 ∧ ((aRun A n y).1.1 = 0 → FI A 100 (aRun A n y).1.2 ∧ fstP (aRun A n y).1.2.2 0 (cn A.2.2) = none ∧ (aRun A n y).2.2 = -1) ∧ ((aRun A n y).1.1 ≠ 0 → (aRun A n y).2.2 ≠ -1) := by
  have h100 := hE.2.2.2.2.2.1
  have hs := hA.2.1.1
  have hG := lw_good hA
  intro n
  induction n with
  | zero =>
    intro y iv hy hk hz
    refine ⟨hk, fun hc => ?_, hz⟩
    have hc : y.1.1 = 0 := hc
    refine ⟨(hy hc).1, ?_, (hy hc).2⟩
    show fstP y.1.2.2 0 (cn A.2.2) = none
    cases hp : fstP y.1.2.2 0 (cn A.2.2) with
    | none => rfl
    | some i =>
      have := fstP_some _ _ _ hp
      have p := phi_pos (s := y.1.2) (i := i) (by omega) this.2.2
      have := iv.2.2
      omega
  | succ n ih =>
    intro y iv hy hk hz
    have go : aRun A (n + 1) y = if y.1.1 = 0 then (match fstP y.1.2.2 0 (cn A.2.2) with
      | none => y
      | some i => match y.1.2.1 i with
        | none => y
        | some x => aRun A n (tak A y i x)) else y := rfl
    rw [go]
    by_cases c : y.1.1 = 0
    · rw [if_pos c]
      cases hp : fstP y.1.2.2 0 (cn A.2.2) with
      | none => exact ⟨hk, fun hc => ⟨(hy c).1, hp, (hy c).2⟩, hz⟩
      | some i =>
        obtain ⟨_, hi, hpi⟩ := fstP_some _ _ _ hp
        have hi : i < cn A.2.2 := by omega
        have hso := iv.2.1 i (by omega) hpi
        dsimp only
        cases hx : y.1.2.1 i with
        | none => rw [hx] at hso; cases hso
        | some x =>
          dsimp only
          have c0 := (hy c).1
          have ci : FI A i (y.1.2.1, upB y.1.2.2 i false) := ⟨c0.1, fun j x' hx' p => by
            by_cases q : j = i
            · exact Or.inl q
            · have p : upB y.1.2.2 i false j = false := p
              rw [upB_n _ _ q] at p
              rcases c0.2.1 j x' hx' p with r | r
              · have := (c0.1 j x' hx').1
                omega
              · exact Or.inr r, c0.2.2⟩
          refine ih (tak A y i x) (inv_tak hE hs hG iv hi hpi hx).2 (fun z => ?_) (kk_prI hA hi) (fun z => ?_)
          · have z : (aPrI A i x (y.1.2.1, upB y.1.2.2 i false)).1 = 0 := z
            refine ⟨fi_prI hA hE hi ci hx z, ?_⟩
            show (if (aPrI A i x (y.1.2.1, upB y.1.2.2 i false)).1 = 0 then y.2.2 else n32 i) = -1
            rw [if_pos z]; exact (hy c).2
          · have z : (aPrI A i x (y.1.2.1, upB y.1.2.2 i false)).1 ≠ 0 := z
            show (if (aPrI A i x (y.1.2.1, upB y.1.2.2 i false)).1 = 0 then y.2.2 else n32 i) ≠ -1
            rw [if_neg z, ne_eq, z_ne1 (by omega)]; exact id
    · rw [if_neg c]
      exact ⟨hk, fun hc => absurd hc c, hz⟩
theorem fst_ok (hA : LW A) : VOk (aFst A) := by
  obtain ⟨⟨-, hb⟩, ⟨-, hm, -, -⟩, -⟩ := hA
  unfold aFst fstL
  rw [hb, hm]
  refine ⟨?_, fun i hi => absurd hi (Nat.not_lt_zero i), ?_⟩
  · rw [if_pos (show mkin b0 0 = 1 from rfl)]
    show ∀ i, i < 12 → vLo (layP (mpty b0 0) 0 (mpcn b0 0) 0 (fun _ => -2) i)
    unfold vLo
    decide
  · show (decide (mkin b0 0 ≠ 1) && isNw A) = false
    rw [show decide (mkin b0 0 ≠ 1) = false from by decide]; rfl
/-- what inference says of the law's code -/
theorem inf_fix (hA : LW A) (hE : EI A) : kOk (aInf A).1.1 ∧ ((aInf A).1.1 = 0 → (aInf A).2.2 = -1) ∧ ((aInf A).1.1 ≠ 0 → (aInf A).2.2 ≠ -1) ∧ ((aInf A).1.1 = 0 → (∀ j x, lft (aInf A) j = some x → j < cn A.2.2 ∧ VOk x ∧ SatJ A (lft (aInf A)) j x) ∧ ∃ x, lft (aInf A) 0 = some x ∧ LeF (aFst A) x) := by
  have hG := lw_good hA
  have h100 := hE.2.2.2.2.2.1
  have e0 : (exam A).1 = 0 := by rw [show exam A = (0, -1) from hG]
  unfold aInf
  rw [if_pos e0]
  have fi0 : FI A 100 (ist0 A) := by
    refine ⟨fun j x hx => ?_, fun j x hx hp => ?_, ⟨aFst A, upT_s (fun _ => none) 0 (aFst A), leF_r _⟩⟩
    · have hx : upT (fun _ => none) 0 (aFst A) j = some x := hx
      by_cases c : j = 0
      · subst c; rw [upT_s] at hx; cases hx; exact ⟨good_cn hG, fst_ok hA⟩
      · rw [upT_n _ _ c] at hx; cases hx
    · have hx : upT (fun _ => none) 0 (aFst A) j = some x := hx
      have hp : upB (fun _ => false) 0 true j = false := hp
      by_cases c : j = 0
      · subst c; rw [upB_s] at hp; cases hp
      · rw [upT_n _ _ c] at hx; cases hx
  obtain ⟨r1, r2, r3⟩ := run_fi hA hE 600000 ((0, ist0 A), 0, -1) (inv_ist0 hE hA.2.1.1 hG) (fun _ => ⟨fi0, rfl⟩) k0 (fun w => absurd rfl w)
  generalize aRun A 600000 ((0, ist0 A), 0, -1) = y at r1 r2 r3 ⊢
  refine ⟨r1, fun z => (r2 z).2.2, r3, fun z => ?_⟩
  obtain ⟨f1, np, -⟩ := r2 z
  unfold lft
  rw [if_pos z]
  refine ⟨fun j x hx => ?_, f1.2.2⟩
  have hj := f1.1 j x hx
  refine ⟨hj.1, hj.2, ?_⟩
  have p := fstP_none _ _ np j (Nat.zero_le _) (by omega)
  rcases f1.2.1 j x hx p with q | q
  · omega
  · exact q
end FIX
