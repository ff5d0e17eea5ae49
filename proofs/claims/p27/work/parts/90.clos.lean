def cl1 (c : Cd) (tb : Nat → Option Fr) (i : Nat) : Prop := (jmp (cop c i) = true → (tb (cx c i).toNatClampNeg).isSome = true) ∧ ∀ h, h < chn c → prot c h i = true → (tb (tgt c h)).isSome = true
def SLe (s s' : Ist) : Prop := ∀ j, (s.1 j).isSome = true → (s'.1 j).isSome = true
def Cl (c : Cd) (e : Nat) (s : Ist) : Prop := (∀ j, j < 100 → (s.1 j).isSome = true → j < cn c) ∧ ∀ j, j < 100 → (s.1 j).isSome = true → s.2 j = false → j = e ∨ cl1 c s.1 j
theorem cl1_le {c : Cd} {s s' : Ist} {i : Nat} (h : cl1 c s.1 i) (l : SLe s s') : cl1 c s'.1 i := ⟨fun z => l _ (h.1 z), fun q hq z => l _ (h.2 q hq z)⟩
theorem flow_s {d : Dcl} {y : Fr} {t : Nat} {s s' : Ist} (e : aFlow d y t s = some s') : SLe s s' ∧ (s'.1 t).isSome = true ∧ (∀ j, j ≠ t → s'.1 j = s.1 j) ∧ ∀ j, s'.2 j = false → s.2 j = false ∧ ((s'.1 j).isSome = true → (s.1 j).isSome = true) ∨ j = t ∧ (s.1 j).isSome = true ∧ s.2 j = false := by
  unfold aFlow at e
  cases htb : s.1 t with
  | none =>
    rw [htb] at e
    have e : some (upT s.1 t y, upB s.2 t true) = some s' := e
    cases e
    refine ⟨fun j hj => ?_, ?_, fun j hj => if_neg hj, fun j hj => ?_⟩
    · show (upT s.1 t y j).isSome = true
      unfold upT
      by_cases c : j = t
      · rw [if_pos c]; rfl
      · rw [if_neg c]; exact hj
    · show (upT s.1 t y t).isSome = true
      unfold upT
      rw [if_pos rfl]; rfl
    · have hj : upB s.2 t true j = false := hj
      unfold upB at hj
      by_cases c : j = t
      · rw [if_pos c] at hj; cases hj
      · rw [if_neg c] at hj
        refine Or.inl ⟨hj, fun w => ?_⟩
        have w : (upT s.1 t y j).isSome = true := w
        unfold upT at w
        rw [if_neg c] at w
        exact w
  | some x =>
    rw [htb] at e
    have e : (if mrgOk d x y = true then some (upT s.1 t (jnF d x y), upB s.2 t (s.2 t || mrgCh d x y)) else none) = some s' := e
    by_cases ok : mrgOk d x y = true
    · rw [if_pos ok] at e
      cases e
      refine ⟨fun j hj => ?_, ?_, fun j hj => if_neg hj, fun j hj => ?_⟩
      · show (upT s.1 t (jnF d x y) j).isSome = true
        unfold upT
        by_cases c : j = t
        · rw [if_pos c]; rfl
        · rw [if_neg c]; exact hj
      · show (upT s.1 t (jnF d x y) t).isSome = true
        unfold upT
        rw [if_pos rfl]; rfl
      · have hj : upB s.2 t (s.2 t || mrgCh d x y) j = false := hj
        unfold upB at hj
        by_cases c : j = t
        · rw [if_pos c] at hj
          rw [Bool.or_eq_false_iff] at hj
          refine Or.inr ⟨c, by rw [c, htb]; rfl, by rw [c]; exact hj.1⟩
        · rw [if_neg c] at hj
          refine Or.inl ⟨hj, fun w => ?_⟩
          have w : (upT s.1 t (jnF d x y) j).isSome = true := w
          unfold upT at w
          rw [if_neg c] at w
          exact w
    · rw [if_neg ok] at e; cases e
theorem cl_flow {d : Dcl} {c : Cd} {e : Nat} {y : Fr} {t : Nat} {s s' : Ist} (h : Cl c e s) (ht : t < cn c) (ef : aFlow d y t s = some s') : Cl c e s' := by
  obtain ⟨le, _, k3, k4⟩ := flow_s ef
  refine ⟨fun j hj w => ?_, fun j hj w p => ?_⟩
  · by_cases q : j = t
    · rw [q]; exact ht
    · rw [k3 j q] at w; exact h.1 j hj w
  · rcases k4 j p with ⟨p', w'⟩ | ⟨_, w', p'⟩
    · rcases h.2 j hj (w' w) p' with q | q
      · exact Or.inl q
      · exact Or.inr (cl1_le q le)
    · rcases h.2 j hj w' p' with q | q
      · exact Or.inl q
      · exact Or.inr (cl1_le q le)
theorem sle_r {s : Ist} : SLe s s := fun _ h => h
theorem sle_t {s s1 s2 : Ist} (h : SLe s s1) (g : SLe s1 s2) : SLe s s2 := fun j w => g j (h j w)
theorem cl_hdI {A : Enw} (hG : Good A) {i e : Nat} {f : Fr} : ∀ (k h : Nat) (s : Ist), h + k = chn A.2.2 → Cl A.2.2 e s → (aHdI A i f h k s).1 = 0 → Cl A.2.2 e (aHdI A i f h k s).2 ∧ SLe s (aHdI A i f h k s).2 ∧ ∀ q, h ≤ q → q < h + k → prot A.2.2 q i = true → ((aHdI A i f h k s).2.1 (tgt A.2.2 q)).isSome = true
  | 0, h, s, _, hs, _ => ⟨hs, sle_r, fun q h1 h2 => absurd h2 (by omega)⟩
  | k + 1, h, s, hk, hs, hc => by
    have hh : h < chn A.2.2 := by omega
    have ht := hOk_tgt ((good_all hG).2.1 h hh)
    have go : aHdI A i f h (k + 1) s = (if prot A.2.2 h i = true then (if cmost A.2.2 = 0 then ((6 : Int32), s) else if (flw A.1 (cauF A.2.2 h f) (tgt A.2.2 h) s).1 = 0 then aHdI A i f (h + 1) k (flw A.1 (cauF A.2.2 h f) (tgt A.2.2 h) s).2 else (flw A.1 (cauF A.2.2 h f) (tgt A.2.2 h) s)) else aHdI A i f (h + 1) k s) := rfl
    rw [go] at hc ⊢
    by_cases c1 : prot A.2.2 h i = true
    · rw [if_pos c1] at hc ⊢
      by_cases c2 : cmost A.2.2 = 0
      · rw [if_pos c2] at hc
        exact absurd hc (show ¬ (6 : Int32) = 0 by decide)
      · rw [if_neg c2] at hc ⊢
        rcases flw_8 (d := A.1) (y := cauF A.2.2 h f) (t := tgt A.2.2 h) (s := s) with ⟨k0, ks⟩ | ⟨k8, _⟩
        · rw [if_pos k0] at hc ⊢
          obtain ⟨le, sm, _, _⟩ := flow_s ks
          obtain ⟨r1, r2, r3⟩ := cl_hdI hG k (h + 1) _ (by omega) (cl_flow hs ht.2 ks) hc
          refine ⟨r1, sle_t le r2, fun q h1 h2 hp => ?_⟩
          by_cases w : q = h
          · rw [w]; exact r2 _ sm
          · exact r3 q (by omega) (by omega) hp
        · rw [if_neg (by rw [k8]; decide)] at hc
          rw [k8] at hc
          exact absurd hc (by decide)
    · rw [if_neg c1] at hc ⊢
      obtain ⟨r1, r2, r3⟩ := cl_hdI hG k (h + 1) s (by omega) hs hc
      refine ⟨r1, r2, fun q h1 h2 hp => ?_⟩
      by_cases w : q = h
      · rw [w] at hp; exact absurd hp c1
      · exact r3 q (by omega) (by omega) hp
theorem cl_suI {A : Enw} (hA : EI A) (hG : Good A) {i e : Nat} (hi : i < cn A.2.2) {f : Fr} {s : Ist} (hs : Cl A.2.2 e s) (hc : (aSuI A i f s).1 = 0) : Cl A.2.2 e (aSuI A i f s).2 ∧ SLe s (aSuI A i f s).2 ∧ (jmp (cop A.2.2 i) = true → ((aSuI A i f s).2.1 (cx A.2.2 i).toNatClampNeg).isSome = true) := by
  have s1 : (aS1 A i f s).1 = 0 → Cl A.2.2 e (aS1 A i f s).2 ∧ SLe s (aS1 A i f s).2 := by
    intro h
    unfold aS1 at h ⊢
    by_cases c1 : fal (cop A.2.2 i) = true
    · rw [if_pos c1] at h ⊢
      by_cases c2 : i + 1 < cn A.2.2
      · rw [if_pos c2] at h ⊢
        rcases flw_8 (d := A.1) (y := f) (t := i + 1) (s := s) with ⟨k0, ks⟩ | ⟨k8, _⟩
        · exact ⟨cl_flow hs c2 ks, (flow_s ks).1⟩
        · rw [k8] at h; exact absurd h (by decide)
      · rw [if_neg c2] at h; exact absurd h (show ¬ (7 : Int32) = 0 by decide)
    · rw [if_neg c1]; exact ⟨hs, sle_r⟩
  unfold aSuI at hc ⊢
  by_cases c0 : (aS1 A i f s).1 = 0
  · obtain ⟨q1, q2⟩ := s1 c0
    rw [if_pos c0] at hc ⊢
    by_cases cj : jmp (cop A.2.2 i) = true
    · have hx := jmp_x hG hA hi cj
      rw [if_pos cj] at hc ⊢
      rcases flw_8 (d := A.1) (y := f) (t := (cx A.2.2 i).toNatClampNeg) (s := (aS1 A i f s).2) with ⟨k0, ks⟩ | ⟨k8, _⟩
      · exact ⟨cl_flow q1 hx.2 ks, sle_t q2 (flow_s ks).1, fun _ => (flow_s ks).2.1⟩
      · rw [k8] at hc; exact absurd hc (by decide)
    · rw [if_neg cj]
      exact ⟨q1, q2, fun z => absurd z cj⟩
  · rw [if_neg c0] at hc; exact absurd hc c0
theorem cl_prI {A : Enw} (hA : EI A) (hG : Good A) {i : Nat} (hi : i < cn A.2.2) {f : Fr} {s : Ist} (hs : Cl A.2.2 i s) (hc : (aPrI A i f s).1 = 0) : Cl A.2.2 100 (aPrI A i f s).2 ∧ SLe s (aPrI A i f s).2 := by
  unfold aPrI at hc ⊢
  by_cases c1 : (aHdI A i f 0 (chn A.2.2) s).1 = 0
  · rw [if_pos c1] at hc ⊢
    obtain ⟨h1, h2, h3⟩ := cl_hdI hG (chn A.2.2) 0 s (by omega) hs c1
    by_cases c2 : (aExec A i f).2 = 0
    · rw [if_pos c2] at hc ⊢
      obtain ⟨r1, r2, r3⟩ := cl_suI hA hG hi h1 hc
      refine ⟨⟨r1.1, fun j hj w p => ?_⟩, sle_t h2 r2⟩
      rcases r1.2 j hj w p with q | q
      · rw [q]
        exact Or.inr ⟨r3, fun h hh hp => r2 _ (h3 h (Nat.zero_le _) (by omega) hp)⟩
      · exact Or.inr q
    · rw [if_neg c2] at hc; exact absurd hc c2
  · rw [if_neg c1] at hc; exact absurd hc c1
theorem aRun_cl {A : Enw} (hA : EI A) (hs : cst A.2.2 = true) (hG : Good A) : ∀ (n : Nat) (y : Rst), InvI A y.1.2 n → (y.1.1 = 0 → Cl A.2.2 100 y.1.2 ∧ (y.1.2.1 0).isSome = true) → (aRun A n y).1.1 = 0 → Cl A.2.2 100 (aRun A n y).1.2 ∧ ((aRun A n y).1.2.1 0).isSome = true ∧ fstP (aRun A n y).1.2.2 0 (cn A.2.2) = none := by
  have h100 := hA.2.2.2.2.2.1
  intro n
  induction n with
  | zero =>
    intro y iv hy hc
    have hc : y.1.1 = 0 := hc
    refine ⟨(hy hc).1, (hy hc).2, ?_⟩
    show fstP y.1.2.2 0 (cn A.2.2) = none
    cases hp : fstP y.1.2.2 0 (cn A.2.2) with
    | none => rfl
    | some i =>
      have := fstP_some _ _ _ hp
      have p := phi_pos (s := y.1.2) (i := i) (by omega) this.2.2
      have := iv.2.2
      omega
  | succ n ih =>
    intro y iv hy hc
    have go : aRun A (n + 1) y = if y.1.1 = 0 then (match fstP y.1.2.2 0 (cn A.2.2) with
      | none => y
      | some i => match y.1.2.1 i with
        | none => y
        | some x => aRun A n (tak A y i x)) else y := rfl
    rw [go] at hc ⊢
    by_cases c : y.1.1 = 0
    · rw [if_pos c] at hc ⊢
      cases hp : fstP y.1.2.2 0 (cn A.2.2) with
      | none =>
        refine ⟨(hy c).1, (hy c).2, hp⟩
      | some i =>
        rw [hp] at hc
        obtain ⟨_, hi, hpi⟩ := fstP_some _ _ _ hp
        have hi : i < cn A.2.2 := by omega
        have hso := iv.2.1 i (by omega) hpi
        dsimp only at hc ⊢
        cases hx : y.1.2.1 i with
        | none => rw [hx] at hso; cases hso
        | some x =>
          rw [hx] at hc
          dsimp only at hc ⊢
          refine ih (tak A y i x) (inv_tak hA hs hG iv hi hpi hx).2 (fun z => ?_) hc
          have c0 := (hy c).1
          have ci : Cl A.2.2 i (y.1.2.1, upB y.1.2.2 i false) := ⟨c0.1, fun j hj w p => by
            have p : upB y.1.2.2 i false j = false := p
            unfold upB at p
            by_cases q : j = i
            · exact Or.inl q
            · rw [if_neg q] at p
              rcases c0.2 j hj w p with r | r
              · omega
              · exact Or.inr r⟩
          have := cl_prI (f := x) hA hG hi ci z
          exact ⟨this.1, this.2 0 (hy c).2⟩
    · rw [if_neg c] at hc; exact absurd hc c
theorem fstP_none {p : Nat → Bool} : ∀ (k i : Nat), fstP p i k = none → ∀ j, i ≤ j → j < i + k → p j = false
  | 0, _, _, j, h1, h2 => absurd h2 (by omega)
  | k + 1, i, h, j, h1, h2 => by
    have h : (if p i = true then some i else fstP p (i + 1) k) = none := h
    by_cases c : p i = true
    · rw [if_pos c] at h; cases h
    · rw [if_neg c] at h
      by_cases e : j = i
      · rw [e]; simpa using c
      · exact fstP_none k (i + 1) h j (by omega) (by omega)
theorem aInf_tb {A : Enw} (hA : EI A) (hs : cst A.2.2 = true) : TbI A.2.2 (lft (aInf A)) ∧ ((aInf A).1.1 = 0 → (lft (aInf A) 0).isSome = true) := by
  unfold aInf
  by_cases c : (exam A).1 = 0
  · rw [if_pos c]
    have hG := exam_good c
    have h100 := hA.2.2.2.2.2.1
    have cl0 : Cl A.2.2 100 (ist0 A) := by
      refine ⟨fun j hj w => ?_, fun j hj w p => ?_⟩
      · have w : (upT (fun _ => none) 0 (aFst A) j).isSome = true := w
        unfold upT at w
        by_cases e : j = 0
        · rw [e]; exact good_cn hG
        · rw [if_neg e] at w; cases w
      · have p : upB (fun _ => false) 0 true j = false := p
        have w : (upT (fun _ => none) 0 (aFst A) j).isSome = true := w
        unfold upB at p
        unfold upT at w
        by_cases e : j = 0
        · rw [if_pos e] at p; cases p
        · rw [if_neg e] at w; cases w
    unfold lft
    by_cases k : (aRun A 600000 ((0, ist0 A), 0, -1)).1.1 = 0
    · rw [if_pos k]
      obtain ⟨r1, r2, r3⟩ := aRun_cl hA hs hG 600000 ((0, ist0 A), 0, -1) (inv_ist0 hA hs hG) (fun _ => ⟨cl0, rfl⟩) k
      refine ⟨Or.inr ⟨r2, good_cn hG, fun i hi w => ?_⟩, fun _ => r2⟩
      have np := fstP_none _ _ r3 i (Nat.zero_le _) (by omega)
      rcases r1.2 i (by omega) w np with q | q
      · omega
      · exact ⟨fun z => ⟨q.1 z, (jmp_x hG hA hi z).2, (jmp_x hG hA hi z).1⟩, fun h hh hp => ⟨q.2 h hh hp, (hOk_tgt ((good_all hG).2.1 h hh)).2, (hOk_tgt ((good_all hG).2.1 h hh)).1⟩⟩
    · rw [if_neg k]
      exact ⟨Or.inl (fun _ _ => rfl), fun z => absurd z k⟩
  · rw [if_neg c]
    unfold lft
    dsimp only
    rw [if_neg c]
    exact ⟨Or.inl (fun _ _ => rfl), fun z => absurd z c⟩
