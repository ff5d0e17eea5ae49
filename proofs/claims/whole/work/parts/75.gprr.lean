/-! the reference processes an instruction, whole -/
section GQ
variable {σ : Type} {E : Ev} {S : St} {m fu : Nat} {A : Enw} {Q : St → σ → Prop} {fl nf : Fr → Nat → σ → Int32 × σ}
def gEnd (A : Enw) (fl nf : Fr → Nat → σ → Int32 × σ) (i : Nat) (f : Fr) (r : Int32 × σ) : Int32 × σ := if r.1 = 0 then (if (aExec A i f).2 = 0 then gSu A fl nf i (aExec A i f).1 r.2 else ((aExec A i f).2, r.2)) else r
theorem r_endE (v : S.1 m 35 ≠ 0) {F i : Nat} {x : Int32} : lp_X12_process_17 fu E m (F + 1) (n32 i) x S = jb_X12_process_167 fu E m (n32 i) S := by
  show bd_X12_process_17 fu E m _ (n32 i) x S = _
  have w : (S.1 m 35 == 0) = false := beq_eq_false_iff_ne.mpr v
  unfold bd_X12_process_17
  by_cases c : S.1 m 22 ≤ x
  · rw [if_pos c, rx_well, Option.bind_some, w]; rfl
  · rw [if_neg c, rx_well, Option.bind_some, w]
    dsimp only
    rw [if_pos (show b2 false = 0 from rfl), rx_well, Option.bind_some, w]; rfl
theorem r_end (L : LR E m) (hA : EI A) (hs : cst A.2.2 = true) (hG : Good A) (hfu : 200 ≤ fu) (h1 : RF1 E m fu A Q fl) (h2 : RF2 E m fu A Q nf) (h3 : RF3 E m Q) {i : Nat} (hi : i < cn A.2.2) {f : Fr} (wf : WX A f) {s : σ} (v : RR E S m A Q i (0, s)) (vn : VN E S m f) : ∃ S', ((sp_X12_execute fu E S m).bind fun u => jb_X12_process_167 fu E m (n32 i) u) = some S' ∧ AgL E m [35, 36, 41] [28, 29, 39, 42] S S' ∧ RR E S' m A Q i (gEnd A fl nf i f (0, s)) ∧ ((gEnd A fl nf i f (0, s)).1 = 0 → VN E S' m (aExec A i f).1) := by
  have hx := okX_of (hA.2.2.2.2.2.2.2.1 i hi) ((good_all hG).1 i hi)
  obtain ⟨S1, e1, z1, a1⟩ := ri_exec (fu := fu) (S := S) (m := m) (f := f) (by omega) L hA hs hi hx (prL_S.mpr wf.2.1) wf.2.2.1 (fun z => (wx_exec hA hs hi hx wf z).2.2.2.1) ⟨v.1, v.2.1, fun _ => ⟨v.2.2.1, Int32.le_refl _⟩, fun _ => ⟨vn, wf.1⟩, fun z => absurd z (show ¬ (0 : Int32) = 6 by decide), v.2.2.2.2.1.trans (by rw [if_pos rfl, if_pos (Or.inl rfl)])⟩
  rw [e1, Option.bind_some]
  have v1 : RR E S1 m A Q i ((aExec A i f).2, s) := ⟨z1.1, z1.2.1, z1.2.2.1, z1.2.2.2.1, z1.2.2.2.2.2, h3 S S1 s v.2.2.2.2.2 (agl_mono a1 (by decide) (by decide))⟩
  obtain ⟨S2, e2, a2, k2⟩ := r_167 (y := (aExec A i f).1) L hA hG h1 h2 h3 hi v1 (fun z => ⟨(z1.2.2.2.2.1 z).1, wx_exec hA hs hi hx wf z⟩)
  refine ⟨S2, e2, agl_trans (agl_mono a1 (by decide) (by decide)) (agl_mono a2 (by decide) (by decide)), ?_, fun z => ?_⟩
  · unfold gEnd
    rw [if_pos rfl]
    exact k2
  · unfold gEnd at z
    rw [if_pos rfl] at z
    by_cases c : (aExec A i f).2 = 0
    · exact vn_ag L (z1.2.2.2.2.1 c).1 a2 rfl rfl
    · rw [if_neg c] at z
      exact absurd z c
theorem r_17 (L : LR E m) (hA : EI A) (hs : cst A.2.2 = true) (hG : Good A) (hfu : 200 ≤ fu) (h1 : RF1 E m fu A Q fl) (h2 : RF2 E m fu A Q nf) (h3 : RF3 E m Q) {i : Nat} (hi : i < cn A.2.2) {f : Fr} (wf : WX A f) : ∀ (k h F : Nat) (S : St) (s : σ), h + k = chn A.2.2 → k + 1 ≤ F → RR E S m A Q i (0, s) → VN E S m f → ∃ S', lp_X12_process_17 fu E m F (n32 i) (n32 h) S = some S' ∧ AgL E m [35, 36, 41] [28, 29, 39, 40, 42] S S' ∧ RR E S' m A Q i (gEnd A fl nf i f (gHd A fl i f h k s)) ∧ ((gEnd A fl nf i f (gHd A fl i f h k s)).1 = 0 → VN E S' m (aExec A i f).1) := by
  have h100 := hA.2.2.2.2.2.1
  have h10 := hA.2.2.2.2.2.2.1
  have hmx := hA.2.2.2.1
  intro k
  induction k with
  | zero =>
    intro h F S s hk hF v vn
    obtain ⟨F, rfl⟩ : ∃ z, F = z + 1 := ⟨F - 1, by omega⟩
    show ∃ S', bd_X12_process_17 fu E m _ (n32 i) (n32 h) S = some S' ∧ _ ∧ RR E S' m A Q i (gEnd A fl nf i f (0, s)) ∧ ((gEnd A fl nf i f (0, s)).1 = 0 → VN E S' m (aExec A i f).1)
    have chn0 : S.1 m 22 = n32 (chn A.2.2) := v.1.2.2.2.2.2.2.2.1
    unfold bd_X12_process_17
    rw [chn0, zi_le (by omega) (by omega), if_pos (by omega), rx_well, Option.bind_some, v.2.2.1, b2_if]
    dsimp only
    rw [if_pos (show ((0 : Int32) == 0) = true from rfl)]
    obtain ⟨S', e, a, r⟩ := r_end L hA hs hG hfu h1 h2 h3 hi wf v vn
    exact ⟨S', e, agl_mono a (by decide) (by decide), r⟩
  | succ k ih =>
    intro h F S s hk hF v vn
    obtain ⟨F, rfl⟩ : ∃ z, F = z + 1 := ⟨F - 1, by omega⟩
    have hh : h < chn A.2.2 := by omega
    have hin : inb (n32 h) 10 = true := by rw [z_inb (by omega)]; omega
    have chn0 : S.1 m 22 = n32 (chn A.2.2) := v.1.2.2.2.2.2.2.2.1
    have vh := v.1.2.2.2.2.2.2.2.2.2 h hh
    have most : S.1 m 17 = n32 (cmost A.2.2) := v.1.2.2.2.2.1
    have ht := hOk_tgt ((good_all hG).2.1 h hh)
    have go : gHd A fl i f h (k + 1) s = (if prot A.2.2 h i = true then (if cmost A.2.2 = 0 then (6, s) else if (fl (cauF A.2.2 h f) (tgt A.2.2 h) s).1 = 0 then gHd A fl i f (h + 1) k (fl (cauF A.2.2 h f) (tgt A.2.2 h) s).2 else (fl (cauF A.2.2 h f) (tgt A.2.2 h) s)) else gHd A fl i f (h + 1) k s) := rfl
    rw [go]
    show ∃ S', bd_X12_process_17 fu E m (lp_X12_process_17 fu E m F) (n32 i) (n32 h) S = some S' ∧ _
    unfold bd_X12_process_17
    rw [chn0, zi_le (by omega) (by omega), if_neg (by omega), rx_well, Option.bind_some, v.2.2.1, b2_if]
    dsimp only
    rw [if_pos (show ((0 : Int32) == 0) = true from rfl), if_pos hin, if_pos hin, z_nat (show h < 2 ^ 31 by omega), vh.1, vh.2.1, show n32 h + 1 = n32 (h + 1) from z_add h 1]
    have skip : prot A.2.2 h i = false → ∃ S', lp_X12_process_17 fu E m F (n32 i) (n32 (h + 1)) S = some S' ∧ AgL E m [35, 36, 41] [28, 29, 39, 40, 42] S S' ∧ RR E S' m A Q i (gEnd A fl nf i f (if prot A.2.2 h i = true then (if cmost A.2.2 = 0 then (6, s) else if (fl (cauF A.2.2 h f) (tgt A.2.2 h) s).1 = 0 then gHd A fl i f (h + 1) k (fl (cauF A.2.2 h f) (tgt A.2.2 h) s).2 else (fl (cauF A.2.2 h f) (tgt A.2.2 h) s)) else gHd A fl i f (h + 1) k s)) ∧ ((gEnd A fl nf i f (if prot A.2.2 h i = true then (if cmost A.2.2 = 0 then (6, s) else if (fl (cauF A.2.2 h f) (tgt A.2.2 h) s).1 = 0 then gHd A fl i f (h + 1) k (fl (cauF A.2.2 h f) (tgt A.2.2 h) s).2 else (fl (cauF A.2.2 h f) (tgt A.2.2 h) s)) else gHd A fl i f (h + 1) k s)).1 = 0 → VN E S' m (aExec A i f).1) := by
      intro hp
      rw [hp, if_neg (by decide)]
      exact ih (h + 1) F S s (by omega) (by omega) v vn
    -- the rest, once it has failed
    have fin : ∀ (S1 : St) (r : Int32 × σ), RR E S1 m A Q i r → r.1 ≠ 0 → AgL E m [35, 36, 41] [28, 29, 39, 40, 42] S S1 → ∃ S', lp_X12_process_17 fu E m F (n32 i) (n32 (h + 1)) S1 = some S' ∧ AgL E m [35, 36, 41] [28, 29, 39, 40, 42] S S' ∧ RR E S' m A Q i (gEnd A fl nf i f r) ∧ ((gEnd A fl nf i f r).1 = 0 → VN E S' m (aExec A i f).1) := by
      intro S1 r v1 hr a1
      obtain ⟨F, rfl⟩ : ∃ z, F = z + 1 := ⟨F - 1, by omega⟩
      rw [r_endE (by rw [v1.2.2.1]; exact hr)]
      obtain ⟨S', e, a, k⟩ := r_167 (y := f) L hA hG h1 h2 h3 hi v1 (fun z => absurd z hr)
      unfold gEnd
      rw [if_neg hr]
      rw [if_neg hr] at k
      exact ⟨S', e, agl_trans a1 (agl_mono a (by decide) (by decide)), k, fun z => absurd z hr⟩
    by_cases c1 : chs A.2.2 h ≤ n32 i
    · rw [if_neg (Int32.not_lt.mpr c1)]
      by_cases c2 : che A.2.2 h ≤ n32 i
      · rw [if_neg (Int32.not_lt.mpr c2)]
        exact skip (by unfold prot; rw [decide_eq_true c2, Bool.not_true, Bool.and_false])
      · have hp : prot A.2.2 h i = true := by
          unfold prot
          rw [decide_eq_true c1, decide_eq_false c2]; rfl
        rw [if_pos (Int32.not_le.mp c2), most, show (0 : Int32) = n32 0 from rfl, zi_eq (by omega) (by decide), hp, if_pos rfl, show n32 0 = (0 : Int32) from rfl]
        by_cases c3 : cmost A.2.2 = 0
        · rw [if_pos c3, if_pos c3, rx_fail v.2.2.1, Option.bind_some]
          have a0 : AgL E m [35, 36] [] S (sF (sF S m 35 6) m 36 (n32 i)) := agl_trans (agl_sF (by decide)) (agl_sF (by decide))
          have ve0 := vre_ag L v.1 (agl_mono a0 (by decide) (by decide))
          obtain ⟨S1, e1, vy, a1⟩ := r_asdL (fu := fu) (i := i) L h10 hh (lp_X12_process_17 fu E m F) 26 0 fu (sF (sF S m 35 6) m 36 (n32 i)) rfl (by omega) ve0 (vn_ag L vn a0 rfl rfl) (fun z hz => absurd hz (Nat.not_lt_zero z))
          have e1 : lp_X12_process_71 fu E m (lp_X12_process_17 fu E m F) fu (n32 i) (n32 h) 0 (sF (sF S m 35 6) m 36 (n32 i)) = _ := e1
          have e35 : S1.1 m 35 = 6 := by
            rw [agl_f a1 rfl]
            exact (up2_n _ _ (fun e => by simp at e)).trans (up2_s _ _)
          rw [e1, r_flwE (by rw [e35]; decide), Option.bind_some]
          refine fin S1 (6, s) ⟨vre_ag L ve0 (agl_mono a1 (fun _ z => absurd z List.not_mem_nil) (by decide)), ?_, e35, (show (0 : Int32) ≤ 6 by decide), ?_, h3 S S1 s v.2.2.2.2.2 (agl_trans (agl_mono a0 (by decide) (by decide)) (agl_mono a1 (fun _ z => absurd z List.not_mem_nil) (by decide)))⟩ (show ¬ (6 : Int32) = 0 by decide) (agl_trans (agl_mono a0 (by decide) (by decide)) (agl_mono a1 (fun _ z => absurd z List.not_mem_nil) (by decide)))
          · rw [agl_f a1 rfl, agl_f a0 rfl]; exact v.2.1
          · rw [agl_f a1 rfl]
            exact (up2_s _ _).trans (if_neg (show ¬ (6 : Int32) = 0 by decide)).symm
        · rw [if_neg c3, if_neg c3]
          obtain ⟨S1, e1, vy, a1⟩ := r_asdL (fu := fu) (i := i) L h10 hh (lp_X12_process_17 fu E m F) 26 0 fu S rfl (by omega) v.1 vn (fun z hz => absurd hz (Nat.not_lt_zero z))
          have e1 : lp_X12_process_71 fu E m (lp_X12_process_17 fu E m F) fu (n32 i) (n32 h) 0 S = _ := e1
          have a1' : AgL E m [35, 36, 41] [28, 29, 39, 40, 42] S S1 := agl_mono a1 (fun _ z => absurd z List.not_mem_nil) (by decide)
          have v1 : RR E S1 m A Q i (0, s) := ⟨vre_ag L v.1 (agl_mono a1 (fun _ z => absurd z List.not_mem_nil) (by decide)), by rw [agl_f a1 rfl]; exact v.2.1, by rw [agl_f a1 rfl]; exact v.2.2.1, v.2.2.2.1, by rw [agl_f a1 rfl]; exact v.2.2.2.2.1, h3 S S1 s v.2.2.2.2.2 (agl_mono a1 (fun _ z => absurd z List.not_mem_nil) (by decide))⟩
          obtain ⟨S2, e2, a2, v2⟩ := rr_flw (r := (0, s)) (t := tgt A.2.2 h) (aj := 40) L h1 (Or.inr rfl) v1 (fun _ => ⟨vy, wx_cau hA wf hh c3⟩) (by omega)
          have a2' : AgL E m [35, 36, 41] [28, 29, 39, 40, 42] S S2 := agl_trans a1' (agl_mono a2 (by decide) (by decide))
          rw [e1, ht.1, e2, Option.bind_some]
          have v2 : RR E S2 m A Q i (fl (cauF A.2.2 h f) (tgt A.2.2 h) s) := by
            rw [if_pos rfl] at v2; exact v2
          by_cases c4 : (fl (cauF A.2.2 h f) (tgt A.2.2 h) s).1 = 0
          · rw [if_pos c4]
            have e : fl (cauF A.2.2 h f) (tgt A.2.2 h) s = (0, (fl (cauF A.2.2 h f) (tgt A.2.2 h) s).2) := by rw [← c4]
            rw [e] at v2
            obtain ⟨S3, e3, a3, k3⟩ := ih (h + 1) F S2 _ (by omega) (by omega) v2 (vn_ag L (vn_ag L vn a1 rfl rfl) a2 rfl rfl)
            exact ⟨S3, e3, agl_trans a2' a3, k3⟩
          · rw [if_neg c4]
            exact fin S2 _ v2 c4 a2'
    · rw [if_pos (Int32.not_le.mp c1)]
      exact skip (by unfold prot; rw [decide_eq_false c1]; rfl)
theorem r_pr (L : LR E m) (hA : EI A) (hs : cst A.2.2 = true) (hG : Good A) (hfu : 200 ≤ fu) (h1 : RF1 E m fu A Q fl) (h2 : RF2 E m fu A Q nf) (h3 : RF3 E m Q) {i : Nat} (hi : i < cn A.2.2) {f : Fr} (wf : WX A f) {s : σ} (v : VRe E S m A) (vn : VN E S m f) (q : Q S s) (h35 : S.1 m 35 = 0) (h36 : S.1 m 36 = -1) : ∃ S', sp_X12_process fu E S m (n32 i) = some S' ∧ AgL E m [35, 36, 37, 41, 43] [28, 29, 39, 40, 42] S S' ∧ RR E S' m A Q i (gPr A fl nf i f s) ∧ S'.1 m 37 = S.1 m 37 + 1 ∧ ((gPr A fl nf i f s).1 = 0 → VN E S' m (aExec A i f).1) := by
  have h10 := hA.2.2.2.2.2.2.1
  unfold sp_X12_process bnd
  dsimp only
  have a0 : AgL E m [37, 43] [] S (sF (sF S m 43 (n32 i)) m 37 ((sF S m 43 (n32 i)).1 m 37 + 1)) := agl_trans (agl_sF (by decide)) (agl_sF (by decide))
  have e37 : (sF (sF S m 43 (n32 i)) m 37 ((sF S m 43 (n32 i)).1 m 37 + 1)).1 m 37 = S.1 m 37 + 1 := (up2_s _ _).trans (by rw [show (sF S m 43 (n32 i)).1 m 37 = S.1 m 37 from up2_n _ _ (fun e => by simp at e)])
  have e43 : (sF (sF S m 43 (n32 i)) m 37 ((sF S m 43 (n32 i)).1 m 37 + 1)).1 m 43 = n32 i := (up2_n _ _ (fun e => by simp at e)).trans (up2_s _ _)
  generalize sF (sF S m 43 (n32 i)) m 37 ((sF S m 43 (n32 i)).1 m 37 + 1) = S1 at a0 e37 e43 ⊢
  have v1 : RR E S1 m A Q i (0, s) := ⟨vre_ag L v (agl_mono a0 (by decide) (by decide)), e43, by rw [agl_f a0 rfl]; exact h35, Int32.le_refl _, by rw [agl_f a0 rfl, if_pos rfl]; exact h36, h3 S S1 s q (agl_mono a0 (by decide) (by decide))⟩
  obtain ⟨S', e, a, k, kn⟩ := r_17 L hA hs hG hfu h1 h2 h3 hi wf (chn A.2.2) 0 fu S1 s (by omega) (by omega) v1 (vn_ag L vn a0 rfl rfl)
  have e : lp_X12_process_17 fu E m fu (n32 i) 0 S1 = some S' := e
  exact ⟨S', e, agl_trans (agl_mono a0 (by decide) (by decide)) (agl_mono a (by decide) (by decide)), k, by rw [agl_f a rfl]; exact e37, kn⟩
end GQ
