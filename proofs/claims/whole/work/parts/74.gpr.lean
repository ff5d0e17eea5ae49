/-! an instruction processed: for both ways of flowing; the reference -/
section GP
variable {σ : Type}
def gHd (A : Enw) (fl : Fr → Nat → σ → Int32 × σ) (i : Nat) (f : Fr) : Nat → Nat → σ → Int32 × σ
  | _, 0, s => (0, s)
  | h, k + 1, s => if prot A.2.2 h i = true then (if cmost A.2.2 = 0 then (6, s) else if (fl (cauF A.2.2 h f) (tgt A.2.2 h) s).1 = 0 then gHd A fl i f (h + 1) k (fl (cauF A.2.2 h f) (tgt A.2.2 h) s).2 else (fl (cauF A.2.2 h f) (tgt A.2.2 h) s)) else gHd A fl i f (h + 1) k s
def gS1 (A : Enw) (nf : Fr → Nat → σ → Int32 × σ) (i : Nat) (f : Fr) (s : σ) : Int32 × σ := if fal (cop A.2.2 i) = true then (if i + 1 < cn A.2.2 then nf f (i + 1) s else (7, s)) else (0, s)
def gSu (A : Enw) (fl nf : Fr → Nat → σ → Int32 × σ) (i : Nat) (f : Fr) (s : σ) : Int32 × σ := if (gS1 A nf i f s).1 = 0 then (if jmp (cop A.2.2 i) = true then fl f (cx A.2.2 i).toNatClampNeg (gS1 A nf i f s).2 else gS1 A nf i f s) else gS1 A nf i f s
def gPr (A : Enw) (fl nf : Fr → Nat → σ → Int32 × σ) (i : Nat) (f : Fr) (s : σ) : Int32 × σ := if (gHd A fl i f 0 (chn A.2.2) s).1 = 0 then (if (aExec A i f).2 = 0 then gSu A fl nf i (aExec A i f).1 (gHd A fl i f 0 (chn A.2.2) s).2 else ((aExec A i f).2, (gHd A fl i f 0 (chn A.2.2) s).2)) else gHd A fl i f 0 (chn A.2.2) s
/-- how the reference's flows stand to the picture's -/
def RF1 (E : Ev) (m fu : Nat) (A : Enw) (Q : St → σ → Prop) (fl : Fr → Nat → σ → Int32 × σ) : Prop := ∀ (S : St) (s : σ) (y : Fr) (t aj : Nat), aj = 39 ∨ aj = 40 → VRe E S m A → Q S s → S.1 m 35 = 0 → VNj E S m aj y → WX A y → t < 100 → ∃ S', sp_X12_flow fu E S m (E.2 m aj) (n32 t) = some S' ∧ AgL E m [35, 36, 41] [28, 29, 42] S S' ∧ S'.1 m 35 = (fl y t s).1 ∧ 0 ≤ (fl y t s).1 ∧ S'.1 m 36 = (if (fl y t s).1 = 0 then S.1 m 36 else S.1 m 43) ∧ Q S' (fl y t s).2
def RF2 (E : Ev) (m fu : Nat) (A : Enw) (Q : St → σ → Prop) (nf : Fr → Nat → σ → Int32 × σ) : Prop := ∀ (S : St) (s : σ) (y : Fr) (t : Nat) (k : St → Option St), VRe E S m A → Q S s → S.1 m 35 = 0 → VN E S m y → WX A y → t < 100 → ∃ S', (if S.1 m 38 = 0 then ((sp_X12_merge fu E S m (E.2 m 39) (n32 t)).bind fun u => k u) else bnd (sF S m 41 1) fun u => k u) = k S' ∧ AgL E m [35, 36, 41] [28, 29, 42] S S' ∧ S'.1 m 35 = (nf y t s).1 ∧ 0 ≤ (nf y t s).1 ∧ S'.1 m 36 = (if (nf y t s).1 = 0 then S.1 m 36 else S.1 m 43) ∧ Q S' (nf y t s).2
def RF3 (E : Ev) (m : Nat) (Q : St → σ → Prop) : Prop := ∀ (S S' : St) (s : σ), Q S s → AgL E m [35, 36, 37, 43] [39, 40] S S' → Q S' s
/-- the reference, an instruction under way -/
def RR (E : Ev) (S : St) (m : Nat) (A : Enw) (Q : St → σ → Prop) (i : Nat) (r : Int32 × σ) : Prop := VRe E S m A ∧ S.1 m 43 = n32 i ∧ S.1 m 35 = r.1 ∧ 0 ≤ r.1 ∧ S.1 m 36 = (if r.1 = 0 then -1 else n32 i) ∧ Q S r.2
variable {E : Ev} {S : St} {m fu : Nat} {A : Enw} {Q : St → σ → Prop} {fl nf : Fr → Nat → σ → Int32 × σ}
theorem vn_ag (L : LR E m) {S S' : St} {fs rs : List Nat} {f : Fr} (v : VN E S m f) (h : AgL E m fs rs S S') (h1 : rs.all isA10 = true) (h2 : rs.contains 39 = false) : VN E S' m f := by
  have e := agl_a L h (j := 39) rfl h1 h2
  exact ⟨fun i hi => by rw [e]; exact v.1 i hi, fun i hi => by rw [e]; exact v.2.1 i hi, by rw [e]; exact v.2.2.1, by rw [e]; exact v.2.2.2⟩
theorem r_flwE {a : Nat} {x : Int32} (h : S.1 m 35 ≠ 0) : sp_X12_flow fu E S m a x = some S := by
  unfold sp_X12_flow
  rw [rx_well, Option.bind_some, show (S.1 m 35 == 0) = false from beq_eq_false_iff_ne.mpr h, b2_if, if_neg (by decide)]
theorem rr_flw (L : LR E m) (h1 : RF1 E m fu A Q fl) {i t aj : Nat} {r : Int32 × σ} {y : Fr} (haj : aj = 39 ∨ aj = 40) (v : RR E S m A Q i r) (vy : r.1 = 0 → VNj E S m aj y ∧ WX A y) (ht : t < 100) : ∃ S', sp_X12_flow fu E S m (E.2 m aj) (n32 t) = some S' ∧ AgL E m [35, 36, 41] [28, 29, 42] S S' ∧ RR E S' m A Q i (if r.1 = 0 then fl y t r.2 else r) := by
  by_cases c : r.1 = 0
  · rw [if_pos c]
    obtain ⟨S', e, a, r1, r2, r3, r4⟩ := h1 S r.2 y t aj haj v.1 v.2.2.2.2.2 (by rw [v.2.2.1]; exact c) (vy c).1 (vy c).2 ht
    have e36 := v.2.2.2.2.1
    rw [if_pos c] at e36
    exact ⟨S', e, a, vre_ag L v.1 (agl_mono a (by decide) (by decide)), by rw [agl_f a rfl]; exact v.2.1, r1, r2, by rw [r3, e36, v.2.1], r4⟩
  · rw [if_neg c, r_flwE (by rw [v.2.2.1]; exact c)]
    exact ⟨S, rfl, agl_refl, v⟩
theorem r_op (hA : EI A) (v : VRe E S m A) {i : Nat} (hi : i < cn A.2.2) : S.2.1 (E.2 m 20) i = n32 (cop A.2.2 i) ∧ S.2.1 (E.2 m 21) i = cx A.2.2 i := v.2.2.2.2.2.2.2.2.1 i hi
/-- the jump -/
theorem r_232 (L : LR E m) (hA : EI A) (hG : Good A) (h1 : RF1 E m fu A Q fl) {i : Nat} (hi : i < cn A.2.2) {r : Int32 × σ} {y : Fr} (v : RR E S m A Q i r) (vy : r.1 = 0 → VN E S m y ∧ WX A y) : ∃ S', jb_X12_process_232 fu E m (n32 i) S = some S' ∧ AgL E m [35, 36, 41] [28, 29, 42] S S' ∧ RR E S' m A Q i (if r.1 = 0 then (if jmp (cop A.2.2 i) = true then fl y (cx A.2.2 i).toNatClampNeg r.2 else r) else r) := by
  have h100 := hA.2.2.2.2.2.1
  have hop := hA.2.2.2.2.2.2.2.1 i hi
  have hin : inb (n32 i) 100 = true := by rw [z_inb (by omega)]; omega
  unfold jb_X12_process_232
  rw [if_pos hin, z_nat (show i < 2 ^ 31 by omega), (r_op hA v.1 hi).1, r_jmp hop, Option.bind_some, b2_if]
  dsimp only
  by_cases c : jmp (cop A.2.2 i) = true
  · have hx := jmp_x hG hA hi c
    rw [if_pos (show decide (22 ≤ cop A.2.2 i ∧ cop A.2.2 i ≤ 26) = true from c), if_pos c, if_pos hin, (r_op hA v.1 hi).2, hx.1, z_nat (show (cx A.2.2 i).toNatClampNeg < 2 ^ 31 by omega)]
    obtain ⟨S', e, a, k⟩ := rr_flw (t := (cx A.2.2 i).toNatClampNeg) L h1 (Or.inl rfl) v vy (by omega)
    rw [e]
    exact ⟨S', rfl, a, k⟩
  · rw [if_neg (show ¬ decide (22 ≤ cop A.2.2 i ∧ cop A.2.2 i ≤ 26) = true from c), if_neg c]
    refine ⟨S, rfl, agl_refl, ?_⟩
    rw [ite_self]; exact v
/-- what comes next -/
theorem r_167 (L : LR E m) (hA : EI A) (hG : Good A) (h1 : RF1 E m fu A Q fl) (h2 : RF2 E m fu A Q nf) (h3 : RF3 E m Q) {i : Nat} (hi : i < cn A.2.2) {r : Int32 × σ} {y : Fr} (v : RR E S m A Q i r) (vy : r.1 = 0 → VN E S m y ∧ WX A y) : ∃ S', jb_X12_process_167 fu E m (n32 i) S = some S' ∧ AgL E m [35, 36, 41] [28, 29, 42] S S' ∧ RR E S' m A Q i (if r.1 = 0 then gSu A fl nf i y r.2 else r) := by
  have h100 := hA.2.2.2.2.2.1
  have hop := hA.2.2.2.2.2.2.2.1 i hi
  have hin : inb (n32 i) 100 = true := by rw [z_inb (by omega)]; omega
  unfold jb_X12_process_167
  rw [rx_well, Option.bind_some, v.2.2.1, b2_if]
  dsimp only
  by_cases c : r.1 = 0
  · obtain ⟨vn, wy⟩ := vy c
    rw [if_pos (show (r.1 == 0) = true by rw [c]; rfl), if_pos c, if_pos hin, z_nat (show i < 2 ^ 31 by omega), (r_op hA v.1 hi).1]
    have ef : sp_X12_goesOn fu E S (n32 (cop A.2.2 i)) = some (b2 (fal (cop A.2.2 i)), S) := fal_ite hop
    rw [ef, Option.bind_some, b2_if]
    dsimp only
    -- then the jump
    have go : ∀ S1, RR E S1 m A Q i (gS1 A nf i y r.2) → VN E S1 m y → AgL E m [35, 36, 41] [28, 29, 42] S S1 → ∃ S', jb_X12_process_232 fu E m (n32 i) S1 = some S' ∧ AgL E m [35, 36, 41] [28, 29, 42] S S' ∧ RR E S' m A Q i (gSu A fl nf i y r.2) := by
      intro S1 v1 vn1 a1
      obtain ⟨S', e, a, k⟩ := r_232 L hA hG h1 hi v1 (fun _ => ⟨vn1, wy⟩)
      exact ⟨S', e, agl_trans a1 a, k⟩
    have e36 := v.2.2.2.2.1
    rw [if_pos c] at e36
    by_cases c1 : fal (cop A.2.2 i) = true
    · have cnn : S.1 m 19 = n32 (cn A.2.2) := v.1.2.2.2.2.2.2.1
      rw [if_pos c1, show n32 i + 1 = n32 (i + 1) from z_add i 1, cnn, zi_eq (by omega) (by omega)]
      by_cases c2 : i + 1 = cn A.2.2
      · rw [if_pos c2, rx_fail (by rw [v.2.2.1]; exact c), Option.bind_some]
        have a0 : AgL E m [35, 36] [] S (sF (sF S m 35 7) m 36 (n32 i)) := agl_trans (agl_sF (by decide)) (agl_sF (by decide))
        refine go _ ?_ (vn_ag L vn a0 rfl rfl) (agl_mono a0 (by decide) (by decide))
        have eg : gS1 A nf i y r.2 = (7, r.2) := by
          unfold gS1
          rw [if_pos c1, if_neg (by omega)]
        rw [eg]
        exact ⟨vre_ag L v.1 (agl_mono a0 (by decide) (by decide)), by rw [agl_f a0 rfl]; exact v.2.1, (up2_n _ _ (fun e => by simp at e)).trans (up2_s _ _), (show (0 : Int32) ≤ 7 by decide), (up2_s _ _).trans (if_neg (show ¬ (7 : Int32) = 0 by decide)).symm, h3 S _ r.2 v.2.2.2.2.2 (agl_mono a0 (by decide) (by decide))⟩
      · rw [if_neg c2]
        obtain ⟨S1, e, a, r1, r2, r3, r4⟩ := h2 S r.2 y (i + 1) (fun u => jb_X12_process_232 fu E m (n32 i) u) v.1 v.2.2.2.2.2 (by rw [v.2.2.1]; exact c) vn wy (by omega)
        rw [e]
        have eg : gS1 A nf i y r.2 = nf y (i + 1) r.2 := by
          unfold gS1
          rw [if_pos c1, if_pos (by omega)]
        refine go S1 ?_ (vn_ag L vn a rfl rfl) a
        rw [eg]
        exact ⟨vre_ag L v.1 (agl_mono a (by decide) (by decide)), by rw [agl_f a rfl]; exact v.2.1, r1, r2, by rw [r3, e36, v.2.1], r4⟩
    · rw [if_neg c1]
      refine go S ?_ vn agl_refl
      have eg : gS1 A nf i y r.2 = r := by
        unfold gS1
        rw [if_neg c1, ← c]
      rw [eg]; exact v
  · rw [if_neg (show ¬ (r.1 == 0) = true by rw [beq_iff_eq]; exact c), if_neg c]
    obtain ⟨S', e, a, k⟩ := r_232 (y := y) L hA hG h1 hi v (fun z => absurd z c)
    rw [if_neg c] at k
    exact ⟨S', e, a, k⟩
/-- the frame of a handler -/
theorem r_asdL (L : LR E m) {A : Enw} {i h : Nat} {f : Fr} (h10 : chn A.2.2 ≤ 10) (hh : h < chn A.2.2) (rc : Int32 → Int32 → St → Option St) : ∀ (j q F : Nat) (S : St), q + j = 26 → j + 1 ≤ F → VRe E S m A → VN E S m f → (∀ z, z < q → S.2.1 (E.2 m 40) z = (if z < 12 ∨ 24 ≤ z then S.2.1 (E.2 m 39) z else -2)) → ∃ S', lp_X12_process_71 fu E m rc F (n32 i) (n32 h) (n32 q) S = ((sp_X12_flow fu E S' m (E.2 m 40) (cht A.2.2 h)).bind fun u => rc (n32 i) (n32 (h + 1)) u) ∧ VNj E S' m 40 (cauF A.2.2 h f) ∧ AgL E m [] [40] S S' := by
  have n1 : E.2 m 39 ≠ E.2 m 40 := lr_ne L rfl rfl (by decide)
  have n2 : E.2 m 26 ≠ E.2 m 40 := lr_ne L rfl rfl (by decide)
  have n3 : E.2 m 25 ≠ E.2 m 40 := lr_ne L rfl rfl (by decide)
  have hinh : inb (n32 h) 10 = true := by rw [z_inb (by omega)]; omega
  intro j
  induction j with
  | zero =>
    intro q F S hq hF v vn hz
    obtain ⟨F, rfl⟩ : ∃ z, F = z + 1 := ⟨F - 1, by omega⟩
    show ∃ S', bd_X12_process_71 fu E m rc _ (n32 i) (n32 h) (n32 q) S = _ ∧ _
    unfold bd_X12_process_71 bnd
    dsimp only
    have vh := v.2.2.2.2.2.2.2.2.2 h hh
    rw [show (26 : Int32) = n32 26 from rfl, zi_le (by decide) (by omega), if_pos (by omega), if_pos hinh, if_pos hinh, z_nat (show h < 2 ^ 31 by omega), show n32 h + 1 = n32 (h + 1) from z_add h 1, vh.2.2.2, show (8 : Int32) * n32 (chc A.2.2 h) = n32 (8 * chc A.2.2 h) from z_mul 8 _]
    have e25 : (sG (sG S (E.2 m 40) ((12 : Int32).toNatClampNeg) (n32 (8 * chc A.2.2 h))) (E.2 m 40) ((24 : Int32).toNatClampNeg) 1).2.1 (E.2 m 25) h = cht A.2.2 h := (up2_n _ _ (fun e => n3 e.1)).trans ((up2_n _ _ (fun e => n3 e.1)).trans vh.2.2.1)
    rw [e25]
    refine ⟨_, rfl, ⟨fun z hz2 => ?_, fun z hz2 => ?_, up2_s _ _, ?_⟩, agl_trans (agl_sG (by decide)) (agl_sG (by decide))⟩
    · refine (up2_n _ _ (fun e => ?_)).trans ((up2_n _ _ (fun e => ?_)).trans ((hz z (by omega)).trans ((if_pos (Or.inl hz2)).trans (vn.1 z hz2))))
      · have e2 : z = 24 := e.2
        omega
      · have e2 : z = 12 := e.2
        omega
    · have hz2 : z < 1 := hz2
      have : z = 0 := by omega
      subst this
      exact (up2_n _ _ (fun e => by have e2 : 12 = 24 := e.2; omega)).trans (up2_s _ _)
    · refine (up2_n _ _ (fun e => ?_)).trans ((up2_n _ _ (fun e => ?_)).trans ((hz 25 (by omega)).trans ((if_pos (Or.inr (by decide))).trans vn.2.2.2)))
      · have e2 : 25 = 24 := e.2
        omega
      · have e2 : 25 = 12 := e.2
        omega
  | succ j ih =>
    intro q F S hq hF v vn hz
    obtain ⟨F, rfl⟩ : ∃ z, F = z + 1 := ⟨F - 1, by omega⟩
    have hinq : inb (n32 q) 26 = true := by rw [z_inb (by omega)]; omega
    show ∃ S', bd_X12_process_71 fu E m rc (lp_X12_process_71 fu E m rc F) (n32 i) (n32 h) (n32 q) S = _ ∧ _
    unfold bd_X12_process_71 jb_X12_process_99 bnd
    dsimp only
    rw [show (26 : Int32) = n32 26 from rfl, zi_le (by decide) (by omega), if_neg (by omega), show (12 : Int32) = n32 12 from rfl, zi_lt (by omega) (by decide), show (24 : Int32) = n32 24 from rfl, zi_le (by decide) (by omega), z_nat (show q < 2 ^ 31 by omega), show n32 q + 1 = n32 (q + 1) from z_add q 1]
    simp only [hinq, if_true]
    have step : ∀ w : Int32, w = (if q < 12 ∨ 24 ≤ q then S.2.1 (E.2 m 39) q else -2) → ∃ S', lp_X12_process_71 fu E m rc F (n32 i) (n32 h) (n32 (q + 1)) (sG S (E.2 m 40) q w) = ((sp_X12_flow fu E S' m (E.2 m 40) (cht A.2.2 h)).bind fun u => rc (n32 i) (n32 (h + 1)) u) ∧ VNj E S' m 40 (cauF A.2.2 h f) ∧ AgL E m [] [40] S S' := by
      intro w hw
      have a1 : AgL E m [] [40] S (sG S (E.2 m 40) q w) := agl_sG (by decide)
      have f39 : ∀ z, (sG S (E.2 m 40) q w).2.1 (E.2 m 39) z = S.2.1 (E.2 m 39) z := fun z => up2_n _ _ (fun e => n1 e.1)
      obtain ⟨S', e, r, a⟩ := ih (q + 1) F _ (by omega) (by omega) (vre_ag L v (agl_mono a1 (fun _ z => absurd z List.not_mem_nil) (by decide))) (vn_ag L vn a1 rfl rfl) (fun z hz2 => by
        rw [f39]
        show up2 S.2.1 (E.2 m 40) q w (E.2 m 40) z = _
        by_cases e : z = q
        · rw [e, up2_s]; exact hw
        · rw [up2_n _ _ (fun u => e u.2)]; exact hz z (by omega))
      exact ⟨S', e, r, agl_trans a1 a⟩
    by_cases c1 : q < 12
    · rw [if_pos c1]; exact step _ (if_pos (Or.inl c1)).symm
    · rw [if_neg c1]
      by_cases c2 : 24 ≤ q
      · rw [if_pos c2]; exact step _ (if_pos (Or.inr c2)).symm
      · rw [if_neg c2]; exact step _ (if_neg (fun z => z.elim c1 c2)).symm
end GP
