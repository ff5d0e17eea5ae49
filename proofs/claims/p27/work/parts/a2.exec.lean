/-! the law's environment, its instructions one by one -/
def z8 : Zs := zBg (zMt (zMt (zMt (zPm (zPm (zCl (zCl z00 2 false) 3 false) 0) 24) 2 1 (-1)) 3 2 (-1)) 4 2 (-1)) 0 4 3
def b0 : Mb := z8.1.2.1
/-- an instruction of the law's code -/
def LwO (n op : Nat) (x : Int32) : Prop := (op = 1 ∨ op = 2 ∨ op = 3 ∨ op = 10 ∨ op = 12 ∨ op = 30) ∨ ((op = 4 ∨ op = 6 ∨ op = 7 ∨ op = 9) ∧ ∃ k, k < 3 ∧ x = n32 k) ∨ ((op = 22 ∨ op = 23 ∨ op = 25) ∧ ∃ t, t < n ∧ x = n32 t) ∨ (op = 34 ∧ (x = 3 ∨ x = 4)) ∨ (op = 35 ∧ (x = 1 ∨ x = 2)) ∨ (op = 44 ∧ (x = 16 ∨ x = 24 ∨ x = 32))
def LW (A : Enw) : Prop := (A.1 = d0 ∧ A.2.1 = b0) ∧ (cst A.2.2 = true ∧ cme A.2.2 = 0 ∧ cmost A.2.2 = 4 ∧ cloc A.2.2 = 3) ∧ (3 ≤ cn A.2.2 ∧ cn A.2.2 ≤ 12 ∧ (∀ i, i < cn A.2.2 → LwO (cn A.2.2) (cop A.2.2 i) (cx A.2.2 i)) ∧ cop A.2.2 (cn A.2.2 - 1) = 30) ∧ chn A.2.2 ≤ 1 ∧ ∀ h, h < chn A.2.2 → hBase A.2.2 h = true ∧ chc A.2.2 h = 3
section EXE
variable {A : Enw} {i : Nat} {f g : Fr}
theorem ex_1 (h : cop A.2.2 i = 1) : aExec A i f = aPush (cmost A.2.2) 0 (f, 0) := by unfold aExec; dsimp only; rw [h]; rfl
theorem ex_2 (h : cop A.2.2 i = 2) : aExec A i f = aPush (cmost A.2.2) (-3) (aPush (cmost A.2.2) 8 (f, 0)) := by unfold aExec; dsimp only; rw [h]; rfl
theorem ex_3 (h : cop A.2.2 i = 3) : aExec A i f = aPush (cmost A.2.2) (-1) (f, 0) := by unfold aExec; dsimp only; rw [h]; rfl
theorem ex_4 (h : cop A.2.2 i = 4) : aExec A i f = aPush (cmost A.2.2) 0 (aReq (f.1 (cx A.2.2 i).toNatClampNeg == 0) 5 (f, 0)) := by unfold aExec; dsimp only; rw [h]; rfl
theorem ex_6 (h : cop A.2.2 i = 6) : aExec A i f = aPush (cmost A.2.2) (f.1 (cx A.2.2 i).toNatClampNeg) (aReq (anyR (f.1 (cx A.2.2 i).toNatClampNeg)) 5 (f, 0)) := by unfold aExec; dsimp only; rw [h]; rfl
theorem ex_7 (h : cop A.2.2 i = 7) : aExec A i f = aStore (cx A.2.2 i).toNatClampNeg 0 (aPopT A.1 0 (f, 0)) := by unfold aExec; dsimp only; rw [h]; rfl
theorem ex_9 (h : cop A.2.2 i = 9) : aExec A i f = aStore (cx A.2.2 i).toNatClampNeg (aPopC anyR (f, 0)).1 (aPopC anyR (f, 0)).2 := by unfold aExec; dsimp only; rw [h]; rfl
theorem ex_10 (h : cop A.2.2 i = 10) : aExec A i f = (aPopC whole (f, 0)).2 := by unfold aExec; dsimp only; rw [h]; rfl
theorem ex_12 (h : cop A.2.2 i = 12) : aExec A i f = aPush (cmost A.2.2) (aPopC whole (f, 0)).1 (aPush (cmost A.2.2) (aPopC whole (f, 0)).1 (aPopC whole (f, 0)).2) := by unfold aExec; dsimp only; rw [h]; rfl
theorem ex_22 (h : cop A.2.2 i = 22) : aExec A i f = (f, 0) := by unfold aExec; dsimp only; rw [h]; rfl
theorem ex_23 (h : cop A.2.2 i = 23) : aExec A i f = aPopT A.1 0 (f, 0) := by unfold aExec; dsimp only; rw [h]; rfl
theorem ex_25 (h : cop A.2.2 i = 25) : aExec A i f = (aPopC anyR (f, 0)).2 := by unfold aExec; dsimp only; rw [h]; rfl
theorem ex_30 (h : cop A.2.2 i = 30) : aExec A i f = aReq (mres A.2.1 (cme A.2.2) == -1 && !f.2.2.2) 9 (f, 0) := by unfold aExec; dsimp only; rw [h]; rfl
theorem ex_34 (h : cop A.2.2 i = 34) : aExec A i f = aNew A (-10 - n32 i) (f, 0) := by unfold aExec; dsimp only; rw [h]; rfl
theorem ex_35 (h : cop A.2.2 i = 35) : aExec A i f = aInit A (mown A.2.1 (cx A.2.2 i).toNatClampNeg) (aPars A.1 (mpty A.2.1 (cx A.2.2 i).toNatClampNeg) (mpcn A.2.1 (cx A.2.2 i).toNatClampNeg) (f, 0)) := by unfold aExec; dsimp only; rw [h]; rfl
theorem ex_44 (h : cop A.2.2 i = 44) : aExec A i f = aPush (cmost A.2.2) (cx A.2.2 i) (aPopC rfV (f, 0)).2 := by unfold aExec; dsimp only; rw [h]; rfl
theorem u_new (hi : i < 100) : -10 - n32 i ≤ -10 := by
  have h : ∀ j : Fin 100, (-10 : Int32) - Int32.ofNat j.1 ≤ -10 := by decide
  exact h ⟨i, hi⟩
theorem ex_rv (hA : LW A) (hi : i < cn A.2.2) (h : RV (g, 0) (f, 0)) : RV (aExec A i g) (aExec A i f) := by
  obtain ⟨⟨hd, hb⟩, -, ⟨-, h12, hO, -⟩, -⟩ := hA
  have hs := h rfl
  rcases hO i hi with (c | c | c | c | c | c) | ⟨c, k, hk, ex⟩ | ⟨c | c | c, -⟩ | ⟨c, -⟩ | ⟨c, ex⟩ | ⟨c, ex⟩
  · rw [ex_1 c, ex_1 c]
    exact rv_push h (fun _ => ⟨fL_r 0, Or.inl rfl, Or.inl rfl⟩)
  · rw [ex_2 c, ex_2 c]
    exact rv_push (rv_push h (fun _ => ⟨fL_r 8, by simp [vSt], by simp [vSt]⟩)) (fun _ => ⟨fL_r _, by simp [vSt], by simp [vSt]⟩)
  · rw [ex_3 c, ex_3 c]
    exact rv_push h (fun _ => ⟨fL_r _, by simp [vSt], by simp [vSt]⟩)
  · rw [ex_10 c, ex_10 c]
    exact (rv_popC (fun v w => fL_who) h).1
  · rw [ex_12 c, ex_12 c]
    obtain ⟨h1, h2⟩ := rv_popC (c := whole) (fun v w => fL_who) h
    have p1 := rv_push (mx := cmost A.2.2) (v := (aPopC whole (g, 0)).1) (w := (aPopC whole (f, 0)).1) h1 (fun e => ⟨(h2 e).1, (h2 e).2.1.1, (h2 e).2.2.1⟩)
    refine rv_push p1 (fun e => ?_)
    have e0 : (aPopC whole (f, 0)).2.2 = 0 := by
      by_cases q : (aPopC whole (f, 0)).2.2 = 0
      · exact q
      · unfold aPush at e
        rw [if_pos q] at e
        exact e
    exact ⟨(h2 e0).1, (h2 e0).2.1.1, (h2 e0).2.2.1⟩
  · rw [ex_30 c, ex_30 c]
    refine rv_req (by decide) h (fun _ q => ?_)
    rw [hs.2.2.1.2.2]
    rw [hs.2.2.2.2.2] at q
    exact q
  · have tk : (cx A.2.2 i).toNatClampNeg = k := by rw [ex]; exact z_nat (by omega)
    have lf := hs.2.1.2.1 k (by omega)
    have l1 := hs.2.2.1.1 k (by omega)
    have l2 := hs.2.2.2.1 k (by omega)
    rcases c with c | c | c | c
    · rw [ex_4 c, ex_4 c, tk]
      refine rv_push (rv_req (by decide) h (fun _ q => ?_)) (fun _ => ⟨fL_r 0, Or.inl rfl, Or.inl rfl⟩)
      rw [beq_iff_eq] at q ⊢
      rw [q] at lf
      exact fL_0 lf
    · rw [ex_6 c, ex_6 c, tk]
      refine rv_push (rv_req (by decide) h (fun _ q => fL_any lf (any_2 q) q)) (fun e => ?_)
      obtain ⟨-, e1, -⟩ := req_0 (by decide) e
      exact ⟨lf, lo_any l1 (fL_any lf (any_2 e1) e1), lo_any l2 e1⟩
    · rw [ex_7 c, ex_7 c, tk, hd]
      exact rv_store (by omega) (rv_popT0 h) (fun _ => ⟨fL_r 0, Or.inl rfl, Or.inl rfl⟩)
    · rw [ex_9 c, ex_9 c, tk]
      obtain ⟨h1, h2⟩ := rv_popC (c := anyR) (fun v w => fL_any) h
      exact rv_store (by omega) h1 (fun e => ⟨(h2 e).1, st_any (h2 e).2.1.1 (h2 e).2.1.2, st_any (h2 e).2.2.1 (h2 e).2.2.2⟩)
  · rw [ex_22 c, ex_22 c]; exact h
  · rw [ex_23 c, ex_23 c, hd]; exact rv_popT0 h
  · rw [ex_25 c, ex_25 c]; exact (rv_popC (fun v w => fL_any) h).1
  · rw [ex_34 c, ex_34 c]; exact rv_new (u_new (by omega)) h
  · rw [ex_35 c, ex_35 c, hb]
    rcases ex with ex | ex
    · rw [ex]; exact rv_init (b := 3) (by decide) h
    · rw [ex]; exact rv_init (b := 4) (by decide) h
  · rw [ex_44 c, ex_44 c]
    refine rv_push (rv_popC (fun v w => fL_rV) h).1 (fun _ => ⟨fL_r _, ?_, ?_⟩)
    · rcases ex with e | e | e <;> rw [e] <;> simp [vSt]
    · rcases ex with e | e | e <;> rw [e] <;> simp [vSt]
/-- the frame before decides more -/
theorem ex_le (hA : LW A) (hi : i < cn A.2.2) (l : LeF g f) (vg : VOk g) (vf : VOk f) (e : (aExec A i f).2 = 0) : (aExec A i g).2 = 0 ∧ LeF (aExec A i g).1 (aExec A i f).1 ∧ VOk (aExec A i g).1 ∧ VOk (aExec A i f).1 := ex_rv hA hi (fun _ => ⟨rfl, l, vg, vf⟩) e
end EXE
/-! the kinds of errors -/
def kOk (k : Int32) : Prop := k = 0 ∨ k = 3 ∨ k = 4 ∨ k = 5 ∨ k = 6 ∨ k = 8 ∨ k = 9
section KND
variable {y : Ms}
theorem kk_req {c : Bool} {k : Int32} (hk : kOk k) (h : kOk y.2) : kOk (aReq c k y).2 := by
  unfold aReq
  split
  · exact hk
  · exact h
theorem kk_pop (h : kOk y.2) : kOk (aPop y).2.2 := by
  unfold aPop
  split
  · exact h
  split
  · exact Or.inr (Or.inl rfl)
  · exact Or.inl rfl
theorem kk_push {mx : Nat} {v : Int32} (h : kOk y.2) : kOk (aPush mx v y).2 := by
  unfold aPush
  split
  · exact h
  split
  · exact Or.inr (Or.inr (Or.inr (Or.inr (Or.inl rfl))))
  · exact Or.inl rfl
theorem k4 : kOk 4 := Or.inr (Or.inr (Or.inl rfl))
theorem k5 : kOk 5 := Or.inr (Or.inr (Or.inr (Or.inl rfl)))
theorem k9 : kOk 9 := Or.inr (Or.inr (Or.inr (Or.inr (Or.inr (Or.inr rfl)))))
theorem kk_popC {c : Int32 → Bool} (h : kOk y.2) : kOk (aPopC c y).2.2 := kk_req k4 (kk_pop h)
theorem kk_popT {d : Dcl} {ty : Int32} (h : kOk y.2) : kOk (aPopT d ty y).2 := by
  unfold aPopT
  split
  · exact kk_req k4 (kk_pop (kk_pop h))
  · exact kk_req k4 (kk_pop h)
theorem kk_pars {d : Dcl} {f : Nat → Nat} : ∀ (k : Nat) {y : Ms}, kOk y.2 → kOk (aPars d f k y).2
  | 0, _, h => h
  | k + 1, _, h => kk_pars k (kk_popT h)
theorem kk_init {A : Enw} {b : Nat} (h : kOk y.2) : kOk (aInit A b y).2 := by
  unfold aInit
  dsimp only
  generalize (if (aPop y).1 = -4 then b == mown A.2.1 (cme A.2.2) || (decide (3 ≤ mown A.2.1 (cme A.2.2)) && b == A.1.2.1 (mown A.2.1 (cme A.2.2))) else decide ((aPop y).1 ≤ -10) && isCre A.2.2 (-10 - (aPop y).1) b) = cz
  by_cases q : (aReq cz 4 (aPop y).2).2 = 0
  · rw [if_pos q]; exact Or.inl rfl
  · rw [if_neg q]; exact kk_req k4 (kk_pop h)
theorem ex_kd {A : Enw} {i : Nat} {f : Fr} (hA : LW A) (hi : i < cn A.2.2) : kOk (aExec A i f).2 := by
  have h0 : kOk ((f, (0 : Int32)) : Ms).2 := Or.inl rfl
  rcases hA.2.2.1.2.2.1 i hi with (c | c | c | c | c | c) | ⟨c, k, hk, ex⟩ | ⟨c | c | c, -⟩ | ⟨c, -⟩ | ⟨c, ex⟩ | ⟨c, ex⟩
  · rw [ex_1 c]; exact kk_push h0
  · rw [ex_2 c]; exact kk_push (kk_push h0)
  · rw [ex_3 c]; exact kk_push h0
  · rw [ex_10 c]; exact kk_popC h0
  · rw [ex_12 c]; exact kk_push (kk_push (kk_popC h0))
  · rw [ex_30 c]; exact kk_req k9 h0
  · rcases c with c | c | c | c
    · rw [ex_4 c]; exact kk_push (kk_req k5 h0)
    · rw [ex_6 c]; exact kk_push (kk_req k5 h0)
    · rw [ex_7 c]; exact kk_popT h0
    · rw [ex_9 c]; exact kk_popC h0
  · rw [ex_22 c]; exact h0
  · rw [ex_23 c]; exact kk_popT h0
  · rw [ex_25 c]; exact kk_popC h0
  · rw [ex_34 c]; exact kk_push (kk_req k4 h0)
  · rw [ex_35 c]; exact kk_init (kk_pars _ h0)
  · rw [ex_44 c]; exact kk_push (kk_popC h0)
end KND
