/-! the reference's view, part by part -/
def nof (fs l : List Nat) : Bool := l.all fun j => !fs.contains j
theorem nof_i {fs l : List Nat} (h : nof fs l = true) {j : Nat} (hj : j ∈ l) : fs.contains j = false := by
  have := List.all_eq_true.mp h j hj
  simpa using this
section VYA
variable {E : Ev} {S S' : St} {m : Nat} {fs rs : List Nat} {z : Zs}
theorem vrt_agl (L : LR E m) {d : Dcl} (v : VRt E S m d) (h : AgL E m fs rs S S') (hr : rs.all isA10 = true) (hf : nof fs [1] = true) (ha : nof rs [2, 3] = true) : VRt E S' m d := by
  have f : ∀ j, j ∈ [1] → S'.1 m j = S.1 m j := fun j hj => agl_f h (nof_i hf hj)
  have g : ∀ j, isA10 j = true → j ∈ [2, 3] → S'.2.1 (E.2 m j) = S.2.1 (E.2 m j) := fun j h1 hj => agl_a L h h1 hr (nof_i ha hj)
  exact ⟨by rw [f 1 (by decide)]; exact v.1, fun b h1 h2 => by rw [g 2 rfl (by decide)]; exact v.2.1 b h1 h2, fun b h1 => by rw [g 3 rfl (by decide)]; exact v.2.2 b h1⟩
theorem vrb_agl (L : LR E m) {b : Mb} (v : VRb E S m b) (h : AgL E m fs rs S S') (hr : rs.all isA10 = true) (hf : nof fs [4, 7] = true) (ha : nof rs [5, 6, 8, 9, 10, 11, 12] = true) : VRb E S' m b := by
  have f : ∀ j, j ∈ [4, 7] → S'.1 m j = S.1 m j := fun j hj => agl_f h (nof_i hf hj)
  have g : ∀ j, isA10 j = true → j ∈ [5, 6, 8, 9, 10, 11, 12] → S'.2.1 (E.2 m j) = S.2.1 (E.2 m j) := fun j h1 hj => agl_a L h h1 hr (nof_i ha hj)
  refine ⟨by rw [f 4 (by decide)]; exact v.1, by rw [f 7 (by decide)]; exact v.2.1, fun i hi => ?_, fun k hk => ?_⟩
  · rw [g 5 rfl (by decide), g 6 rfl (by decide)]; exact v.2.2.1 i hi
  · rw [g 8 rfl (by decide), g 9 rfl (by decide), g 10 rfl (by decide), g 11 rfl (by decide), g 12 rfl (by decide)]; exact v.2.2.2 k hk
theorem vrc_agl (L : LR E m) {c : Cd} (v : VRc E S m c) (h : AgL E m fs rs S S') (hr : rs.all isA10 = true) (hf : nof fs [15, 16, 17, 18, 19, 22] = true) (ha : nof rs [20, 21, 23, 24, 25, 26] = true) : VRc E S' m c := by
  have f : ∀ j, j ∈ [15, 16, 17, 18, 19, 22] → S'.1 m j = S.1 m j := fun j hj => agl_f h (nof_i hf hj)
  have g : ∀ j, isA10 j = true → j ∈ [20, 21, 23, 24, 25, 26] → S'.2.1 (E.2 m j) = S.2.1 (E.2 m j) := fun j h1 hj => agl_a L h h1 hr (nof_i ha hj)
  obtain ⟨c0, c1, c2, c3, c4, c5, c6, c7⟩ := v
  refine ⟨by rw [f 15 (by decide)]; exact c0, by rw [f 16 (by decide)]; exact c1, by rw [f 17 (by decide)]; exact c2, by rw [f 18 (by decide)]; exact c3, by rw [f 19 (by decide)]; exact c4, by rw [f 22 (by decide)]; exact c5, fun i hi => ?_, fun k hk => ?_⟩
  · rw [g 20 rfl (by decide), g 21 rfl (by decide)]; exact c6 i hi
  · rw [g 23 rfl (by decide), g 24 rfl (by decide), g 25 rfl (by decide), g 26 rfl (by decide)]; exact c7 k hk
def VYp (E : Ev) (S : St) (m : Nat) (p : Pnd) : Prop := S.1 m 13 = n32 p.1 ∧ ∀ k, k < p.1 → S.2.1 (E.2 m 14) k = n32 (p.2 k)
def VYd (E : Ev) (S : St) (m : Nat) (n : Nat) (x : Fr) : Prop := S.1 m 32 = n32 n ∧ S.1 m 33 = n32 x.2.2.1 ∧ (∀ i, i < n → S.2.1 (E.2 m 34) i = x.1 i) ∧ ∀ i, i < x.2.2.1 → S.2.1 (E.2 m 34) (12 + i) = x.2.1 i
theorem vyp_agl (L : LR E m) {p : Pnd} (v : VYp E S m p) (h : AgL E m fs rs S S') (hr : rs.all isA10 = true) (hf : nof fs [13] = true) (ha : nof rs [14] = true) : VYp E S' m p := ⟨by rw [agl_f h (nof_i hf (j := 13) (by decide))]; exact v.1, fun k hk => by rw [agl_a L h (j := 14) rfl hr (nof_i ha (by decide))]; exact v.2 k hk⟩
theorem vyd_agl (L : LR E m) {n : Nat} {x : Fr} (v : VYd E S m n x) (h : AgL E m fs rs S S') (hr : rs.all isA10 = true) (hf : nof fs [32, 33] = true) (ha : nof rs [34] = true) : VYd E S' m n x := by
  have g := agl_a L h (j := 34) rfl hr (nof_i ha (by decide))
  exact ⟨by rw [agl_f h (nof_i hf (j := 32) (by decide))]; exact v.1, by rw [agl_f h (nof_i hf (j := 33) (by decide))]; exact v.2.1, fun i hi => by rw [g]; exact v.2.2.1 i hi, fun i hi => by rw [g]; exact v.2.2.2 i hi⟩
/-- put together again -/
theorem vy_mk {A : Enw} {p : Pnd} {x : Fr} {n : Nat} {ti td : Nat → Option Fr} {e : Int32} {w : Nat} (h1 : VRt E S m A.1) (h2 : VRb E S m A.2.1) (h3 : VRc E S m A.2.2) (h4 : VYp E S m p) (h5 : VYd E S m n x) (h6 : VRI E S m ti) (h7 : VRD E S m td) (h8 : S.1 m 36 = e) (h9 : S.1 m 37 = n32 w) (h0 : S.1 m 27 = b2 (ti 0).isSome) : VY E S m (A, (p, x, n), (ti, td), e, w) := ⟨⟨h1, h2, h3⟩, h4, h5, h6, h7, h8, h9, h0⟩
end VYA
