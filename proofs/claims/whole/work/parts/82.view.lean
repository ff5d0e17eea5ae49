/-! both objects, and one picture of them -/
/-- pending parameters: how many, their types -/
abbrev Pnd : Type := Nat × (Nat → Nat)
/-- picture: environment; pending parameters, draft, its locals; inferred, declared frames; position, visits -/
abbrev Zs : Type := Enw × (Pnd × Fr × Nat) × ((Nat → Option Fr) × (Nat → Option Fr)) × Int32 × Nat
def zP (z : Zs) : Pnd := z.2.1.1
def zD (z : Zs) : Fr := z.2.1.2.1
def zL (z : Zs) : Nat := z.2.1.2.2
def zI (z : Zs) : Nat → Option Fr := z.2.2.1.1
def zT (z : Zs) : Nat → Option Fr := z.2.2.1.2
def zE (z : Zs) : Int32 := z.2.2.2.1
def zV (z : Zs) : Nat := z.2.2.2.2
/-- where an index has a frame, so have the targets it reaches -/
def CloT (c : Cd) (tb : Nat → Option Fr) : Prop := ∀ i, i < cn c → (tb i).isSome = true → (jmp (cop c i) = true → (tb (cx c i).toNatClampNeg).isSome = true ∧ (cx c i).toNatClampNeg < cn c ∧ cx c i = n32 (cx c i).toNatClampNeg) ∧ ∀ h, h < chn c → prot c h i = true → (tb (tgt c h)).isSome = true ∧ tgt c h < cn c ∧ cht c h = n32 (tgt c h)
/-- the table is empty, or begins at 0 and is closed -/
def TbI (c : Cd) (tb : Nat → Option Fr) : Prop := (∀ i, i < 100 → tb i = none) ∨ ((tb 0).isSome = true ∧ 0 < cn c ∧ CloT c tb)
/-- only instructions have declared frames -/
def DcT (c : Cd) (tb : Nat → Option Fr) : Prop := ∀ i, cn c ≤ i → tb i = none
def IZ (z : Zs) : Prop := EI z.1 ∧ ((zP z).1 ≤ 6 ∧ psum (zP z).2 (zP z).1 ≤ 6 ∧ ∀ k, k < (zP z).1 → isT z.1.1 ((zP z).2 k) = true) ∧ (zL z ≤ 12 ∧ WFr z.1.1 (zD z) ∧ (∀ i, zL z ≤ i → i < 12 → (zD z).1 i = -2) ∧ (zD z).2.2.2 = false) ∧ TWX z.1 (zI z) ∧ TWX z.1 (zT z) ∧ TbI z.1.2.2 (zI z) ∧ DcT z.1.2.2 (zT z)
/-- the class: which cell is what -/
def LX (E : Ev) (a : Nat) : Prop := WE E ∧ Inj E ∧ E.1 a = some (0, 9, 0) ∧ LJ E (E.2 a 7) ∧ LK E (E.2 a 8) ∧ (E.2 (E.2 a 7) 0 = E.2 a 2 ∧ E.2 (E.2 a 7) 1 = E.2 a 0 ∧ E.2 (E.2 a 7) 5 = E.2 a 1 ∧ E.2 (E.2 a 7) 9 = E.2 a 5) ∧ E.2 (E.2 a 8) 0 = E.2 a 2 ∧ E.2 (E.2 a 8) 1 = E.2 a 0 ∧ E.2 (E.2 a 8) 5 = E.2 a 1 ∧ E.2 (E.2 a 8) 9 = E.2 a 6 ∧ E.2 a 5 ≠ E.2 a 6
def VX (E : Ev) (S : St) (a : Nat) (z : Zs) : Prop := VEnv E S (E.2 a 0) (E.2 a 1) (E.2 a 2) z.1 ∧ (S.1 (E.2 a 1) 11 = n32 (zP z).1 ∧ S.1 (E.2 a 1) 12 = n32 (psum (zP z).2 (zP z).1) ∧ ∀ k, k < (zP z).1 → S.2.1 (E.2 (E.2 a 1) 10) k = n32 ((zP z).2 k)) ∧ (VF E S (E.2 a 3) (zD z) ∧ S.1 a 4 = n32 (zL z)) ∧ VTb E S (E.2 a 5) (zI z) ∧ VTb E S (E.2 a 6) (zT z) ∧ S.1 a 9 = zE z ∧ S.1 a 10 = n32 (zV z)
def VY (E : Ev) (S : St) (m : Nat) (z : Zs) : Prop := VRe E S m z.1 ∧ (S.1 m 13 = n32 (zP z).1 ∧ ∀ k, k < (zP z).1 → S.2.1 (E.2 m 14) k = n32 ((zP z).2 k)) ∧ (S.1 m 32 = n32 (zL z) ∧ S.1 m 33 = n32 (zD z).2.2.1 ∧ (∀ i, i < zL z → S.2.1 (E.2 m 34) i = (zD z).1 i) ∧ ∀ i, i < (zD z).2.2.1 → S.2.1 (E.2 m 34) (12 + i) = (zD z).2.1 i) ∧ VRI E S m (zI z) ∧ VRD E S m (zT z) ∧ S.1 m 36 = zE z ∧ S.1 m 37 = n32 (zV z) ∧ S.1 m 27 = b2 (zI z 0).isSome
/-- not a cell of the reference; a cell of it -/
def NRf (E : Ev) (m : Nat) : Nat → Prop := fun q => q ≠ m ∧ ∀ j, isA10 j = true → q ≠ E.2 m j
def RFc (E : Ev) (m : Nat) : Nat → Prop := fun q => q = m ∨ ∃ j, isA10 j = true ∧ q = E.2 m j
section VWS
variable {E : Ev} {S S' : St} {a m : Nat} {z : Zs}
theorem nrf_o (L : LR E m) {b ci : Nat} (hb : E.1 b = some (0, ci, 0)) (h : ci ≠ 10) : NRf E m b := by
  refine ⟨fun e => ne_ty hb L.2.2 (fun w => h (by cases w; rfl)) e, fun j hj e => ?_⟩
  obtain ⟨u, hu, h1⟩ := lr_arr L hj
  refine ne_ty hb hu ?_ e
  intro w; rw [← w] at h1; exact absurd h1 (show ¬ (0 : Nat) = 1 by decide)
theorem nrf_a (L : LR E m) {b ci j : Nat} {u : Tp} (hb : E.1 b = some (0, ci, 0)) (h : ci ≠ 10) (hu : (ftab ci)[j]? = some (some u)) (h1 : u.1 = 1) : NRf E m (E.2 b j) := by
  refine ⟨fun e => ?_, fun i hi e => ?_⟩
  · have := L.1.2.1 b ci j u hb hu
    refine ne_ty this L.2.2 ?_ e
    intro w; rw [w] at h1; exact absurd h1 (by decide)
  · obtain ⟨w, hw, h2⟩ := isA10_u hi
    exact arr_ne L.1 L.2.1 hb L.2.2 hu hw h1 h2 (fun q => by
      rw [q.1] at hb
      exact ne_ty hb L.2.2 (fun w => h (by cases w; rfl)) rfl) e
theorem agl_rf {fs rs : List Nat} (h : AgL E m fs rs S S') (h1 : rs.all isA10 = true) : Ag (RFc E m) S S' := fun q hq => h.1 q (fun e => hq (Or.inl e)) (fun j hj e => hq (Or.inr ⟨j, List.all_eq_true.mp h1 j hj, e⟩))
/-- what is not the reference's does not touch its view -/
theorem vy_ag (h : Ag (NRf E m) S S') (L : LR E m) (v : VY E S m z) : VY E S' m z := by
  have f : S'.1 m = S.1 m := (h m (fun e => e.1 rfl)).1
  have g : ∀ j, isA10 j = true → S'.2.1 (E.2 m j) = S.2.1 (E.2 m j) := fun j hj => (h _ (fun e => e.2 j hj rfl)).2.1
  have al : AgL E m [] [] S S := agl_refl
  obtain ⟨⟨⟨t1, t2, t3⟩, ⟨b1, b2, b3, b4⟩, c0, c1, c2, c3, c4, c5, c6, c7⟩, ⟨p1, p2⟩, ⟨d1, d2, d3, d4⟩, ⟨i1, i2⟩, ⟨k1, k2⟩, e1, e2, e3⟩ := v
  refine ⟨⟨⟨?_, fun b h1 h2 => ?_, fun b h1 => ?_⟩, ⟨?_, ?_, fun i hi => ?_, fun k hk => ?_⟩, ?_, ?_, ?_, ?_, ?_, ?_, fun i hi => ?_, fun k hk => ?_⟩, ⟨?_, fun k hk => ?_⟩, ⟨?_, ?_, fun i hi => ?_, fun i hi => ?_⟩, ⟨fun i hi => ?_, fun i x hi hx => ?_⟩, ⟨fun i hi => ?_, fun i x hi hx => ?_⟩, ?_, ?_, ?_⟩
  · rw [f]; exact t1
  · rw [g 2 rfl]; exact t2 b h1 h2
  · rw [g 3 rfl]; exact t3 b h1
  · rw [f]; exact b1
  · rw [f]; exact b2
  · rw [g 5 rfl, g 6 rfl]; exact b3 i hi
  · rw [g 8 rfl, g 9 rfl, g 10 rfl, g 11 rfl, g 12 rfl]; exact b4 k hk
  · rw [f]; exact c0
  · rw [f]; exact c1
  · rw [f]; exact c2
  · rw [f]; exact c3
  · rw [f]; exact c4
  · rw [f]; exact c5
  · rw [g 20 rfl, g 21 rfl]; exact c6 i hi
  · rw [g 23 rfl, g 24 rfl, g 25 rfl, g 26 rfl]; exact c7 k hk
  · rw [f]; exact p1
  · rw [g 14 rfl]; exact p2 k hk
  · rw [f]; exact d1
  · rw [f]; exact d2
  · rw [g 34 rfl]; exact d3 i hi
  · rw [g 34 rfl]; exact d4 i hi
  · rw [g 28 rfl]; exact i1 i hi
  · have w := i2 i x hi hx
    exact ⟨fun q hq => by rw [g 29 rfl]; exact w.1 q hq, fun q hq => by rw [g 29 rfl]; exact w.2.1 q hq, by rw [g 29 rfl]; exact w.2.2.1, by rw [g 29 rfl]; exact w.2.2.2⟩
  · rw [g 30 rfl]; exact k1 i hi
  · have w := k2 i x hi hx
    exact ⟨fun q hq => by rw [g 31 rfl]; exact w.1 q hq, fun q hq => by rw [g 31 rfl]; exact w.2.1 q hq, by rw [g 31 rfl]; exact w.2.2.1, by rw [g 31 rfl]; exact w.2.2.2⟩
  · rw [f]; exact e1
  · rw [f]; exact e2
  · rw [f]; exact e3
end VWS
