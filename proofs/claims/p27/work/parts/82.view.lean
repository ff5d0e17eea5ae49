abbrev Pnd : Type := Nat × (Nat → Nat)
abbrev Zs : Type := Enw × (Pnd × Fr × Nat) × ((Nat → Option Fr) × (Nat → Option Fr)) × Int32 × Nat
def zP (z : Zs) : Pnd := z.2.1.1
def zD (z : Zs) : Fr := z.2.1.2.1
def zL (z : Zs) : Nat := z.2.1.2.2
def zI (z : Zs) : Nat → Option Fr := z.2.2.1.1
def zT (z : Zs) : Nat → Option Fr := z.2.2.1.2
def zE (z : Zs) : Int32 := z.2.2.2.1
def zV (z : Zs) : Nat := z.2.2.2.2
def CloT (c : Cd) (tb : Nat → Option Fr) : Prop := ∀ i, i < cn c → (tb i).isSome = true → (jmp (cop c i) = true → (tb (cx c i).toNatClampNeg).isSome = true ∧ (cx c i).toNatClampNeg < cn c ∧ cx c i = n32 (cx c i).toNatClampNeg) ∧ ∀ h, h < chn c → prot c h i = true → (tb (tgt c h)).isSome = true ∧ tgt c h < cn c ∧ cht c h = n32 (tgt c h)
def TbI (c : Cd) (tb : Nat → Option Fr) : Prop := (∀ i, i < 100 → tb i = none) ∨ ((tb 0).isSome = true ∧ 0 < cn c ∧ CloT c tb)
def DcT (c : Cd) (tb : Nat → Option Fr) : Prop := ∀ i, cn c ≤ i → tb i = none
def IZ (z : Zs) : Prop := EI z.1 ∧ ((zP z).1 ≤ 6 ∧ psum (zP z).2 (zP z).1 ≤ 6 ∧ ∀ k, k < (zP z).1 → isT z.1.1 ((zP z).2 k) = true) ∧ (zL z ≤ 12 ∧ WFr z.1.1 (zD z) ∧ (∀ i, zL z ≤ i → i < 12 → (zD z).1 i = -2) ∧ (zD z).2.2.2 = false) ∧ TWX z.1 (zI z) ∧ TWX z.1 (zT z) ∧ TbI z.1.2.2 (zI z) ∧ DcT z.1.2.2 (zT z)
def LX (E : Ev) (a : Nat) : Prop := WE E ∧ Inj E ∧ E.1 a = some (0, 9, 0) ∧ LJ E (E.2 a 7) ∧ LK E (E.2 a 8) ∧ (E.2 (E.2 a 7) 0 = E.2 a 2 ∧ E.2 (E.2 a 7) 1 = E.2 a 0 ∧ E.2 (E.2 a 7) 5 = E.2 a 1 ∧ E.2 (E.2 a 7) 9 = E.2 a 5) ∧ E.2 (E.2 a 8) 0 = E.2 a 2 ∧ E.2 (E.2 a 8) 1 = E.2 a 0 ∧ E.2 (E.2 a 8) 5 = E.2 a 1 ∧ E.2 (E.2 a 8) 9 = E.2 a 6 ∧ E.2 a 5 ≠ E.2 a 6
def VX (E : Ev) (S : St) (a : Nat) (z : Zs) : Prop := VEnv E S (E.2 a 0) (E.2 a 1) (E.2 a 2) z.1 ∧ (S.1 (E.2 a 1) 11 = n32 (zP z).1 ∧ S.1 (E.2 a 1) 12 = n32 (psum (zP z).2 (zP z).1) ∧ ∀ k, k < (zP z).1 → S.2.1 (E.2 (E.2 a 1) 10) k = n32 ((zP z).2 k)) ∧ (VF E S (E.2 a 3) (zD z) ∧ S.1 a 4 = n32 (zL z)) ∧ VTb E S (E.2 a 5) (zI z) ∧ VTb E S (E.2 a 6) (zT z) ∧ S.1 a 9 = zE z ∧ S.1 a 10 = n32 (zV z)
