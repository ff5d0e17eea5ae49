/-! one step of the law; the law's loop -/
section LST
variable {E : Ev} {S : St} {a m a3 fu n : Nat} {z : Zs} {rc : Int32 → St → Option (Int32 × St)} {x4 : Int32} {xs : Nat → Int32}
/-- the loop goes on over one picture -/
def GoL (E : Ev) (a m : Nat) (rc : Int32 → St → Option (Int32 × St)) (x4 : Int32) (o : Option (Int32 × St)) : Prop := ∃ S' z', o = rc (x4 + 5) S' ∧ IZ z' ∧ VX E S' a z' ∧ VY E S' m z'
theorem ls_148 (L : LX E a) (Lm : LR E m) (h3 : E.1 a3 = some (1, 2, 1)) (hfu : 1000000 ≤ fu) (iz : IZ z) (vx : VX E S a z) (vy : VY E S m z) (h1 : inb (x4 + 1) n = true) (h2 : inb (x4 + 2) n = true) (h3' : inb (x4 + 3) n = true) (h4 : inb (x4 + 4) n = true) : GoL E a m rc x4 (jb_L_law_148 fu E xs n a m a3 rc x4 S) := by
  have hf : 200 ≤ fu := Nat.le_trans (by decide) hfu
  unfold jb_L_law_148
  simp only [h1, h2, if_true]
  by_cases c : xs (x4 + 2).toNatClampNeg = 0
  · simp only [c, if_true]
    exact go_cl (fu := fu) L Lm h3 iz vx vy _ false
  · simp only [c, if_false]
    exact go_cl (fu := fu) L Lm h3 iz vx vy _ true
theorem ls_232 (L : LX E a) (Lm : LR E m) (h3 : E.1 a3 = some (1, 2, 1)) (hfu : 1000000 ≤ fu) (iz : IZ z) (vx : VX E S a z) (vy : VY E S m z) (h1 : inb (x4 + 1) n = true) (h2 : inb (x4 + 2) n = true) (h3' : inb (x4 + 3) n = true) (h4 : inb (x4 + 4) n = true) : GoL E a m rc x4 (jb_L_law_232 fu E xs n a m a3 rc x4 S) := by
  have hf : 200 ≤ fu := Nat.le_trans (by decide) hfu
  unfold jb_L_law_232
  simp only [h1, h2, if_true]
  exact go_fd (fu := fu) L Lm h3 iz vx vy _ _
theorem ls_300 (L : LX E a) (Lm : LR E m) (h3 : E.1 a3 = some (1, 2, 1)) (hfu : 1000000 ≤ fu) (iz : IZ z) (vx : VX E S a z) (vy : VY E S m z) (h1 : inb (x4 + 1) n = true) (h2 : inb (x4 + 2) n = true) (h3' : inb (x4 + 3) n = true) (h4 : inb (x4 + 4) n = true) : GoL E a m rc x4 (jb_L_law_300 fu E xs n a m a3 rc x4 S) := by
  have hf : 200 ≤ fu := Nat.le_trans (by decide) hfu
  unfold jb_L_law_300
  simp only [h1, if_true]
  exact go_pm L Lm h3 hf iz vx vy _
theorem ls_356 (L : LX E a) (Lm : LR E m) (h3 : E.1 a3 = some (1, 2, 1)) (hfu : 1000000 ≤ fu) (iz : IZ z) (vx : VX E S a z) (vy : VY E S m z) (h1 : inb (x4 + 1) n = true) (h2 : inb (x4 + 2) n = true) (h3' : inb (x4 + 3) n = true) (h4 : inb (x4 + 4) n = true) : GoL E a m rc x4 (jb_L_law_356 fu E xs n a m a3 rc x4 S) := by
  have hf : 200 ≤ fu := Nat.le_trans (by decide) hfu
  unfold jb_L_law_356
  simp only [h1, h2, h3', if_true]
  exact go_mt L Lm h3 hf iz vx vy _ _ _
theorem ls_436 (L : LX E a) (Lm : LR E m) (h3 : E.1 a3 = some (1, 2, 1)) (hfu : 1000000 ≤ fu) (iz : IZ z) (vx : VX E S a z) (vy : VY E S m z) (h1 : inb (x4 + 1) n = true) (h2 : inb (x4 + 2) n = true) (h3' : inb (x4 + 3) n = true) (h4 : inb (x4 + 4) n = true) : GoL E a m rc x4 (jb_L_law_436 fu E xs n a m a3 rc x4 S) := by
  have hf : 200 ≤ fu := Nat.le_trans (by decide) hfu
  unfold jb_L_law_436
  simp only [h1, h2, if_true]
  exact go_asg L Lm h3 hf iz vx vy _ _
theorem ls_511 (L : LX E a) (Lm : LR E m) (h3 : E.1 a3 = some (1, 2, 1)) (hfu : 1000000 ≤ fu) (iz : IZ z) (vx : VX E S a z) (vy : VY E S m z) (h1 : inb (x4 + 1) n = true) (h2 : inb (x4 + 2) n = true) (h3' : inb (x4 + 3) n = true) (h4 : inb (x4 + 4) n = true) : GoL E a m rc x4 (jb_L_law_511 fu E xs n a m a3 rc x4 S) := by
  have hf : 200 ≤ fu := Nat.le_trans (by decide) hfu
  unfold jb_L_law_511
  simp only [h1, h2, if_true]
  exact go_join L Lm h3 hf iz vx vy _ _
theorem ls_579 (L : LX E a) (Lm : LR E m) (h3 : E.1 a3 = some (1, 2, 1)) (hfu : 1000000 ≤ fu) (iz : IZ z) (vx : VX E S a z) (vy : VY E S m z) (h1 : inb (x4 + 1) n = true) (h2 : inb (x4 + 2) n = true) (h3' : inb (x4 + 3) n = true) (h4 : inb (x4 + 4) n = true) : GoL E a m rc x4 (jb_L_law_579 fu E xs n a m a3 rc x4 S) := by
  have hf : 200 ≤ fu := Nat.le_trans (by decide) hfu
  unfold jb_L_law_579
  simp only [h1, h2, h3', if_true]
  exact go_bg L Lm h3 hf iz vx vy _ _ _
theorem ls_659 (L : LX E a) (Lm : LR E m) (h3 : E.1 a3 = some (1, 2, 1)) (hfu : 1000000 ≤ fu) (iz : IZ z) (vx : VX E S a z) (vy : VY E S m z) (h1 : inb (x4 + 1) n = true) (h2 : inb (x4 + 2) n = true) (h3' : inb (x4 + 3) n = true) (h4 : inb (x4 + 4) n = true) : GoL E a m rc x4 (jb_L_law_659 fu E xs n a m a3 rc x4 S) := by
  have hf : 200 ≤ fu := Nat.le_trans (by decide) hfu
  unfold jb_L_law_659
  simp only [h1, h2, if_true]
  exact go_em L Lm h3 hf iz vx vy _ _
theorem ls_727 (L : LX E a) (Lm : LR E m) (h3 : E.1 a3 = some (1, 2, 1)) (hfu : 1000000 ≤ fu) (iz : IZ z) (vx : VX E S a z) (vy : VY E S m z) (h1 : inb (x4 + 1) n = true) (h2 : inb (x4 + 2) n = true) (h3' : inb (x4 + 3) n = true) (h4 : inb (x4 + 4) n = true) : GoL E a m rc x4 (jb_L_law_727 fu E xs n a m a3 rc x4 S) := by
  have hf : 200 ≤ fu := Nat.le_trans (by decide) hfu
  unfold jb_L_law_727
  simp only [h1, h2, h3', h4, if_true]
  exact go_ha L Lm h3 hf iz vx vy _ _ _ _
theorem ls_819 (L : LX E a) (Lm : LR E m) (h3 : E.1 a3 = some (1, 2, 1)) (hfu : 1000000 ≤ fu) (iz : IZ z) (vx : VX E S a z) (vy : VY E S m z) (h1 : inb (x4 + 1) n = true) (h2 : inb (x4 + 2) n = true) (h3' : inb (x4 + 3) n = true) (h4 : inb (x4 + 4) n = true) : GoL E a m rc x4 (jb_L_law_819 fu E xs n a m a3 rc x4 S) := by
  have hf : 200 ≤ fu := Nat.le_trans (by decide) hfu
  unfold jb_L_law_819
  obtain ⟨S', e, v1, v2⟩ := go_cnt (fu := fu) (rc := rc) (x4 := x4) Lm L iz vx vy
  exact ⟨S', z, e, iz, v1, v2⟩
theorem ls_832 (L : LX E a) (Lm : LR E m) (h3 : E.1 a3 = some (1, 2, 1)) (hfu : 1000000 ≤ fu) (iz : IZ z) (vx : VX E S a z) (vy : VY E S m z) (h1 : inb (x4 + 1) n = true) (h2 : inb (x4 + 2) n = true) (h3' : inb (x4 + 3) n = true) (h4 : inb (x4 + 4) n = true) : GoL E a m rc x4 (jb_L_law_832 fu E xs n a m a3 rc x4 S) := by
  have hf : 200 ≤ fu := Nat.le_trans (by decide) hfu
  unfold jb_L_law_832
  simp only [h1, if_true]
  exact go_PL L Lm h3 iz vx vy _
theorem ls_888 (L : LX E a) (Lm : LR E m) (h3 : E.1 a3 = some (1, 2, 1)) (hfu : 1000000 ≤ fu) (iz : IZ z) (vx : VX E S a z) (vy : VY E S m z) (h1 : inb (x4 + 1) n = true) (h2 : inb (x4 + 2) n = true) (h3' : inb (x4 + 3) n = true) (h4 : inb (x4 + 4) n = true) : GoL E a m rc x4 (jb_L_law_888 fu E xs n a m a3 rc x4 S) := by
  have hf : 200 ≤ fu := Nat.le_trans (by decide) hfu
  unfold jb_L_law_888
  simp only [h1, if_true]
  exact go_PS L Lm h3 iz vx vy _
theorem ls_944 (L : LX E a) (Lm : LR E m) (h3 : E.1 a3 = some (1, 2, 1)) (hfu : 1000000 ≤ fu) (iz : IZ z) (vx : VX E S a z) (vy : VY E S m z) (h1 : inb (x4 + 1) n = true) (h2 : inb (x4 + 2) n = true) (h3' : inb (x4 + 3) n = true) (h4 : inb (x4 + 4) n = true) : GoL E a m rc x4 (jb_L_law_944 fu E xs n a m a3 rc x4 S) := by
  have hf : 200 ≤ fu := Nat.le_trans (by decide) hfu
  unfold jb_L_law_944
  simp only [h1, h2, if_true]
  by_cases c : xs (x4 + 2).toNatClampNeg = 0
  · simp only [c, if_true]
    exact go_df L Lm h3 hf iz vx vy _ false
  · simp only [c, if_false]
    exact go_df L Lm h3 hf iz vx vy _ true
theorem ls_1028 (L : LX E a) (Lm : LR E m) (h3 : E.1 a3 = some (1, 2, 1)) (hfu : 1000000 ≤ fu) (iz : IZ z) (vx : VX E S a z) (vy : VY E S m z) (h1 : inb (x4 + 1) n = true) (h2 : inb (x4 + 2) n = true) (h3' : inb (x4 + 3) n = true) (h4 : inb (x4 + 4) n = true) : GoL E a m rc x4 (jb_L_law_1028 fu E xs n a m a3 rc x4 S) := by
  have hf : 200 ≤ fu := Nat.le_trans (by decide) hfu
  unfold jb_L_law_1028
  exact go_ad L Lm h3 hf iz vx vy
theorem ls_1072 (L : LX E a) (Lm : LR E m) (h3 : E.1 a3 = some (1, 2, 1)) (hfu : 1000000 ≤ fu) (iz : IZ z) (vx : VX E S a z) (vy : VY E S m z) (h1 : inb (x4 + 1) n = true) (h2 : inb (x4 + 2) n = true) (h3' : inb (x4 + 3) n = true) (h4 : inb (x4 + 4) n = true) : GoL E a m rc x4 (jb_L_law_1072 fu E xs n a m a3 rc x4 S) := by
  have hf : 200 ≤ fu := Nat.le_trans (by decide) hfu
  unfold jb_L_law_1072
  exact go_inf L Lm h3 hfu iz vx vy
theorem ls_1116 (L : LX E a) (Lm : LR E m) (h3 : E.1 a3 = some (1, 2, 1)) (hfu : 1000000 ≤ fu) (iz : IZ z) (vx : VX E S a z) (vy : VY E S m z) (h1 : inb (x4 + 1) n = true) (h2 : inb (x4 + 2) n = true) (h3' : inb (x4 + 3) n = true) (h4 : inb (x4 + 4) n = true) : GoL E a m rc x4 (jb_L_law_1116 fu E xs n a m a3 rc x4 S) := by
  have hf : 200 ≤ fu := Nat.le_trans (by decide) hfu
  unfold jb_L_law_1116
  exact go_chk L Lm h3 hf iz vx vy
theorem ls_1160 (L : LX E a) (Lm : LR E m) (h3 : E.1 a3 = some (1, 2, 1)) (hfu : 1000000 ≤ fu) (iz : IZ z) (vx : VX E S a z) (vy : VY E S m z) (h1 : inb (x4 + 1) n = true) (h2 : inb (x4 + 2) n = true) (h3' : inb (x4 + 3) n = true) (h4 : inb (x4 + 4) n = true) : GoL E a m rc x4 (jb_L_law_1160 fu E xs n a m a3 rc x4 S) := by
  have hf : 200 ≤ fu := Nat.le_trans (by decide) hfu
  unfold jb_L_law_1160
  obtain ⟨S', e, v1, v2⟩ := go_pos (fu := fu) (rc := rc) (x4 := x4) Lm L iz vx vy
  exact ⟨S', z, e, iz, v1, v2⟩
theorem ls_1173 (L : LX E a) (Lm : LR E m) (h3 : E.1 a3 = some (1, 2, 1)) (hfu : 1000000 ≤ fu) (iz : IZ z) (vx : VX E S a z) (vy : VY E S m z) (h1 : inb (x4 + 1) n = true) (h2 : inb (x4 + 2) n = true) (h3' : inb (x4 + 3) n = true) (h4 : inb (x4 + 4) n = true) : GoL E a m rc x4 (jb_L_law_1173 fu E xs n a m a3 rc x4 S) := by
  have hf : 200 ≤ fu := Nat.le_trans (by decide) hfu
  unfold jb_L_law_1173
  obtain ⟨S', e, v1, v2⟩ := go_vis (fu := fu) (rc := rc) (x4 := x4) Lm L iz vx vy
  exact ⟨S', z, e, iz, v1, v2⟩
theorem ls_1186 (L : LX E a) (Lm : LR E m) (h3 : E.1 a3 = some (1, 2, 1)) (hfu : 1000000 ≤ fu) (iz : IZ z) (vx : VX E S a z) (vy : VY E S m z) (h1 : inb (x4 + 1) n = true) (h2 : inb (x4 + 2) n = true) (h3' : inb (x4 + 3) n = true) (h4 : inb (x4 + 4) n = true) : GoL E a m rc x4 (jb_L_law_1186 fu E xs n a m a3 rc x4 S) := by
  have hf : 200 ≤ fu := Nat.le_trans (by decide) hfu
  unfold jb_L_law_1186
  simp only [h1, if_true]
  exact go_has L Lm h3 iz vx vy _
theorem ls_1249 (L : LX E a) (Lm : LR E m) (h3 : E.1 a3 = some (1, 2, 1)) (hfu : 1000000 ≤ fu) (iz : IZ z) (vx : VX E S a z) (vy : VY E S m z) (h1 : inb (x4 + 1) n = true) (h2 : inb (x4 + 2) n = true) (h3' : inb (x4 + 3) n = true) (h4 : inb (x4 + 4) n = true) : GoL E a m rc x4 (jb_L_law_1249 fu E xs n a m a3 rc x4 S) := by
  have hf : 200 ≤ fu := Nat.le_trans (by decide) hfu
  unfold jb_L_law_1249
  simp only [h1, if_true]
  exact go_hgt L Lm h3 iz vx vy _
theorem ls_1305 (L : LX E a) (Lm : LR E m) (h3 : E.1 a3 = some (1, 2, 1)) (hfu : 1000000 ≤ fu) (iz : IZ z) (vx : VX E S a z) (vy : VY E S m z) (h1 : inb (x4 + 1) n = true) (h2 : inb (x4 + 2) n = true) (h3' : inb (x4 + 3) n = true) (h4 : inb (x4 + 4) n = true) : GoL E a m rc x4 (jb_L_law_1305 fu E xs n a m a3 rc x4 S) := by
  have hf : 200 ≤ fu := Nat.le_trans (by decide) hfu
  unfold jb_L_law_1305
  simp only [h1, h2, if_true]
  exact go_ssl L Lm h3 iz vx vy _ _
theorem ls_1373 (L : LX E a) (Lm : LR E m) (h3 : E.1 a3 = some (1, 2, 1)) (hfu : 1000000 ≤ fu) (iz : IZ z) (vx : VX E S a z) (vy : VY E S m z) (h1 : inb (x4 + 1) n = true) (h2 : inb (x4 + 2) n = true) (h3' : inb (x4 + 3) n = true) (h4 : inb (x4 + 4) n = true) : GoL E a m rc x4 (jb_L_law_1373 fu E xs n a m a3 rc x4 S) := by
  have hf : 200 ≤ fu := Nat.le_trans (by decide) hfu
  unfold jb_L_law_1373
  simp only [h1, h2, if_true]
  exact go_lsl L Lm h3 iz vx vy _ _
theorem ls_1441 (L : LX E a) (Lm : LR E m) (h3 : E.1 a3 = some (1, 2, 1)) (hfu : 1000000 ≤ fu) (iz : IZ z) (vx : VX E S a z) (vy : VY E S m z) (h1 : inb (x4 + 1) n = true) (h2 : inb (x4 + 2) n = true) (h3' : inb (x4 + 3) n = true) (h4 : inb (x4 + 4) n = true) : GoL E a m rc x4 (jb_L_law_1441 fu E xs n a m a3 rc x4 S) := by
  have hf : 200 ≤ fu := Nat.le_trans (by decide) hfu
  unfold jb_L_law_1441
  simp only [h1, if_true]
  exact go_mrk L Lm h3 iz vx vy _
theorem ls_1504 (L : LX E a) (Lm : LR E m) (h3 : E.1 a3 = some (1, 2, 1)) (hfu : 1000000 ≤ fu) (iz : IZ z) (vx : VX E S a z) (vy : VY E S m z) (h1 : inb (x4 + 1) n = true) (h2 : inb (x4 + 2) n = true) (h3' : inb (x4 + 3) n = true) (h4 : inb (x4 + 4) n = true) : GoL E a m rc x4 (jb_L_law_1504 fu E xs n a m a3 rc x4 S) := by
  have hf : 200 ≤ fu := Nat.le_trans (by decide) hfu
  unfold jb_L_law_1504
  exact go_dig L Lm hf iz vx vy
theorem ls_all (L : LX E a) (Lm : LR E m) (h3 : E.1 a3 = some (1, 2, 1)) (hfu : 1000000 ≤ fu) (iz : IZ z) (vx : VX E S a z) (vy : VY E S m z) (h1 : inb (x4 + 1) n = true) (h2 : inb (x4 + 2) n = true) (h3' : inb (x4 + 3) n = true) (h4 : inb (x4 + 4) n = true) (h0 : inb x4 n = true) (h5 : ¬ (Int32.ofNat n - 5 < x4)) : GoL E a m rc x4 (bd_L_law fu E xs n a m a3 rc x4 S) := by
  unfold bd_L_law bnd
  rw [if_neg h5, if_pos h0]
  dsimp only
  generalize xs x4.toNatClampNeg &&& 31 = v2
  by_cases c0 : v2 = 0
  · rw [if_pos c0]
    exact ls_148 L Lm h3 hfu iz vx vy h1 h2 h3' h4
  rw [if_neg c0]
  by_cases c1 : v2 = 1
  · rw [if_pos c1]
    exact ls_232 L Lm h3 hfu iz vx vy h1 h2 h3' h4
  rw [if_neg c1]
  by_cases c2 : v2 = 2
  · rw [if_pos c2]
    exact ls_300 L Lm h3 hfu iz vx vy h1 h2 h3' h4
  rw [if_neg c2]
  by_cases c3 : v2 = 3
  · rw [if_pos c3]
    exact ls_356 L Lm h3 hfu iz vx vy h1 h2 h3' h4
  rw [if_neg c3]
  by_cases c4 : v2 = 4
  · rw [if_pos c4]
    exact ls_436 L Lm h3 hfu iz vx vy h1 h2 h3' h4
  rw [if_neg c4]
  by_cases c5 : v2 = 5
  · rw [if_pos c5]
    exact ls_511 L Lm h3 hfu iz vx vy h1 h2 h3' h4
  rw [if_neg c5]
  by_cases c6 : v2 = 6
  · rw [if_pos c6]
    exact ls_579 L Lm h3 hfu iz vx vy h1 h2 h3' h4
  rw [if_neg c6]
  by_cases c7 : v2 = 7
  · rw [if_pos c7]
    exact ls_659 L Lm h3 hfu iz vx vy h1 h2 h3' h4
  rw [if_neg c7]
  by_cases c8 : v2 = 8
  · rw [if_pos c8]
    exact ls_727 L Lm h3 hfu iz vx vy h1 h2 h3' h4
  rw [if_neg c8]
  by_cases c9 : v2 = 9
  · rw [if_pos c9]
    exact ls_819 L Lm h3 hfu iz vx vy h1 h2 h3' h4
  rw [if_neg c9]
  by_cases c10 : v2 = 10
  · rw [if_pos c10]
    exact ls_832 L Lm h3 hfu iz vx vy h1 h2 h3' h4
  rw [if_neg c10]
  by_cases c11 : v2 = 11
  · rw [if_pos c11]
    exact ls_888 L Lm h3 hfu iz vx vy h1 h2 h3' h4
  rw [if_neg c11]
  by_cases c12 : v2 = 12
  · rw [if_pos c12]
    exact ls_944 L Lm h3 hfu iz vx vy h1 h2 h3' h4
  rw [if_neg c12]
  by_cases c13 : v2 = 13
  · rw [if_pos c13]
    exact ls_1028 L Lm h3 hfu iz vx vy h1 h2 h3' h4
  rw [if_neg c13]
  by_cases c14 : v2 = 14
  · rw [if_pos c14]
    exact ls_1072 L Lm h3 hfu iz vx vy h1 h2 h3' h4
  rw [if_neg c14]
  by_cases c15 : v2 = 15
  · rw [if_pos c15]
    exact ls_1116 L Lm h3 hfu iz vx vy h1 h2 h3' h4
  rw [if_neg c15]
  by_cases c16 : v2 = 16
  · rw [if_pos c16]
    exact ls_1160 L Lm h3 hfu iz vx vy h1 h2 h3' h4
  rw [if_neg c16]
  by_cases c17 : v2 = 17
  · rw [if_pos c17]
    exact ls_1173 L Lm h3 hfu iz vx vy h1 h2 h3' h4
  rw [if_neg c17]
  by_cases c18 : v2 = 18
  · rw [if_pos c18]
    exact ls_1186 L Lm h3 hfu iz vx vy h1 h2 h3' h4
  rw [if_neg c18]
  by_cases c19 : v2 = 19
  · rw [if_pos c19]
    exact ls_1249 L Lm h3 hfu iz vx vy h1 h2 h3' h4
  rw [if_neg c19]
  by_cases c20 : v2 = 20
  · rw [if_pos c20]
    exact ls_1305 L Lm h3 hfu iz vx vy h1 h2 h3' h4
  rw [if_neg c20]
  by_cases c21 : v2 = 21
  · rw [if_pos c21]
    exact ls_1373 L Lm h3 hfu iz vx vy h1 h2 h3' h4
  rw [if_neg c21]
  by_cases c22 : v2 = 22
  · rw [if_pos c22]
    exact ls_1441 L Lm h3 hfu iz vx vy h1 h2 h3' h4
  rw [if_neg c22]
  by_cases c23 : v2 = 23
  · rw [if_pos c23]
    exact ls_1504 L Lm h3 hfu iz vx vy h1 h2 h3' h4
  rw [if_neg c23]
  exact ⟨S, z, rfl, iz, vx, vy⟩
theorem n5_lt {n : Nat} (hn : n < 5) {i : Nat} (hi : i < 100000) : n32 n - 5 < n32 (5 * i) := by
  rw [z_i32, z_int (show 5 * i < 2 ^ 31 by omega)]
  have : n = 0 ∨ n = 1 ∨ n = 2 ∨ n = 3 ∨ n = 4 := by omega
  have h : (n32 n - 5).toInt < 0 := by
    rcases this with rfl | rfl | rfl | rfl | rfl <;> decide
  omega
theorem law_lp (L : LX E a) (Lm : LR E m) (h3 : E.1 a3 = some (1, 2, 1)) (hfu : 1000000 ≤ fu) (hn : n ≤ 2560) : ∀ (k i F : Nat) (S : St) (z : Zs), n < 5 * i + 5 + 5 * k → 5 * i ≤ n + 5 → k + 1 ≤ F → IZ z → VX E S a z → VY E S m z → ∃ S', lp_L_law fu E xs n a m a3 F (n32 (5 * i)) S = some (1, S') := by
  intro k
  have fin : ∀ (i F : Nat) (S : St), n < 5 * i + 5 → 5 * i ≤ n + 5 → ∃ S', lp_L_law fu E xs n a m a3 (F + 1) (n32 (5 * i)) S = some (1, S') := by
    intro i F S h1 h2
    refine ⟨S, ?_⟩
    show bd_L_law fu E xs n a m a3 _ (n32 (5 * i)) S = _
    unfold bd_L_law
    refine if_pos ?_
    by_cases c : n < 5
    · exact n5_lt c (by omega)
    · rw [show Int32.ofNat n - 5 = n32 (n - 5) from z_sub (show 5 ≤ n by omega), z_lt (by omega) (by omega)]
      omega
  induction k with
  | zero =>
    intro i F S z h1 h2 hF iz vx vy
    obtain ⟨F, rfl⟩ : ∃ z, F = z + 1 := ⟨F - 1, by omega⟩
    exact fin i F S (by omega) h2
  | succ k ih =>
    intro i F S z h1 h2 hF iz vx vy
    obtain ⟨F, rfl⟩ : ∃ z, F = z + 1 := ⟨F - 1, by omega⟩
    by_cases c : n < 5 * i + 5
    · exact fin i F S c h2
    · have hin : ∀ j : Nat, j < 5 → inb (n32 (5 * i) + n32 j) n = true := fun j hj => by
        rw [z_add, z_inb (by omega)]; omega
      have h0 : inb (n32 (5 * i)) n = true := by rw [z_inb (by omega)]; omega
      have h5 : ¬ (Int32.ofNat n - 5 < n32 (5 * i)) := by
        rw [show Int32.ofNat n - 5 = n32 (n - 5) from z_sub (show 5 ≤ n by omega), z_lt (by omega) (by omega)]
        omega
      obtain ⟨S1, z1, e1, iz1, vx1, vy1⟩ := ls_all (xs := xs) (rc := lp_L_law fu E xs n a m a3 F) L Lm h3 hfu iz vx vy (hin 1 (by decide)) (hin 2 (by decide)) (hin 3 (by decide)) (hin 4 (by decide)) h0 h5
      obtain ⟨S', e⟩ := ih (i + 1) F S1 z1 (by omega) (by omega) (by omega) iz1 vx1 vy1
      refine ⟨S', ?_⟩
      show bd_L_law fu E xs n a m a3 (lp_L_law fu E xs n a m a3 F) (n32 (5 * i)) S = _
      rw [e1, show n32 (5 * i) + 5 = n32 (5 * (i + 1)) from (z_add (5 * i) 5).trans (congrArg n32 (by omega))]
      exact e
end LST
