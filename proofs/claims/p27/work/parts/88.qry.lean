section QRY
variable {E : Ev} {S : St} {a m a3 fu : Nat} {z : Zs}
theorem idx_n {c : Cd} {x : Int32} (h : idx c x = true) : ∃ n, x = n32 n ∧ n < cn c ∧ n < 2 ^ 31 := by
  unfold idx at h
  rw [Bool.and_eq_true] at h
  obtain ⟨n, hn, e⟩ := ge0_n h.1
  have := h.2
  rw [e, z_nat hn, decide_eq_true_eq] at this
  exact ⟨n, e, this, hn⟩
theorem t_rqI (iz : IZ z) (vx : VX E S a z) (x : Int32) : sp_X11_requireIndex fu E S a x = some (if idx z.1.2.2 x = true then .inr () else .inl "java/lang/IndexOutOfBoundsException", S) := by
  unfold sp_X11_requireIndex
  rw [t_idx vx.1.2.2 iz.1.2.2.2.2.2.1, Option.bind_some, b2_if]
  by_cases c : idx z.1.2.2 x = true
  · rw [if_pos c, if_pos c]
  · rw [if_neg c, if_neg c]
theorem t_rqF (iz : IZ z) (vx : VX E S a z) (x : Int32) : sp_X11_requireFrame fu E S a x = some (if idx z.1.2.2 x = true then (if (zI z x.toNatClampNeg).isSome = true then .inr () else .inl "java/lang/IllegalStateException") else .inl "java/lang/IndexOutOfBoundsException", S) := by
  have h100 := iz.1.2.2.2.2.2.1
  unfold sp_X11_requireFrame
  rw [t_rqI iz vx, Option.bind_some]
  by_cases c : idx z.1.2.2 x = true
  · obtain ⟨n, rfl, hn, h31⟩ := idx_n c
    rw [if_pos c, if_pos c]
    show ((sp_X4_contains fu E S (E.2 a 5) (n32 n)).bind fun u5 => if u5.1 = 0 then some (Sum.inl "java/lang/IllegalStateException", u5.2) else some (Sum.inr (), u5.2)) = _
    rw [t_has vx.2.2.2.1 (by omega), Option.bind_some, b2_if, z_nat h31]
    by_cases c2 : (zI z n).isSome = true
    · rw [if_pos c2, if_pos c2]
    · rw [if_neg c2, if_neg c2]
  · rw [if_neg c, if_neg c]; rfl
end QRY
