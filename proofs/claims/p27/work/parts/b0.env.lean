/-! the start: what the Statement gives, in the judgement's words -/
/-- a private method is its own answer for objects of a subclass too -/
theorem sel_inh {C C0 : String} {y x0 y0 : MethodName} {s : State} {args : Array Value} {n : Nat} (hy : y.cls ≠ "java/lang/invoke/MethodHandle" ∧ y.cls ≠ "java/lang/invoke/VarHandle") (hC : (Cond.instantiable C n).before args s = true) (hpriv : (Cond.privateMethod y).before args s = true) (hinst : (Cond.instanceMethod y).before args s = true) (hany : (Cond.selects C0 x0 y0).before args s = true) (he : y0.cls = y.cls) : (Cond.selects C y y).before args s = true := by
  obtain ⟨c, k, hc, hk, -⟩ := Cond.instantiable_spec hC
  obtain ⟨mk, methM, hnamed, hmethM, -, -⟩ := Cond.instanceMethod_spec hinst
  have hfound : s.methodFound? y.cls y.name y.desc = some mk := State.methodFound?_of_named hnamed hy
  have hsel : selectMethod {} s.vm c mk = .method mk := selectMethod_private hmethM (Cond.privateMethod_at hpriv mk methM hnamed hmethM)
  obtain ⟨c9, r9, m9, -, -, h9, -, k9, h9k, hni⟩ := Cond.selects_spec hany
  have f1 := findClass_of_methodNamed h9
  rw [he] at f1
  have hcls : m9.cls = mk.cls := Option.some.inj (f1.symm.trans (findClass_of_methodNamed hnamed))
  rw [hcls] at h9k
  simp only [Cond.before, Cond.holds, Cond.value, hc, hfound, hnamed, hsel, h9k]
  simp; exact hni
section STA
variable {s : State} {b : Nat}
theorem ex_ok (hts : ∀ w ∈ lw_tbl, w.before #[Value.ref b] s = true) : ∀ w ∈ EX, w.before #[Value.ref b] s = true := by
  have h5 := hts (.instantiable RX5 11) (List.mem_of_getElem? (i := 285) (by decide +kernel))
  have h6 := hts (.instantiable RX6 10) (List.mem_of_getElem? (i := 395) (by decide +kernel))
  have p1 := hts (.privateMethod yX0_flowToHandlers) (List.mem_of_getElem? (i := 770) (by decide +kernel))
  have i1 := hts (.instanceMethod yX0_flowToHandlers) (List.mem_of_getElem? (i := 771) (by decide +kernel))
  have p2 := hts (.privateMethod yX0_flowToSuccessors) (List.mem_of_getElem? (i := 946) (by decide +kernel))
  have i2 := hts (.instanceMethod yX0_flowToSuccessors) (List.mem_of_getElem? (i := 947) (by decide +kernel))
  have an := hts (.selects RX5 ⟨RX5, "examine", "()I"⟩ ⟨"CodeVerifier$Analysis", "examine", "()I"⟩) (List.mem_of_getElem? (i := 706) (by decide +kernel))
  exact List.forall_mem_cons.mpr ⟨sel_inh ⟨by decide +kernel, by decide +kernel⟩ h5 p1 i1 an rfl, List.forall_mem_cons.mpr ⟨sel_inh ⟨by decide +kernel, by decide +kernel⟩ h5 p2 i2 an rfl, List.forall_mem_cons.mpr ⟨sel_inh ⟨by decide +kernel, by decide +kernel⟩ h6 p1 i1 an rfl, List.forall_mem_cons.mpr ⟨sel_inh ⟨by decide +kernel, by decide +kernel⟩ h6 p2 i2 an rfl, fun _ h => absurd h List.not_mem_nil⟩⟩⟩⟩
theorem gw_ok (hts : ∀ w ∈ lw_tbl, w.before #[Value.ref b] s = true) : ∀ w ∈ GW, w.before #[Value.ref b] s = true := fun w hw => by
  have h := (List.mem_filter.mp hw).1
  rcases List.mem_append.mp h with h | h
  · exact ex_ok hts w h
  · exact hts w h
def stOk : Cond → Bool := fun w => match w with
  | .stringRef c k _ => decide (Cond.exactly (.string c k) "java/lang/String" ∈ flatC (Jvm.Cond.and given_1 narrow_1))
  | _ => true
theorem st_all : lw_tbl.all stOk = true := by decide +kernel
theorem j_env0 (hts : ∀ w ∈ lw_tbl, w.before #[Value.ref b] s = true) (hgv : (Jvm.Cond.and given_1 narrow_1).before #[Value.ref b] s = true) : j_Env s := by
  have hf := flat_of_before _ hgv
  refine ⟨fun w hw => word_at (State.WarmedH.refl s) (good_of_word (List.mem_filter.mp hw).2) (gw_ok hts w hw), fun w hw => ?_, fun w hw => ?_, fun w hw => ?_, fun c k tx h => ?_, ?_, va_AO.of (hts _ (List.mem_of_getElem? (i := 268) (by decide +kernel)))⟩
  · have hv := (List.mem_filter.mp hw).2
    have hZ := hts w (List.mem_filter.mp hw).1
    cases w <;> first | (simp [isCst] at hv; done) | exact va_Nw.of rfl hZ
  · have hv := (List.mem_filter.mp hw).2
    have hZ := hts w (List.mem_filter.mp hw).1
    cases w <;> first | (simp [isNst] at hv; done) | exact va_Nw.of rfl hZ
  · have hv := (List.mem_filter.mp hw).2
    have hZ := hts w (List.mem_filter.mp hw).1
    cases w <;> first | (simp [isDcl] at hv; done) | exact va_Nw.of rfl hZ
  · have h1 : stOk (.stringRef c k tx) = true := List.all_eq_true.mp st_all _ h
    have h2 := hf _ (of_decide_eq_true h1)
    obtain ⟨a, c0, cA, kA, q1, -⟩ := Cond.exactly_spec (args := #[Value.ref b]) (first := s) (o := none) (s := s) (idx := []) (t := .string c k) (cls := "java/lang/String") h2
    exact ⟨a, vk_R.of (hts _ h) q1⟩
  · exact fun _ h => absurd h List.not_mem_nil
/-- the classes and the array classes -/
theorem k_env0 (hts : ∀ w ∈ lw_tbl, w.before #[Value.ref b] s = true) : ∃ (D : va_G) (cA : Nat → ClassId), va_K D vwCl (j_tys cA) s := by
  have hG := gw_ok hts
  obtain ⟨c0, i0, k0⟩ := u_known (ws := GW) hG ig_X1 (hG (.instantiable RX1 12) (gw (i := 152) (by decide +kernel) (by decide +kernel)))
  obtain ⟨c1, i1, k1⟩ := u_known (ws := GW) hG ig_X2 (hG (.instantiable RX2 4) (gw (i := 300) (by decide +kernel) (by decide +kernel)))
  obtain ⟨c2, i2, k2⟩ := u_known (ws := GW) hG ig_X3 (hG (.instantiable RX3 4) (gw (i := 225) (by decide +kernel) (by decide +kernel)))
  obtain ⟨c3, i3, k3⟩ := u_known (ws := GW) hG ig_X4 (hG (.instantiable RX4 3) (gw (i := 266) (by decide +kernel) (by decide +kernel)))
  obtain ⟨c4, i4, k4⟩ := u_known (ws := GW) hG ig_X5 (hG (.instantiable RX5 11) (gw (i := 289) (by decide +kernel) (by decide +kernel)))
  obtain ⟨c5, i5, k5⟩ := u_known (ws := GW) hG ig_X6 (hG (.instantiable RX6 10) (gw (i := 399) (by decide +kernel) (by decide +kernel)))
  obtain ⟨c6, i6, k6⟩ := u_known (ws := GW) hG ig_X7 (hG (.instantiable RX7 5) (gw (i := 320) (by decide +kernel) (by decide +kernel)))
  obtain ⟨c7, i7, k7⟩ := u_known (ws := GW) hG ig_X8 (hG (.instantiable RX8 13) (gw (i := 94) (by decide +kernel) (by decide +kernel)))
  obtain ⟨c8, i8, k8⟩ := u_known (ws := GW) hG ig_X10 (hG (.instantiable RX10 3) (gw (i := 74) (by decide +kernel) (by decide +kernel)))
  obtain ⟨c9, i9, k9⟩ := u_known (ws := GW) hG ig_X11 (hG (.instantiable RX11 11) (gw (i := 66) (by decide +kernel) (by decide +kernel)))
  obtain ⟨aI, kI, mI, f1, f2, f3⟩ := Cond.arrayClass_spec (hG _ ac_i)
  obtain ⟨aZ, kZ, mZ, g1, g2, g3⟩ := Cond.arrayClass_spec (hG _ ac_z)
  obtain ⟨mF, aF, kF, h1, -, h3, h4, h5⟩ := Cond.arrayOver_spec (hts (.arrayOver (.object "CodeVerifier$Frame")) (List.mem_of_getElem? (i := 268) (by decide +kernel)))
  refine ⟨(fun k => match k with
    | 0 => c0
    | 1 => c1
    | 2 => c2
    | 3 => c3
    | 4 => c4
    | 5 => c5
    | 6 => c6
    | 7 => c7
    | 8 => c8
    | _ => c9, fun k => match k with
    | 0 => i0
    | 1 => i1
    | 2 => i2
    | 3 => i3
    | 4 => i4
    | 5 => i5
    | 6 => i6
    | 7 => i7
    | 8 => i8
    | _ => i9), (fun k => match k with
    | 0 => aI
    | 1 => aZ
    | 2 => aZ
    | _ => aF), fun c q hq => ?_, fun k q hq => ?_⟩
  · match c, hq with
    | 0, hq => cases hq; exact k0
    | 1, hq => cases hq; exact k1
    | 2, hq => cases hq; exact k2
    | 3, hq => cases hq; exact k3
    | 4, hq => cases hq; exact k4
    | 5, hq => cases hq; exact k5
    | 6, hq => cases hq; exact k6
    | 7, hq => cases hq; exact k7
    | 8, hq => cases hq; exact k8
    | 9, hq => cases hq; exact k9
    | c + 10, hq => cases hq
  · match k, hq with
    | 0, hq => cases hq; exact ⟨fun n z => ⟨fun k h => (by cases h), kI, f2, mI, f3⟩, f1⟩
    | 1, hq => cases hq; exact ⟨fun n z => ⟨fun k h => (by cases h), kZ, g2, mZ, g3⟩, g1⟩
    | 2, hq => cases hq; exact ⟨fun n z => ⟨fun k h => (by cases h), kZ, g2, mZ, g3⟩, g1⟩
    | 3, hq => cases hq; exact ⟨fun n z => ⟨fun k h => (by cases h), kF, h3, mF, h4⟩, kF, mF, h3, h4, h1, h5⟩
    | k + 4, hq => cases hq
theorem z_env0 (hts : ∀ w ∈ lw_tbl, w.before #[Value.ref b] s = true) (hgv : (Jvm.Cond.and given_1 narrow_1).before #[Value.ref b] s = true) : vx_Zq Bundle.tN "UNASSIGNED_STACK" Bundle.steD (fun q => s.heap.size ≤ q) s s.heap ∧ vx_Zq Bundle.tN "SUPPRESSED_SENTINEL" Bundle.listD (fun q => s.heap.size ≤ q) s s.heap := by
  have hf := flat_of_before _ hgv
  have hi := hts (.initialized Bundle.tN) (List.mem_of_getElem? (i := 51) (by decide +kernel))
  exact ⟨vx_Zqof (hts _ (List.mem_of_getElem? (i := 482) (by decide +kernel))) hi (hf _ (by decide +kernel)) (fun a h => Nat.not_le.mpr h), vx_Zqof (hts _ (List.mem_of_getElem? (i := 484) (by decide +kernel))) hi (hf _ (by decide +kernel)) (fun a h => Nat.not_le.mpr h)⟩
end STA
