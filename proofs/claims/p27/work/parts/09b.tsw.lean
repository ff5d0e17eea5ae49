/-! switches: the values that go elsewhere, and the others -/
def tswc (dflt lo hi : Int) (offs : Array Int) (vals : List Int32) : Bool := decide ((offs.size : Int) = hi - lo + 1) && (List.range offs.size).all (fun i => offs[i]? == some dflt || vals.any (fun v => v.toInt == lo + i))
section KS
variable {α : Type} {M : Mt} {X : Cx} {E : Ev} {pc : Nat} {ls : List (Nat × Value)} {st : List Value} {S : St} {k n : Nat} {o : Option α} {t : α}
theorem K_tswD {dflt lo hi : Int} {offs : Array Int} {len : Nat} {x : Int32} {tgt : Nat} (vals : List Int32) (hd : decode M.2.1 pc = .ok (.tableswitch dflt lo hi offs, len)) (hv : ∀ v ∈ vals, ¬ x = v) (hc : tswc dflt lo hi offs vals = true) (ht : (pc : Int) + dflt = (tgt : Int)) (kk : K M X E tgt ls st S k n o t) : K M X E pc ls (.int x :: st) S k n o t := by
  unfold tswc at hc
  rw [Bool.and_eq_true, decide_eq_true_eq] at hc
  obtain ⟨h1, h2⟩ := hc
  by_cases hr : x.toInt < lo ∨ hi < x.toInt
  · exact K_tswOut hd hr ht kk
  · have hi9 : (x.toInt - lo).toNat < offs.size := by omega
    have h3 := List.all_eq_true.mp h2 _ (List.mem_range.mpr hi9)
    rw [Bool.or_eq_true, beq_iff_eq] at h3
    rcases h3 with h3 | h3
    · exact fun e => J_tswIn hd (by omega) (by omega) h3 ht (kk e)
    · obtain ⟨v, hv1, hv2⟩ := List.any_eq_true.mp h3
      rw [beq_iff_eq] at hv2
      exact absurd (Int32.toInt_inj.mp (by rw [hv2]; omega)) (hv v hv1)
end KS
