def z00 : Zs := (((3, (fun _ => 2), fun _ => false), ((0, (fun _ => 0), fun _ => 0), (0, (fun _ => 0), (fun _ => 0), (fun _ => 0), (fun _ => 0), fun _ _ => 0)), ((false, 0, 0, 0), (0, (fun _ => 0), fun _ => 0), (0, (fun _ => 0), (fun _ => 0), (fun _ => 0), fun _ => 0))), ((0, fun _ => 0), ((fun _ => -2), (fun _ => 0), 0, false), 0), ((fun _ => none), fun _ => none), -1, 0)
theorem no_lt {P : Nat → Prop} : ∀ i, i < 0 → P i := fun i hi => absurd hi (Nat.not_lt_zero i)
theorem iz_00 : IZ z00 := ⟨⟨⟨by decide, by decide, fun b h1 h2 => absurd h2 (Nat.not_lt.mpr h1), fun _ _ => rfl⟩, ⟨Nat.zero_le _, Nat.zero_le _, no_lt, no_lt⟩, ⟨fun e => (by cases e), Nat.zero_le _, Nat.zero_le _, Nat.zero_le _, Nat.zero_le _, no_lt, no_lt⟩⟩, ⟨Nat.zero_le _, Nat.zero_le _, no_lt⟩, ⟨Nat.zero_le _, ⟨fun _ _ => (Or.inr (Or.inl ⟨by decide, by decide⟩) : svA z00.1.1 (-2)), no_lt, Nat.zero_le _⟩, fun _ _ _ => rfl, rfl⟩, (fun _ _ _ e => by cases e), (fun _ _ _ e => by cases e), Or.inl (fun _ _ => rfl), fun _ _ => rfl⟩
section INI
variable {E : Ev} {S : St} {a m : Nat}
theorem we_ini (hb : Bs E) (hF : ∀ q t, E.1 q = some t → Ful E S q t) : WE E := ⟨hb.1, fun a ci j t ha hf => ((hF a _ ha).1 rfl).1 j t hf, fun a N i ha hi => (hF a _ ha).2.1 rfl rfl i hi⟩
theorem vx_ini {ty me co dr inf de J K sc dl ds ds0 prJ caJ exJ maJ peJ prK caK exK maK : Nat} (hb : Bs E) (hF : ∀ q t, E.1 q = some t → Ful E S q t) (o9 : Obj 9 a [(8, K), (7, J), (6, de), (5, inf), (3, dr), (2, co), (1, me), (0, ty)] [(10, 0), (9, -1), (4, 0)] E S) (oty : Obj 8 ty [(1, ds0), (0, sc)] [(2, 3)] E S) (isc : ∀ i, i < 3 → S.2.1 sc i = -1) (odr : Obj 2 dr [(1, ds), (0, dl)] [] E S) (idl : ∀ i, i < 12 → S.2.1 dl i = -2) (oJ : Obj 4 J [(9, inf), (10, peJ), (7, maJ), (6, exJ), (0, co), (5, me), (1, ty), (8, caJ), (2, prJ)] [(4, 0), (3, -1)] E S) (oexJ : Obj 1 exJ [(2, co), (1, me), (0, ty)] [(3, -1)] E S) (omaJ : Obj 6 maJ [(2, co), (1, me), (0, ty)] [(4, 0)] E S) (oK : Obj 5 K [(9, de), (7, maK), (6, exK), (0, co), (5, me), (1, ty), (8, caK), (2, prK)] [(4, 0), (3, -1)] E S) (oexK : Obj 1 exK [(2, co), (1, me), (0, ty)] [(3, -1)] E S) (omaK : Obj 6 maK [(2, co), (1, me), (0, ty)] [(4, 0)] E S) (nid : inf ≠ de) : LX E a ∧ VX E S a z00 := by
  have hE := we_ini hb hF
  have q0 : E.2 a 0 = ty := congrFun o9.2.1 0
  have q1 : E.2 a 1 = me := congrFun o9.2.1 1
  have q2 : E.2 a 2 = co := congrFun o9.2.1 2
  have q3 : E.2 a 3 = dr := congrFun o9.2.1 3
  have q5 : E.2 a 5 = inf := congrFun o9.2.1 5
  have q6 : E.2 a 6 = de := congrFun o9.2.1 6
  have q7 : E.2 a 7 = J := congrFun o9.2.1 7
  have q8 : E.2 a 8 = K := congrFun o9.2.1 8
  have ft : ∀ {x ci : Nat}, E.1 x = some (0, ci, 0) → S.1 x = vi (inil ci) := fun h => ((hF _ _ h).1 rfl).2
  have bz : ∀ {x ci : Nat} (j N : Nat), E.1 x = some (0, ci, 0) → (ftab ci)[j]? = some (some (1, 1, N)) → S.2.1 (E.2 x j) = fun _ => 0 := fun j N hx h => (hF _ _ (hE.2.1 _ _ j _ hx h)).2.2 rfl rfl
  have tI : E.1 inf = some (0, 3, 0) := by rw [← q5]; exact hE.2.1 a 9 5 _ o9.1 rfl
  have tR : E.1 de = some (0, 3, 0) := by rw [← q6]; exact hE.2.1 a 9 6 _ o9.1 rfl
  have tB : E.1 me = some (0, 7, 0) := by rw [← q1]; exact hE.2.1 a 9 1 _ o9.1 rfl
  have tC : E.1 co = some (0, 0, 0) := by rw [← q2]; exact hE.2.1 a 9 2 _ o9.1 rfl
  have jl : ∀ i, E.2 J i = vl [(9, inf), (10, peJ), (7, maJ), (6, exJ), (0, co), (5, me), (1, ty), (8, caJ), (2, prJ)] i := fun i => congrFun oJ.2.1 i
  have kl : ∀ i, E.2 K i = vl [(9, de), (7, maK), (6, exK), (0, co), (5, me), (1, ty), (8, caK), (2, prK)] i := fun i => congrFun oK.2.1 i
  have J7 : E.2 J 7 = maJ := jl 7
  have J6 : E.2 J 6 = exJ := jl 6
  have K7 : E.2 K 7 = maK := kl 7
  have K6 : E.2 K 6 = exK := kl 6
  refine ⟨⟨hE, hb.2.1, o9.1, ?_, ?_, ⟨?_, ?_, ?_, ?_⟩, ?_, ?_, ?_, ?_, ?_⟩, ?_⟩
  · rw [q7]
    refine ⟨hE, hb.2.1, oJ.1, ⟨?_, ?_, ?_⟩, ?_, ?_, ?_⟩
    · rw [J7]; exact (congrFun omaJ.2.1 0).trans (jl 1).symm
    · rw [J7]; exact (congrFun omaJ.2.1 1).trans (jl 5).symm
    · rw [J7]; exact (congrFun omaJ.2.1 2).trans (jl 0).symm
    · rw [J6]; exact (congrFun oexJ.2.1 0).trans (jl 1).symm
    · rw [J6]; exact (congrFun oexJ.2.1 1).trans (jl 5).symm
    · rw [J6]; exact (congrFun oexJ.2.1 2).trans (jl 0).symm
  · rw [q8]
    refine ⟨hE, hb.2.1, oK.1, ⟨?_, ?_, ?_⟩, ?_, ?_, ?_⟩
    · rw [K7]; exact (congrFun omaK.2.1 0).trans (kl 1).symm
    · rw [K7]; exact (congrFun omaK.2.1 1).trans (kl 5).symm
    · rw [K7]; exact (congrFun omaK.2.1 2).trans (kl 0).symm
    · rw [K6]; exact (congrFun oexK.2.1 0).trans (kl 1).symm
    · rw [K6]; exact (congrFun oexK.2.1 1).trans (kl 5).symm
    · rw [K6]; exact (congrFun oexK.2.1 2).trans (kl 0).symm
  · rw [q7, q2]; exact jl 0
  · rw [q7, q0]; exact jl 1
  · rw [q7, q1]; exact jl 5
  · rw [q7, q5]; exact jl 9
  · rw [q8, q2]; exact kl 0
  · rw [q8, q0]; exact kl 1
  · rw [q8, q1]; exact kl 5
  · rw [q8, q6]; exact kl 9
  · rw [q5, q6]; exact nid
  · have sB := ft tB
    have sC := ft tC
    have tb : ∀ x, E.1 x = some (0, 3, 0) → VTb E S x (fun _ => none) := fun x hx => ⟨fun i hi => by rw [bz 1 100 hx rfl]; rfl, (fun _ _ _ e => by cases e), by rw [ft hx, cntT_none]; rfl⟩
    refine ⟨⟨⟨?_, fun b hb => ?_, fun b h1 h2 => absurd h2 (Nat.not_lt.mpr h1), fun b hb => ?_⟩, ⟨?_, ?_, no_lt, no_lt⟩, ?_, ?_, ?_, ?_, ?_, ?_, no_lt, no_lt⟩, ⟨?_, ?_, no_lt⟩, ⟨⟨fun i hi => ?_, no_lt, ?_, ?_⟩, ?_⟩, ?_, ?_, ?_, ?_⟩
    · rw [q0, oty.2.2.1]; rfl
    · rw [q0, show E.2 ty 0 = sc from congrFun oty.2.1 0]; exact isc b hb
    · rw [q0, bz 1 20 oty.1 rfl]; rfl
    · rw [q1, sB]; rfl
    · rw [q1, sB]; rfl
    · rw [q2, sC]; rfl
    · rw [q2, sC]; rfl
    · rw [q2, sC]; rfl
    · rw [q2, sC]; rfl
    · rw [q2, sC]; rfl
    · rw [q2, sC]; rfl
    · rw [q1, sB]; rfl
    · rw [q1, sB]; rfl
    · rw [q3, show E.2 dr 0 = dl from congrFun odr.2.1 0]; exact idl i hi
    · rw [q3, odr.2.2.1]; rfl
    · rw [q3, odr.2.2.1]; rfl
    · rw [o9.2.2.1]; rfl
    · rw [q5]; exact tb _ tI
    · rw [q6]; exact tb _ tR
    · rw [o9.2.2.1]; rfl
    · rw [o9.2.2.1]; rfl
end INI
