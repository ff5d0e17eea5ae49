section GP
variable {σ : Type}
def gHd (A : Enw) (fl : Fr → Nat → σ → Int32 × σ) (i : Nat) (f : Fr) : Nat → Nat → σ → Int32 × σ
  | _, 0, s => (0, s)
  | h, k + 1, s => if prot A.2.2 h i = true then (if cmost A.2.2 = 0 then (6, s) else if (fl (cauF A.2.2 h f) (tgt A.2.2 h) s).1 = 0 then gHd A fl i f (h + 1) k (fl (cauF A.2.2 h f) (tgt A.2.2 h) s).2 else (fl (cauF A.2.2 h f) (tgt A.2.2 h) s)) else gHd A fl i f (h + 1) k s
def gS1 (A : Enw) (nf : Fr → Nat → σ → Int32 × σ) (i : Nat) (f : Fr) (s : σ) : Int32 × σ := if fal (cop A.2.2 i) = true then (if i + 1 < cn A.2.2 then nf f (i + 1) s else (7, s)) else (0, s)
def gSu (A : Enw) (fl nf : Fr → Nat → σ → Int32 × σ) (i : Nat) (f : Fr) (s : σ) : Int32 × σ := if (gS1 A nf i f s).1 = 0 then (if jmp (cop A.2.2 i) = true then fl f (cx A.2.2 i).toNatClampNeg (gS1 A nf i f s).2 else gS1 A nf i f s) else gS1 A nf i f s
def gPr (A : Enw) (fl nf : Fr → Nat → σ → Int32 × σ) (i : Nat) (f : Fr) (s : σ) : Int32 × σ := if (gHd A fl i f 0 (chn A.2.2) s).1 = 0 then (if (aExec A i f).2 = 0 then gSu A fl nf i (aExec A i f).1 (gHd A fl i f 0 (chn A.2.2) s).2 else ((aExec A i f).2, (gHd A fl i f 0 (chn A.2.2) s).2)) else gHd A fl i f 0 (chn A.2.2) s
variable {E : Ev} {S : St} {m fu : Nat} {A : Enw} {Q : St → σ → Prop} {fl nf : Fr → Nat → σ → Int32 × σ}
end GP
