/-! ===== the rules of the walk: answers that are references, arrays of objects ===== -/
def zkRc (r0 : Nat) (K : ZMem → Option ZRes) (v : Option ZV) (ν : ZMem) : Option ZRes := match v with
  | some (.inr (.inr (.inr (.inr (some a))))) => if a = r0 then K ν else none
  | _ => none
section ZQ
variable {f : ZCf} {n0 : Nat} {S1 S : List ZSh} {pc : Nat} {L : List (Nat × ZV)} {st : List ZV} {μ : ZMem} {kc ks : Nat} {o : Option ZRes}
theorem AW.kRc {K : ZMem → Option ZRes} {r0 : Nat} {ν μ : ZMem} (h : AW f n0 S1 S pc L (zR (some r0) :: st) μ kc ks (K ν)) : ∀ v : Option ZV, AW f n0 S1 S pc L (v.toList ++ st) μ kc ks (zkRc r0 K v ν) := by
  intro v
  rcases v with _ | a | a | a | a | a
  · exact AW.noth
  · exact AW.noth
  · exact AW.noth
  · exact AW.noth
  · exact AW.noth
  · cases a with
    | none => exact AW.noth
    | some a =>
      show AW f n0 S1 S pc L (zR (some a) :: st) μ kc ks (if a = r0 then K ν else none)
      by_cases e : a = r0
      · rw [if_pos e, e]; exact h
      · rw [if_neg e]; exact AW.noth
theorem AW.aald {r i x n : Nat} {rs : List (Option Nat)} (hd : decode (zcc f) pc = .ok (.aaload, 1)) (hS : S[r]? = some (.inr (2, n, rs))) (hx : rs.getD i none = some x) (hi : i < n ∧ i < 100) (k : AW f n0 S1 S (pc + 1) L (zR (some x) :: st) μ kc ks o) : AW f n0 S1 S pc L (zI i :: zR (some r) :: st) μ kc ks o := by
  intro p l e R s m args below meth c D G ad0 adV A Q C r9 hr hE ad H locs ls hg hP hD hS9 hl
  have w := k p l e R s m args below meth c D G ad0 adV A Q C r9 hr hE ad H locs ls hg hP hD hS9 hl
  obtain ⟨hx9, hb, -, -, -, -, -, hK, -⟩ := C
  have en : w32 (i : Int) = i := w32_of (by omega) (by omega)
  have e1 : ((Int32.ofInt (i : Int)).toNatClampNeg : Int) = i := by rw [zclamp (by rw [en]; omega), en]
  have e2 : (Int32.ofInt (i : Int)).toNatClampNeg = i := by omega
  refine va_aldq hx9 hb hK hP r 2 (zConc_at hS) rfl (i := Int32.ofInt i) (zin32.mpr (by rw [en]; omega)) hd ?_
  rw [e2, hx]
  exact w
end ZQ
