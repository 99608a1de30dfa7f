/-! ===== the law's script; room left over ===== -/
def zScr (N : Nat) (xs : Nat → Int32) (i : Int) (K : Int → Option ZRes) : Option ZRes := if 0 ≤ w32 i ∧ w32 i < N then K (xs (w32 i).toNat).toInt else none
section ZS
variable {f : ZCf} {n0 : Nat} {S1 S : List ZSh} {pc : Nat} {L : List (Nat × ZV)} {st : List ZV} {μ : ZMem} {kc ks kc' ks' : Nat} {o : Option ZRes} {N : Nat} {xs : Nat → Int32}
theorem AW.scrA {i : Int} {K : Int → Option ZRes} (hd : decode (zcc f) pc = .ok (.iaload, 1)) (hz : zsc f = some (N, xs)) (k : ∀ x, AW f n0 S1 S (pc + 1) L (zI x :: st) μ kc ks (K x)) : AW f n0 S1 S pc L (zI i :: zR (some zSC) :: st) μ kc ks (zScr N xs i K) := by
  intro p l e R s m args below meth c D G ad0 adV A Q C r hr hE ad H locs ls hg hP hD hS hl
  unfold zScr at hr
  by_cases h : 0 ≤ w32 i ∧ w32 i < N
  · rw [if_pos h] at hr
    have w := k _ p l e R s m args below meth c D G ad0 adV A Q C r hr hE ad H locs ls hg hP hD hS hl
    obtain ⟨hx, hb, -, hml, hown, hts, -, -, -, hX, -, -, -, ⟨-, hq⟩, -⟩ := C
    obtain ⟨q1, q2, q3⟩ := hq _ hz
    have ea : ad zSC = ad0 zSC := hg zSC (Or.inr (by decide))
    refine va_sld hx hb (b := ad zSC) (L := N) (xs := xs) (by rw [ea]; exact q1) (by rw [ea]; exact q2) (by rw [ea]; exact q3) hS (i := Int32.ofInt i) (zin32.mpr ⟨h.1, h.2⟩) hd ?_
    have e1 := zclamp h.1
    have e2 : (Int32.ofInt i).toNatClampNeg = (w32 i).toNat := by omega
    rw [e2]
    have e3 : zTr ad (zI (xs (w32 i).toNat).toInt) = .int (xs (w32 i).toNat) := by
      show Value.int (Int32.ofInt _) = _
      rw [Int32.ofInt_toInt]
    rw [List.map_cons, e3] at w
    exact w
  · rw [if_neg h] at hr
    cases hr
theorem AW.scrL (hd : decode (zcc f) pc = .ok (.arraylength, 1)) (hz : zsc f = some (N, xs)) (k : AW f n0 S1 S (pc + 1) L (zI (N : Int) :: st) μ kc ks o) : AW f n0 S1 S pc L (zR (some zSC) :: st) μ kc ks o := by
  intro p l e R s m args below meth c D G ad0 adV A Q C r hr hE ad H locs ls hg hP hD hS hl
  have w := k p l e R s m args below meth c D G ad0 adV A Q C r hr hE ad H locs ls hg hP hD hS hl
  obtain ⟨hx, hb, -, hml, hown, hts, -, -, -, hX, -, -, -, ⟨-, hq⟩, -⟩ := C
  obtain ⟨q1, q2, q3⟩ := hq _ hz
  have ea : ad zSC = ad0 zSC := hg zSC (Or.inr (by decide))
  refine va_slen hx hb (b := ad zSC) (L := N) (xs := xs) (by rw [ea]; exact q1) (by rw [ea]; exact q2) (by rw [ea]; exact q3) hS hd ?_
  exact w
theorem AW.wid (h1 : kc ≤ kc') (h2 : ks ≤ ks') (k : AW f n0 S1 S pc L st μ kc' ks' o) : AW f n0 S1 S pc L st μ kc ks o := by
  intro p l e R s m args below meth c D G ad0 adV A Q C r hr hE ad H locs ls hg hP hD hS hl
  exact W.widen h1 h2 (k p l e R s m args below meth c D G ad0 adV A Q C r hr hE ad H locs ls hg hP hD hS hl)
end ZS
