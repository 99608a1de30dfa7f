/-! ===== TERM_TOPS read by a nest mate ===== -/
theorem zlnTT : Cond.fieldLinkNest RX1 76 "WeirLedger" "TERM_TOPS" "[I" "WeirLedger" ∈ zOther := List.mem_filter.mpr ⟨List.mem_of_getElem? (i := 788) (by decide +kernel), rfl⟩
theorem AW.gtopsN {f : ZCf} {n0 : Nat} {S1 S : List ZSh} {pc : Nat} {L : List (Nat × ZV)} {st : List ZV} {μ : ZMem} {kc ks : Nat} {o : Option ZRes} {idx : Nat} (hd : decode (zcc f) pc = .ok (.getstatic idx, 3)) (hm : Cond.fieldLinkNest (zy f).cls idx "WeirLedger" "TERM_TOPS" "[I" "WeirLedger" ∈ zOther) (k : AW f n0 S1 S (pc + 3) L (zR (some zTT) :: st) μ kc ks o) : AW f n0 S1 S pc L st μ kc ks o := by
  intro p l e R s m args below meth c D G ad0 adV A Q C r hr hE ad H locs ls hg hP hD hS hl
  have w := k p l e R s m args below meth c D G ad0 adV A Q C r hr hE ad H locs ls hg hP hD hS hl
  obtain ⟨hx, hb, -, hml, hown, hts, -, -, -, hX, -⟩ := C
  have hX := hX.ad (ad' := ad) (fun k hk => hg k (Or.inr hk))
  exact va_getsN hx hb hX.2.2.1 hS hown ((hX.2.2.2.2.2.2.2.1 _ hm).use rfl) (fun _ h => h) hd w
theorem zlTT : Cond.fieldLink RX8 219 "WeirLedger" "TERM_TOPS" "[I" ∈ zAll := zAll_in (List.mem_of_getElem? (i := 492) (by decide +kernel)) (by decide +kernel)
