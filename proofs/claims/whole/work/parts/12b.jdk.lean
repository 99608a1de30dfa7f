/-! ===== the rules of the walk: Math.min, Math.max, System.arraycopy, the table TERM_TOPS ===== -/
def zminJ (a b : Int) : Int := if w64 b < w64 a then b else a
def zmaxJ (a b : Int) : Int := if w64 b < w64 a then a else b
def zminI (a b : Int) : Int := if w32 b < w32 a then b else a
def zCopy (μ : ZMem) (r0 r1 n : Nat) : ZMem := fun c i => if c = r1 ∧ 0 ≤ i ∧ i < (n : Int) then μ r0 i else μ c i
def zTop (i : Int) (K : Int → Option ZRes) : Option ZRes := if 0 ≤ w32 i ∧ w32 i < 7 then K (zTops.getD (w32 i).toNat 0) else none
theorem zst_mj : Cond.static Lib.MathLoose.min_long.x ∈ zAll := zt_yJ9_min_f86c9
theorem zco_mj : Cond.code Lib.MathLoose.min_long.x Lib.MathLoose.min_long.code 4 (some .long) ∈ zAll := zc_yJ9_min_f86c9
theorem zst_xj : Cond.static Lib.MathLoose.max_long.x ∈ zAll := zt_yJ9_max_f86c9
theorem zco_xj : Cond.code Lib.MathLoose.max_long.x Lib.MathLoose.max_long.code 4 (some .long) ∈ zAll := zc_yJ9_max_f86c9
theorem zst_mi : Cond.static Lib.Math.min.name ∈ zAll := zt_yJ9_min_7cf53
theorem zco_mi : Cond.code Lib.Math.min.name Lib.Math.min.code 2 (some .int) ∈ zAll := zc_yJ9_min_7cf53
theorem zin_ma : Cond.initialized "java/lang/Math" ∈ zAll := zn_J9
theorem zsum_cat (ad : Nat → Nat) (st : List ZV) : ((st.map (zTr ad)).map fun v => v.category).sum = (st.map zcat).sum := by
  rw [List.map_map, show ((fun v : Value => v.category) ∘ zTr ad) = zcat from funext fun v => zcat_ok ad v]
section ZK
variable {f : ZCf} {n0 : Nat} {S1 S : List ZSh} {pc : Nat} {L : List (Nat × ZV)} {st : List ZV} {μ : ZMem} {kc ks : Nat} {o : Option ZRes}
/-- a deep enough method -/
def zDeep (f : ZCf) (st : List ZV) (kc ks : Nat) : Bool := Nat.ble 2 (zdp f) && Nat.ble (st.map zcat).sum 8 && Nat.ble kc (zmc f) && Nat.ble ks (zms f)
theorem zDeep.of {f : ZCf} {st : List ZV} {kc ks : Nat} (h : zDeep f st kc ks = true) : 2 ≤ zdp f ∧ (st.map zcat).sum ≤ 8 ∧ kc ≤ zmc f ∧ ks ≤ zms f := by
  unfold zDeep at h
  simp only [Bool.and_eq_true] at h
  exact ⟨Nat.le_of_ble_eq_true h.1.1.1, Nat.le_of_ble_eq_true h.1.1.2, Nat.le_of_ble_eq_true h.1.2, Nat.le_of_ble_eq_true h.2⟩
theorem AW.minJ {a b : Int} {idx : Nat} (hd : decode (zcc f) pc = .ok (.invokestatic idx, 3)) (hm : Cond.methodLink (zy f).cls idx Lib.MathLoose.min_long.x ∈ zAll) (hz : zDeep f st kc ks = true) (k : AW f n0 S1 S (pc + 3) L (zJ (zminJ a b) :: st) μ kc ks o) : AW f n0 S1 S pc L (zJ b :: zJ a :: st) μ kc ks o := by
  intro p l e R s m args below meth c D G ad0 adV A Q C r hr hE ad H locs ls hg hP hD hS hl
  have w := k p l e R s m args below meth c D G ad0 adV A Q C r hr hE ad H locs ls hg hP hD hS hl
  obtain ⟨hx, hb, -, hml, hown, hts, -, -, -, -, ⟨f1, f2, f3, f4⟩, -⟩ := C
  obtain ⟨z1, z2, z3, z4⟩ := zDeep.of hz
  refine va_mmin_long hx hb (hml.trans hl.1.symm) hown (hts _ hm) (hts _ zst_mj) (hts _ zin_ma) (hts _ zco_mj) (by omega) (by rw [zsum_cat]; omega) (by omega) (by omega) hd ?_
  have e1 : (if Int64.ofInt b < Int64.ofInt a then Int64.ofInt b else Int64.ofInt a) = Int64.ofInt (zminJ a b) := by
    unfold zminJ
    by_cases h : w64 b < w64 a
    · rw [if_pos h, if_pos (zlt64.mpr h)]
    · rw [if_neg h, if_neg (fun q => h (zlt64.mp q))]
  rw [e1]
  exact w
theorem AW.maxJ {a b : Int} {idx : Nat} (hd : decode (zcc f) pc = .ok (.invokestatic idx, 3)) (hm : Cond.methodLink (zy f).cls idx Lib.MathLoose.max_long.x ∈ zAll) (hz : zDeep f st kc ks = true) (k : AW f n0 S1 S (pc + 3) L (zJ (zmaxJ a b) :: st) μ kc ks o) : AW f n0 S1 S pc L (zJ b :: zJ a :: st) μ kc ks o := by
  intro p l e R s m args below meth c D G ad0 adV A Q C r hr hE ad H locs ls hg hP hD hS hl
  have w := k p l e R s m args below meth c D G ad0 adV A Q C r hr hE ad H locs ls hg hP hD hS hl
  obtain ⟨hx, hb, -, hml, hown, hts, -, -, -, -, ⟨f1, f2, f3, f4⟩, -⟩ := C
  obtain ⟨z1, z2, z3, z4⟩ := zDeep.of hz
  refine va_mmax_long hx hb (hml.trans hl.1.symm) hown (hts _ hm) (hts _ zst_xj) (hts _ zin_ma) (hts _ zco_xj) (by omega) (by rw [zsum_cat]; omega) (by omega) (by omega) hd ?_
  have e1 : (if Int64.ofInt b < Int64.ofInt a then Int64.ofInt a else Int64.ofInt b) = Int64.ofInt (zmaxJ a b) := by
    unfold zmaxJ
    by_cases h : w64 b < w64 a
    · rw [if_pos h, if_pos (zlt64.mpr h)]
    · rw [if_neg h, if_neg (fun q => h (zlt64.mp q))]
  rw [e1]
  exact w
theorem AW.minI {a b : Int} {idx : Nat} (hd : decode (zcc f) pc = .ok (.invokestatic idx, 3)) (hm : Cond.methodLink (zy f).cls idx Lib.Math.min.name ∈ zAll) (hz : zDeep f st kc ks = true) (k : AW f n0 S1 S (pc + 3) L (zI (zminI a b) :: st) μ kc ks o) : AW f n0 S1 S pc L (zI b :: zI a :: st) μ kc ks o := by
  intro p l e R s m args below meth c D G ad0 adV A Q C r hr hE ad H locs ls hg hP hD hS hl
  have w := k p l e R s m args below meth c D G ad0 adV A Q C r hr hE ad H locs ls hg hP hD hS hl
  obtain ⟨hx, hb, -, hml, hown, hts, -, -, -, -, ⟨f1, f2, f3, f4⟩, -⟩ := C
  obtain ⟨z1, z2, z3, z4⟩ := zDeep.of hz
  refine va_mmin hx hb (hml.trans hl.1.symm) hown (hts _ hm) (hts _ zst_mi) (hts _ zin_ma) (hts _ zco_mi) (by omega) (by rw [zsum_cat]; omega) (by omega) (by omega) hd ?_
  have e1 : (if Int32.ofInt b < Int32.ofInt a then Int32.ofInt b else Int32.ofInt a) = Int32.ofInt (zminI a b) := by
    unfold zminI
    by_cases h : w32 b < w32 a
    · rw [if_pos h, if_pos (zlt32.mpr h)]
    · rw [if_neg h, if_neg (fun q => h (zlt32.mp q))]
  rw [e1]
  exact w
theorem AW.gtops {idx : Nat} (hd : decode (zcc f) pc = .ok (.getstatic idx, 3)) (hm : Cond.fieldLink (zy f).cls idx "WeirLedger" "TERM_TOPS" "[I" ∈ zAll) (k : AW f n0 S1 S (pc + 3) L (zR (some zTT) :: st) μ kc ks o) : AW f n0 S1 S pc L st μ kc ks o := by
  intro p l e R s m args below meth c D G ad0 adV A Q C r hr hE ad H locs ls hg hP hD hS hl
  have w := k p l e R s m args below meth c D G ad0 adV A Q C r hr hE ad H locs ls hg hP hD hS hl
  obtain ⟨hx, hb, -, hml, hown, hts, -, -, -, hX, -⟩ := C
  have hX := hX.ad (ad' := ad) (fun k hk => hg k (Or.inr hk))
  exact va_gets hx hb hX.2.2.1 hS hown (hts _ hm) (fun _ h => h) hd w
theorem AW.tops {i : Int} {K : Int → Option ZRes} (hd : decode (zcc f) pc = .ok (.iaload, 1)) (k : ∀ x, AW f n0 S1 S (pc + 1) L (zI x :: st) μ kc ks (K x)) : AW f n0 S1 S pc L (zI i :: zR (some zTT) :: st) μ kc ks (zTop i K) := by
  intro p l e R s m args below meth c D G ad0 adV A Q C r hr hE ad H locs ls hg hP hD hS hl
  unfold zTop at hr
  by_cases h : 0 ≤ w32 i ∧ w32 i < 7
  · rw [if_pos h] at hr
    have w := k _ p l e R s m args below meth c D G ad0 adV A Q C r hr hE ad H locs ls hg hP hD hS hl
    obtain ⟨hx, hb, -, hml, hown, hts, -, -, -, hX, -⟩ := C
    have hX := hX.ad (ad' := ad) (fun k hk => hg k (Or.inr hk))
    refine va_ti hx hb hX.2.2.2.1 hS (zin32.mpr ⟨h.1, by exact_mod_cast h.2⟩) (v := .int (Int32.ofInt (zTops.getD (w32 i).toNat 0))) ?_ hd w
    have e1 := zclamp h.1
    have e2 : (Int32.ofInt i).toNatClampNeg = (w32 i).toNat := by omega
    rw [e2]
  · rw [if_neg h] at hr
    cases hr
theorem zCopy_off {μ : ZMem} {r0 r1 n : Nat} : ∀ (c : Nat) (j : Int), c ≠ r1 → zCopy μ r0 r1 n c j = μ c j := fun c j h => by simp [zCopy, h]
theorem zacn : Cond.native arraycopyName ∈ zAll := by
  refine zAll_in ?_ (by decide +kernel)
  exact List.mem_of_getElem? (i := 441) (by decide +kernel)
theorem zacs : Cond.static arraycopyName ∈ zAll := by
  refine zAll_in ?_ (by decide +kernel)
  exact List.mem_of_getElem? (i := 440) (by decide +kernel)
theorem zaci : Cond.initialized "java/lang/System" ∈ zAll := zn_J10
theorem AW.copyI {idx r0 r1 n n0' n1' : Nat} {rs rs' : List (Option Nat)} {K : ZMem → Option ZRes} (hd : decode (zcc f) pc = .ok (.invokestatic idx, 3)) (hm : Cond.methodLink (zy f).cls idx arraycopyName ∈ zAll) (h0 : S[r0]? = some (.inr (0, n0', rs))) (h1 : S[r1]? = some (.inr (0, n1', rs'))) (hn0 : n ≤ n0' ∧ n < 100000) (hn1 : n ≤ n1') (hz : zDeep f st kc ks = true)
    (k : ∀ μ1, AW f n0 S1 S (pc + 3) L st μ1 kc ks (K μ1)) : AW f n0 S1 S pc L (zI n :: zI 0 :: zR (some r1) :: zI 0 :: zR (some r0) :: st) μ kc ks (zLet (zCopy μ r0 r1 n) K) := by
  intro p l e R s m args below meth c D G ad0 adV A Q C r hr hE ad H locs ls hg hP hD hS hl
  have w := fun H1 locs1 q1 q2 q3 => k (zCopy μ r0 r1 n) p l e R s m args below meth c D G ad0 adV A Q C r hr hE ad H1 locs1 ls hg q1 q2 q3 hl
  obtain ⟨hx, hb, -, hml, hown, hts, -, hK, -, -, ⟨f1, f2, f3, f4⟩, -⟩ := C
  obtain ⟨z1, z2, z3, z4⟩ := zDeep.of hz
  have en : w32 (n : Int) = n := w32_of (by omega) (by omega)
  have e1 : ((Int32.ofInt (n : Int)).toNatClampNeg : Int) = n := by rw [zclamp (by rw [en]; omega), en]
  have e2 : (Int32.ofInt (n : Int)).toNatClampNeg = n := by omega
  have e3 : (Int32.ofInt 0).toNatClampNeg = 0 := by decide
  refine va_copyi hx hb (hml.trans hl.1.symm) hown (hts _ hm) (hts _ zacn) (hts _ zacs) (hts _ zaci) hK hP hD hS r0 r1 0 0 (zConc_at h0) (zConc_at h1) rfl rfl rfl (sp := Int32.ofInt 0) (dp := Int32.ofInt 0) (n := Int32.ofInt n) (by decide) (by decide) (by rw [zlz32, en]; omega) (by rw [e2, e3]; omega) (by rw [e2, e3]; omega) (fun _ _ => rfl) (by omega) (by rw [zsum_cat]; have h9 : nativeFrameWords "java/lang/System" "arraycopy" 5 ≤ 60 := (by decide +kernel); omega) hd (fun H1 locs1 q1 q2 q3 => ?_)
  have ew : (zConc G ad S μ).set r1 (ad r1, .inl (G.1, n1', .inl (va_cpy (fun j => Int32.ofInt (μ r0 j)) (fun j => Int32.ofInt (μ r1 j)) (Int32.ofInt 0).toNatClampNeg (Int32.ofInt 0).toNatClampNeg (Int32.ofInt n).toNatClampNeg))) = zConc G ad S (zCopy μ r0 r1 n) := by
    rw [← zConc_set (G := G) (ad := ad) (μ := μ) (μ' := zCopy μ r0 r1 n) h1 zCopy_off]
    congr 3
    refine Prod.ext rfl (Prod.ext rfl ?_)
    dsimp only
    congr 1
    funext j
    rw [e2, e3]
    unfold va_cpy zCopy
    by_cases hj : j < n
    · rw [if_pos ⟨by omega, by omega⟩, if_pos ⟨rfl, by omega, by omega⟩]
      congr 2
      omega
    · rw [if_neg (by omega), if_neg (by omega)]
  have q1' : va_P D vwCl (zConc G ad S (zCopy μ r0 r1 n)) H1 := by rw [← ew]; exact q1
  have q2' : va_D A (zConc G ad S (zCopy μ r0 r1 n)) := by rw [← ew]; exact q2
  exact w H1 locs1 q1' q2' q3
theorem AW.copyJ {idx r0 r1 n n0' n1' : Nat} {rs rs' : List (Option Nat)} {K : ZMem → Option ZRes} (hd : decode (zcc f) pc = .ok (.invokestatic idx, 3)) (hm : Cond.methodLink (zy f).cls idx arraycopyName ∈ zAll) (h0 : S[r0]? = some (.inr (1, n0', rs))) (h1 : S[r1]? = some (.inr (1, n1', rs'))) (hn0 : n ≤ n0' ∧ n < 100000) (hn1 : n ≤ n1') (hz : zDeep f st kc ks = true)
    (k : ∀ μ1, AW f n0 S1 S (pc + 3) L st μ1 kc ks (K μ1)) : AW f n0 S1 S pc L (zI n :: zI 0 :: zR (some r1) :: zI 0 :: zR (some r0) :: st) μ kc ks (zLet (zCopy μ r0 r1 n) K) := by
  intro p l e R s m args below meth c D G ad0 adV A Q C r hr hE ad H locs ls hg hP hD hS hl
  have w := fun H1 locs1 q1 q2 q3 => k (zCopy μ r0 r1 n) p l e R s m args below meth c D G ad0 adV A Q C r hr hE ad H1 locs1 ls hg q1 q2 q3 hl
  obtain ⟨hx, hb, -, hml, hown, hts, -, hK, -, -, ⟨f1, f2, f3, f4⟩, -⟩ := C
  obtain ⟨z1, z2, z3, z4⟩ := zDeep.of hz
  have en : w32 (n : Int) = n := w32_of (by omega) (by omega)
  have e1 : ((Int32.ofInt (n : Int)).toNatClampNeg : Int) = n := by rw [zclamp (by rw [en]; omega), en]
  have e2 : (Int32.ofInt (n : Int)).toNatClampNeg = n := by omega
  have e3 : (Int32.ofInt 0).toNatClampNeg = 0 := by decide
  refine va_copyl hx hb (hml.trans hl.1.symm) hown (hts _ hm) (hts _ zacn) (hts _ zacs) (hts _ zaci) hK hP hD hS r0 r1 1 1 (zConc_at h0) (zConc_at h1) rfl rfl rfl (sp := Int32.ofInt 0) (dp := Int32.ofInt 0) (n := Int32.ofInt n) (by decide) (by decide) (by rw [zlz32, en]; omega) (by rw [e2, e3]; omega) (by rw [e2, e3]; omega) (fun _ _ => rfl) (by omega) (by rw [zsum_cat]; have h9 : nativeFrameWords "java/lang/System" "arraycopy" 5 ≤ 60 := (by decide +kernel); omega) hd (fun H1 locs1 q1 q2 q3 => ?_)
  have ew : (zConc G ad S μ).set r1 (ad r1, .inl (G.2.1, n1', .inr (.inl (va_cpy (fun j => Int64.ofInt (μ r0 j)) (fun j => Int64.ofInt (μ r1 j)) (Int32.ofInt 0).toNatClampNeg (Int32.ofInt 0).toNatClampNeg (Int32.ofInt n).toNatClampNeg)))) = zConc G ad S (zCopy μ r0 r1 n) := by
    rw [← zConc_set (G := G) (ad := ad) (μ := μ) (μ' := zCopy μ r0 r1 n) h1 zCopy_off]
    congr 3
    refine Prod.ext rfl (Prod.ext rfl ?_)
    dsimp only
    congr 2
    funext j
    rw [e2, e3]
    unfold va_cpy zCopy
    by_cases hj : j < n
    · rw [if_pos ⟨by omega, by omega⟩, if_pos ⟨rfl, by omega, by omega⟩]
      congr 2
      omega
    · rw [if_neg (by omega), if_neg (by omega)]
  have q1' : va_P D vwCl (zConc G ad S (zCopy μ r0 r1 n)) H1 := by rw [← ew]; exact q1
  have q2' : va_D A (zConc G ad S (zCopy μ r0 r1 n)) := by rw [← ew]; exact q2
  exact w H1 locs1 q1' q2' q3
end ZK
