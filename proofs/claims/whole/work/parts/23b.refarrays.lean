/-! ===== arrays of objects and of texts; a method that leaves what it made behind ===== -/
theorem zCell_setA {G : ZG} {ad : Nat → Nat} {μ : ZMem} {r n i x kd : Nat} {rs : List (Option Nat)} (hi : i < rs.length) : (fun j => if j = i then some (ad x) else (rs.getD j none).map ad) = (fun j => ((rs.set i (some x)).getD j none).map ad) := by
  funext j
  by_cases h : j = i
  · subst h
    rw [if_pos rfl, List.getD_eq_getElem?_getD, List.getElem?_set_self hi]
    rfl
  · rw [if_neg h, List.getD_eq_getElem?_getD, List.getD_eq_getElem?_getD, List.getElem?_set_ne (Ne.symm h)]
section ZAR
variable {f : ZCf} {n0 : Nat} {S1 S S' : List ZSh} {pc : Nat} {L : List (Nat × ZV)} {st : List ZV} {μ : ZMem} {kc ks : Nat} {o : Option ZRes} {idx : Nat} {K : ZMem → Option ZRes}
theorem AW.newqB {n q : Nat} (hd : decode (zcc f) pc = .ok (.anewarray idx, 3)) (hcl : Cond.classLink (zy f).cls idx "WeirLedger$Books" ∈ zAll) (hn : n < 1000) (hwf : zWfA n0 S L st = true) (hf1 : kc + 1 ≤ zmc f) (hf2 : ks + n ≤ zms f) (hq : S.length = q) (hS' : S ++ [.inr (2, n, List.replicate n none)] = S') (kk : ∀ μ1, AW f n0 S1 S' (pc + 3) L (zR (some q) :: st) μ1 (kc + 1) (ks + n) (K μ1)) : AW f n0 S1 S pc L (zI n :: st) μ kc ks (zLet (zNew μ q) K) := by
  subst hq; subst hS'
  obtain ⟨w1, w2, w3, w4, w5⟩ := zWfA.of hwf
  intro p l e R s m args below meth c D G ad0 adV A Q C r hr hE ad H locs ls hg hP hD hS hl
  have w := kk (zNew μ S.length) p l e R s m args below meth c D G ad0 adV A Q C r hr hE
  obtain ⟨hx, hb, -, -, hown, hts, -, hK, hA, hX, ⟨f1, f2, f3, f4⟩, -⟩ := C
  have en : w32 (n : Int) = n := w32_of (by omega) (by omega)
  have e2 : (Int32.ofInt (n : Int)).toNatClampNeg = n := by
    have : ((Int32.ofInt (n : Int)).toNatClampNeg : Int) = n := by rw [zclamp (by rw [en]; omega), en]
    omega
  refine va_newq hx hb hown (hts _ hcl) hX.2.2.2.2.2.2.2.2.2.2.1 hK hP hD hS hA (by rw [zlz32, en]; omega) e2 (by omega) (by omega) (by omega) hd (fun q cA H1 hK1 hP1 hD1 hS1 => ?_)
  have hcA : cA = G.2.2.1 := by
    obtain ⟨_, _, -, -, -, h1⟩ := (hK1.2 4 (cA, .object "WeirLedger$Books") rfl).2
    obtain ⟨_, _, -, -, -, h2⟩ := (hK.2 2 (G.2.2.1, .object "WeirLedger$Books") rfl).2
    exact Option.some.inj (h1.symm.trans h2)
  subst hcA
  have ha := zAdd_agr (ad := ad) (q := q) w3
  have ec : zConc G (zAdd ad S.length q) (S ++ [.inr (2, n, List.replicate n none)]) (zNew μ S.length) = zConc G ad S μ ++ [(q, .inl (G.2.2.1, n, .inr (.inr (.inr (.inr (fun _ => none))))))] := by
    rw [zConc_push w1 w3]
    congr 3
    show (Sum.inl (G.2.2.1, n, Sum.inr (Sum.inr (Sum.inr (Sum.inr (fun j => ((List.replicate n none).getD j none).map (zAdd ad S.length q)))))) : va_E) = _
    have e : (fun j => ((List.replicate n (none : Option Nat)).getD j none).map (zAdd ad S.length q)) = (fun _ => none) := by
      funext j
      rw [List.getD_eq_getElem?_getD, List.getElem?_replicate]
      by_cases hj : j < n
      · rw [if_pos hj]; rfl
      · rw [if_neg hj]; rfl
    rw [e]
  have g := w (zAdd ad S.length q) H1 locs ls (hg.trans ha w2) (by rw [ec]; exact hP1) (by rw [ec]; exact hD1) hS1 (by rw [zLs_agr ha w4]; exact hl)
  rw [List.map_cons, zSt_agr ha w5] at g
  have e5 : zTr (zAdd ad S.length q) (zR (some S.length)) = Value.ref q := by show Value.ref (zAdd ad S.length q S.length) = _; unfold zAdd; rw [if_pos rfl]
  rw [e5] at g
  exact g
theorem AW.newqS {n q : Nat} (hd : decode (zcc f) pc = .ok (.anewarray idx, 3)) (hcl : Cond.classLink (zy f).cls idx "java/lang/String" ∈ zAll) (hn : n < 1000) (hwf : zWfA n0 S L st = true) (hf1 : kc + 1 ≤ zmc f) (hf2 : ks + n ≤ zms f) (hq : S.length = q) (hS' : S ++ [.inr (3, n, List.replicate n none)] = S') (kk : ∀ μ1, AW f n0 S1 S' (pc + 3) L (zR (some q) :: st) μ1 (kc + 1) (ks + n) (K μ1)) : AW f n0 S1 S pc L (zI n :: st) μ kc ks (zLet (zNew μ q) K) := by
  subst hq; subst hS'
  obtain ⟨w1, w2, w3, w4, w5⟩ := zWfA.of hwf
  intro p l e R s m args below meth c D G ad0 adV A Q C r hr hE ad H locs ls hg hP hD hS hl
  have w := kk (zNew μ S.length) p l e R s m args below meth c D G ad0 adV A Q C r hr hE
  obtain ⟨hx, hb, -, -, hown, hts, -, hK, hA, hX, ⟨f1, f2, f3, f4⟩, -⟩ := C
  have en : w32 (n : Int) = n := w32_of (by omega) (by omega)
  have e2 : (Int32.ofInt (n : Int)).toNatClampNeg = n := by
    have : ((Int32.ofInt (n : Int)).toNatClampNeg : Int) = n := by rw [zclamp (by rw [en]; omega), en]
    omega
  refine va_newq hx hb hown (hts _ hcl) hX.2.2.2.2.2.2.2.2.2.2.2 hK hP hD hS hA (by rw [zlz32, en]; omega) e2 (by omega) (by omega) (by omega) hd (fun q cA H1 hK1 hP1 hD1 hS1 => ?_)
  have hcA : cA = G.2.2.2 := by
    obtain ⟨_, _, -, -, -, h1⟩ := (hK1.2 4 (cA, .object "java/lang/String") rfl).2
    obtain ⟨_, _, -, -, -, h2⟩ := (hK.2 3 (G.2.2.2, .object "java/lang/String") rfl).2
    exact Option.some.inj (h1.symm.trans h2)
  subst hcA
  have ha := zAdd_agr (ad := ad) (q := q) w3
  have ec : zConc G (zAdd ad S.length q) (S ++ [.inr (3, n, List.replicate n none)]) (zNew μ S.length) = zConc G ad S μ ++ [(q, .inl (G.2.2.2, n, .inr (.inr (.inr (.inr (fun _ => none))))))] := by
    rw [zConc_push w1 w3]
    congr 3
    show (Sum.inl (G.2.2.2, n, Sum.inr (Sum.inr (Sum.inr (Sum.inr (fun j => ((List.replicate n none).getD j none).map (zAdd ad S.length q)))))) : va_E) = _
    have e : (fun j => ((List.replicate n (none : Option Nat)).getD j none).map (zAdd ad S.length q)) = (fun _ => none) := by
      funext j
      rw [List.getD_eq_getElem?_getD, List.getElem?_replicate]
      by_cases hj : j < n
      · rw [if_pos hj]; rfl
      · rw [if_neg hj]; rfl
    rw [e]
  have g := w (zAdd ad S.length q) H1 locs ls (hg.trans ha w2) (by rw [ec]; exact hP1) (by rw [ec]; exact hD1) hS1 (by rw [zLs_agr ha w4]; exact hl)
  rw [List.map_cons, zSt_agr ha w5] at g
  have e5 : zTr (zAdd ad S.length q) (zR (some S.length)) = Value.ref q := by show Value.ref (zAdd ad S.length q S.length) = _; unfold zAdd; rw [if_pos rfl]
  rw [e5] at g
  exact g
theorem AW.aastB {r i n x : Nat} {rs : List (Option Nat)} {fl : List (Nat × Option Nat)} (hd : decode (zcc f) pc = .ok (.aastore, 1)) (hS : S[r]? = some (.inr (2, n, rs))) (hx0 : S[x]? = some (.inl (0, fl))) (hi : i < n ∧ n < 1000 ∧ rs.length = n) (hS' : S.set r (.inr (2, n, rs.set i (some x))) = S') (kk : AW f n0 S1 S' (pc + 1) L st μ kc ks o) : AW f n0 S1 S pc L (zR (some x) :: zI i :: zR (some r) :: st) μ kc ks o := by
  subst hS'
  intro p l e R s m args below meth c D G ad0 adV A Q C r9 hr hE ad H locs ls hg hP hD hS9 hl
  have w := fun H1 locs1 q1 q2 q3 => kk p l e R s m args below meth c D G ad0 adV A Q C r9 hr hE ad H1 locs1 ls hg q1 q2 q3 hl
  obtain ⟨hx, hb, -, -, hown, hts, -, hK, -⟩ := C
  have en : w32 (i : Int) = i := w32_of (by omega) (by omega)
  have e2 : (Int32.ofInt (i : Int)).toNatClampNeg = i := by
    have : ((Int32.ofInt (i : Int)).toNatClampNeg : Int) = i := by rw [zclamp (by rw [en]; omega), en]
    omega
  refine va_astq (r := (RX0, TX0, 8)) hx hb hK hP hD hS9 r 2 x 0 (zConc_at hS) rfl (zConc_at hx0) rfl (i := Int32.ofInt i) (zin32.mpr (by rw [en]; omega)) hd (fun H1 locs1 q1 q2 q3 => ?_)
  have ew : (zConc G ad S μ).set r (ad r, .inl (G.2.2.1, n, .inr (.inr (.inr (.inr (va_up (fun j => (rs.getD j none).map ad) (Int32.ofInt i).toNatClampNeg (some (ad x)))))))) = zConc G ad (S.set r (.inr (2, n, rs.set i (some x)))) μ := by
    rw [← zConc_setS, e2]
    congr 2
    show (Sum.inl (G.2.2.1, n, Sum.inr (Sum.inr (Sum.inr (Sum.inr (va_up (fun j => (rs.getD j none).map ad) i (some (ad x))))))) : va_E) = Sum.inl (G.2.2.1, n, Sum.inr (Sum.inr (Sum.inr (Sum.inr (fun j => ((rs.set i (some x)).getD j none).map ad)))))
    unfold va_up
    rw [zCell_setA (G := G) (μ := μ) (r := r) (n := n) (kd := 0) (by omega)]
  have q1' : va_P D vwCl (zConc G ad (S.set r (.inr (2, n, rs.set i (some x)))) μ) H1 := by rw [← ew]; exact q1
  have q2' : va_D A (zConc G ad (S.set r (.inr (2, n, rs.set i (some x)))) μ) := by rw [← ew]; exact q2
  exact w H1 locs1 q1' q2' q3
theorem AW.aastS {r i n j : Nat} {rs : List (Option Nat)} (hd : decode (zcc f) pc = .ok (.aastore, 1)) (hS : S[r]? = some (.inr (3, n, rs))) (hj : j < 19) (hi : i < n ∧ n < 1000 ∧ rs.length = n) (hS' : S.set r (.inr (3, n, rs.set i (some (zSB + j)))) = S') (kk : AW f n0 S1 S' (pc + 1) L st μ kc ks o) : AW f n0 S1 S pc L (zR (some (zSB + j)) :: zI i :: zR (some r) :: st) μ kc ks o := by
  subst hS'
  intro p l e R s m args below meth c D G ad0 adV A Q C r9 hr hE ad H locs ls hg hP hD hS9 hl
  have w := fun H1 locs1 q1 q2 q3 => kk p l e R s m args below meth c D G ad0 adV A Q C r9 hr hE ad H1 locs1 ls hg q1 q2 q3 hl
  obtain ⟨hx, hb, -, -, hown, hts, -, hK, -, hX, -⟩ := C
  have hX := hX.ad (ad' := ad) (fun k hk => hg k (Or.inr hk))
  have en : w32 (i : Int) = i := w32_of (by omega) (by omega)
  have e2 : (Int32.ofInt (i : Int)).toNatClampNeg = i := by
    have : ((Int32.ofInt (i : Int)).toNatClampNeg : Int) = i := by rw [zclamp (by rw [en]; omega), en]
    omega
  have hany : va_Any "java/lang/String" s H (ad (zSB + j)) := by
    obtain ⟨cell, h1, h2, h3⟩ := vk_recv (i := j) hX.1 hj hS9
    obtain ⟨k9, h9, -⟩ := Vm.findClass_spec h3
    exact ⟨cell, h1, h2, ⟨k9, h9⟩, fun comp hc => by rw [← Option.some.inj (h3.symm.trans hc)]; exact va_asg _ _⟩
  refine va_astqM (E := "java/lang/String") hx hb hK hP hD hS9 r 3 (zConc_at hS) rfl hany (i := Int32.ofInt i) (zin32.mpr (by rw [en]; omega)) hd (fun H1 locs1 q1 q2 q3 => ?_)
  have ew : (zConc G ad S μ).set r (ad r, .inl (G.2.2.2, n, .inr (.inr (.inr (.inr (va_up (fun j => (rs.getD j none).map ad) (Int32.ofInt i).toNatClampNeg (some (ad (zSB + j))))))))) = zConc G ad (S.set r (.inr (3, n, rs.set i (some (zSB + j))))) μ := by
    rw [← zConc_setS, e2]
    congr 2
    show (Sum.inl (G.2.2.2, n, Sum.inr (Sum.inr (Sum.inr (Sum.inr (va_up (fun j => (rs.getD j none).map ad) i (some (ad (zSB + j)))))))) : va_E) = Sum.inl (G.2.2.2, n, Sum.inr (Sum.inr (Sum.inr (Sum.inr (fun k => ((rs.set i (some (zSB + j))).getD k none).map ad)))))
    unfold va_up
    rw [zCell_setA (G := G) (μ := μ) (r := r) (n := n) (kd := 0) (by omega)]
  have q1' : va_P D vwCl (zConc G ad (S.set r (.inr (3, n, rs.set i (some (zSB + j))))) μ) H1 := by rw [← ew]; exact q1
  have q2' : va_D A (zConc G ad (S.set r (.inr (3, n, rs.set i (some (zSB + j))))) μ) := by rw [← ew]; exact q2
  exact w H1 locs1 q1' q2' q3
theorem AW.aaldS {r i x n : Nat} {rs : List (Option Nat)} (hd : decode (zcc f) pc = .ok (.aaload, 1)) (hS : S[r]? = some (.inr (3, n, rs))) (hx : rs.getD i none = some x) (hi : i < n ∧ i < 100) (k : AW f n0 S1 S (pc + 1) L (zR (some x) :: st) μ kc ks o) : AW f n0 S1 S pc L (zI i :: zR (some r) :: st) μ kc ks o := by
  intro p l e R s m args below meth c D G ad0 adV A Q C r9 hr hE ad H locs ls hg hP hD hS9 hl
  have w := k p l e R s m args below meth c D G ad0 adV A Q C r9 hr hE ad H locs ls hg hP hD hS9 hl
  obtain ⟨hx9, hb, -, -, -, -, -, hK, -⟩ := C
  have en : w32 (i : Int) = i := w32_of (by omega) (by omega)
  have e2 : (Int32.ofInt (i : Int)).toNatClampNeg = i := by
    have : ((Int32.ofInt (i : Int)).toNatClampNeg : Int) = i := by rw [zclamp (by rw [en]; omega), en]
    omega
  refine va_aldq hx9 hb hK hP r 3 (zConc_at hS) rfl (i := Int32.ofInt i) (zin32.mpr (by rw [en]; omega)) hd ?_
  rw [e2, hx]
  exact w
/-- an end that leaves cells behind -/
theorem AW.retvX {X : List ZSh} (hd : decode (zcc f) pc = .ok (.return_, 1)) (ht : zrt f = none) (hX : S = S1 ++ X) (hc : kc ≤ zmc f) (hs : ks ≤ zms f) : AW f n0 S1 S pc L [] μ kc ks (some (.inr none, μ)) := by
  subst hX
  intro p l e R s m args below meth c D G ad0 adV A Q C r hr hE ad H locs ls hg hP hD hS hl
  cases hr
  have e1 : zConc G ad (S1 ++ X) μ = zConc G ad S1 μ ++ X.mapIdx (fun i sh => (ad (i + S1.length), zCell G ad μ (i + S1.length) sh)) := by
    unfold zConc
    rw [List.mapIdx_append]
  have hP2 : va_P D vwCl (zConc G ad S1 μ) H := fun k q hk => hP k q (by rw [e1, List.getElem?_append_left (List.getElem?_eq_some_iff.mp hk).1]; exact hk)
  have hD2 : va_D A (zConc G ad S1 μ) := by
    have up : ∀ {k : Nat} {q : Nat × va_E}, (zConc G ad S1 μ)[k]? = some q → (zConc G ad (S1 ++ X) μ)[k]? = some q := fun hk => by rw [e1, List.getElem?_append_left (List.getElem?_eq_some_iff.mp hk).1]; exact hk
    exact ⟨fun i j x y hi hj hxy => hD.1 i j x y (up hi) (up hj) hxy, fun k q hk => hD.2 k q (up hk)⟩
  exact hE.1 none rfl H locs kc ks ls pc _ hS ⟨ad, hg, hP2, hD2⟩ hc hs hd ⟨rfl, ht⟩
end ZAR
