/-! ===== making: arrays, objects ===== -/
def zNew (μ : ZMem) (k : Nat) : ZMem := fun c i => if c = k then 0 else μ c i
def zWfV (n : Nat) : ZV → Bool
  | .inr (.inr (.inr (.inr (some r)))) => decide (r < n ∨ zSB ≤ r)
  | _ => true
def zWfA (n0 : Nat) (S : List ZSh) (L : List (Nat × ZV)) (st : List ZV) : Bool := zWfS S.length S && Nat.ble n0 S.length && Nat.ble S.length 1000 && L.all (fun q => zWfV S.length q.2) && st.all (zWfV S.length)
theorem zTr_agr {ad ad' : Nat → Nat} {n : Nat} (h : zAgr n ad ad') {v : ZV} (hv : zWfV n v = true) : zTr ad' v = zTr ad v := by
  rcases v with a | a | a | a | r
  · rfl
  · rfl
  · rfl
  · rfl
  · cases r with
    | none => rfl
    | some r =>
      have hr : r < n ∨ zSB ≤ r := of_decide_eq_true hv
      show Value.ref (ad' r) = Value.ref (ad r)
      rw [h r hr]
theorem zLs_agr {ad ad' : Nat → Nat} {n : Nat} (h : zAgr n ad ad') {L : List (Nat × ZV)} (hL : L.all (fun q => zWfV n q.2) = true) : (L.map fun q => (q.1, zTr ad' q.2)) = L.map fun q => (q.1, zTr ad q.2) :=
  List.map_congr_left fun q hq => by rw [zTr_agr h (List.all_eq_true.mp hL q hq)]
theorem zSt_agr {ad ad' : Nat → Nat} {n : Nat} (h : zAgr n ad ad') {st : List ZV} (hL : st.all (zWfV n) = true) : st.map (zTr ad') = st.map (zTr ad) :=
  List.map_congr_left fun q hq => zTr_agr h (List.all_eq_true.mp hL q hq)
def zAdd (ad : Nat → Nat) (k q : Nat) : Nat → Nat := fun j => if j = k then q else ad j
theorem zAdd_agr {ad : Nat → Nat} {k q : Nat} (hk : k ≤ 1000) : zAgr k ad (zAdd ad k q) := by
  intro j hj
  unfold zAdd
  rw [if_neg]
  have : zSB = 1000000 := rfl
  omega
theorem zAgr.trans {n0 n : Nat} {a b c : Nat → Nat} (h : zAgr n0 a b) (h2 : zAgr n b c) (hn : n0 ≤ n) : zAgr n0 a c := fun k hk => (h2 k (hk.imp (fun z => Nat.lt_of_lt_of_le z hn) id)).trans (h k hk)
theorem zConc_push {G : ZG} {ad : Nat → Nat} {S : List ZSh} {μ : ZMem} {sh : ZSh} {q : Nat} (hw : zWfS S.length S = true) (hk : S.length ≤ 1000) :
    zConc G (zAdd ad S.length q) (S ++ [sh]) (zNew μ S.length) = zConc G ad S μ ++ [(q, zCell G (zAdd ad S.length q) (zNew μ S.length) S.length sh)] := by
  have e1 : zConc G (zAdd ad S.length q) (S ++ [sh]) (zNew μ S.length) = zConc G (zAdd ad S.length q) S (zNew μ S.length) ++ [(q, zCell G (zAdd ad S.length q) (zNew μ S.length) S.length sh)] := by
    unfold zConc
    rw [List.mapIdx_append]
    congr 1
    simp [zAdd]
  rw [e1, zConc_agr (zAdd_agr hk) hw (Nat.le_refl _)]
  congr 1
  exact zConc_same (fun k hk i => by unfold zNew; rw [if_neg (by omega)])
theorem zac_i : Cond.arrayClass .int ∈ zAll := zAll_in (List.mem_of_getElem? (i := 125) (by decide +kernel)) (by decide +kernel)
theorem zac_l : Cond.arrayClass .long ∈ zAll := zAll_in (List.mem_of_getElem? (i := 228) (by decide +kernel)) (by decide +kernel)
theorem zoi_i : Cond.instanceMethod Lib.objectInit ∈ zAll := zAll_in (List.mem_of_getElem? (i := 102) (by decide +kernel)) (by decide +kernel)
theorem zoi_c : Cond.code Lib.objectInit ⟨#[0xb1]⟩ 1 none ∈ zAll := zAll_in (List.mem_of_getElem? (i := 103) (by decide +kernel)) (by decide +kernel)
theorem zWfA.of {n0 : Nat} {S : List ZSh} {L : List (Nat × ZV)} {st : List ZV} (h : zWfA n0 S L st = true) : zWfS S.length S = true ∧ n0 ≤ S.length ∧ S.length ≤ 1000 ∧ L.all (fun q => zWfV S.length q.2) = true ∧ st.all (zWfV S.length) = true := by
  unfold zWfA at h
  simp only [Bool.and_eq_true] at h
  exact ⟨h.1.1.1.1, Nat.le_of_ble_eq_true h.1.1.1.2, Nat.le_of_ble_eq_true h.1.1.2, h.1.2, h.2⟩
section ZA
variable {f : ZCf} {n0 : Nat} {S1 S S' : List ZSh} {pc : Nat} {L : List (Nat × ZV)} {st : List ZV} {μ : ZMem} {kc ks : Nat} {o : Option ZRes} {idx : Nat} {K : ZMem → Option ZRes}
theorem AW.newaI {n q : Nat} (hd : decode (zcc f) pc = .ok (.newarray .int, 2)) (hn : n < 100000) (hwf : zWfA n0 S L st = true) (hf1 : kc + 1 ≤ zmc f) (hf2 : ks + n ≤ zms f) (hq : S.length = q) (hS' : S ++ [.inr (0, n, [])] = S') (kk : ∀ μ1, AW f n0 S1 S' (pc + 2) L (zR (some q) :: st) μ1 (kc + 1) (ks + n) (K μ1)) : AW f n0 S1 S pc L (zI n :: st) μ kc ks (zLet (zNew μ q) K) := by
  subst hq; subst hS'
  obtain ⟨w1, w2, w3, w4, w5⟩ := zWfA.of hwf
  intro p l e R s m args below meth c D G ad0 adV A Q C r hr hE ad H locs ls hg hP hD hS hl
  have w := kk (zNew μ S.length) p l e R s m args below meth c D G ad0 adV A Q C r hr hE
  obtain ⟨hx, hb, -, -, hown, hts, -, hK, hA, -, ⟨f1, f2, f3, f4⟩, -⟩ := C
  have en : w32 (n : Int) = n := w32_of (by omega) (by omega)
  have e2 : (Int32.ofInt (n : Int)).toNatClampNeg = n := by
    have : ((Int32.ofInt (n : Int)).toNatClampNeg : Int) = n := by rw [zclamp (by rw [en]; omega), en]
    omega
  refine va_newa (atype := .int) (ty := .int) (a0 := (n, .inl (fun _ => 0))) hx hb (hts _ zac_i) rfl hK hP hD hS hA (fun cA => rfl) (by rw [zlz32, en]; omega) e2 (by show n * 4 ≤ _; omega) (by omega) (by omega) hd (fun q cA H1 hK1 hP1 hD1 hS1 => ?_)
  have hcA : cA = G.1 := by
    have h1 : s.vm.findClass ("[" ++ FieldType.int.toString) = some cA := (hK1.2 4 (cA, .int) rfl).2
    have h2 : s.vm.findClass ("[" ++ FieldType.int.toString) = some G.1 := (hK.2 0 (G.1, .int) rfl).2
    exact Option.some.inj (h1.symm.trans h2)
  subst hcA
  have ha := zAdd_agr (ad := ad) (q := q) w3
  have ec : zConc G (zAdd ad S.length q) (S ++ [.inr (0, n, [])]) (zNew μ S.length) = zConc G ad S μ ++ [(q, .inl (G.1, n, .inl (fun _ => 0)))] := by
    rw [zConc_push w1 w3]
    congr 3
    show (Sum.inl (G.1, n, Sum.inl (fun j => Int32.ofInt (zNew μ S.length S.length j))) : va_E) = _
    unfold zNew
    simp
  have g := w (zAdd ad S.length q) H1 locs ls (hg.trans ha w2) (by rw [ec]; exact hP1) (by rw [ec]; exact hD1) hS1 (by rw [zLs_agr ha w4]; exact hl)
  rw [List.map_cons, zSt_agr ha w5] at g
  have e5 : zTr (zAdd ad S.length q) (zR (some S.length)) = Value.ref q := by show Value.ref (zAdd ad S.length q S.length) = _; unfold zAdd; rw [if_pos rfl]
  rw [e5] at g
  exact g
theorem AW.newaJ {n q : Nat} (hd : decode (zcc f) pc = .ok (.newarray .long, 2)) (hn : n < 100000) (hwf : zWfA n0 S L st = true) (hf1 : kc + 1 ≤ zmc f) (hf2 : ks + n ≤ zms f) (hq : S.length = q) (hS' : S ++ [.inr (1, n, [])] = S') (kk : ∀ μ1, AW f n0 S1 S' (pc + 2) L (zR (some q) :: st) μ1 (kc + 1) (ks + n) (K μ1)) : AW f n0 S1 S pc L (zI n :: st) μ kc ks (zLet (zNew μ q) K) := by
  subst hq; subst hS'
  obtain ⟨w1, w2, w3, w4, w5⟩ := zWfA.of hwf
  intro p l e R s m args below meth c D G ad0 adV A Q C r hr hE ad H locs ls hg hP hD hS hl
  have w := kk (zNew μ S.length) p l e R s m args below meth c D G ad0 adV A Q C r hr hE
  obtain ⟨hx, hb, -, -, hown, hts, -, hK, hA, -, ⟨f1, f2, f3, f4⟩, -⟩ := C
  have en : w32 (n : Int) = n := w32_of (by omega) (by omega)
  have e2 : (Int32.ofInt (n : Int)).toNatClampNeg = n := by
    have : ((Int32.ofInt (n : Int)).toNatClampNeg : Int) = n := by rw [zclamp (by rw [en]; omega), en]
    omega
  refine va_newa (atype := .long) (ty := .long) (a0 := (n, .inr (.inl (fun _ => 0)))) hx hb (hts _ zac_l) rfl hK hP hD hS hA (fun cA => rfl) (by rw [zlz32, en]; omega) e2 (by show n * 8 ≤ _; omega) (by omega) (by omega) hd (fun q cA H1 hK1 hP1 hD1 hS1 => ?_)
  have hcA : cA = G.2.1 := by
    have h1 : s.vm.findClass ("[" ++ FieldType.long.toString) = some cA := (hK1.2 4 (cA, .long) rfl).2
    have h2 : s.vm.findClass ("[" ++ FieldType.long.toString) = some G.2.1 := (hK.2 1 (G.2.1, .long) rfl).2
    exact Option.some.inj (h1.symm.trans h2)
  subst hcA
  have ha := zAdd_agr (ad := ad) (q := q) w3
  have ec : zConc G (zAdd ad S.length q) (S ++ [.inr (1, n, [])]) (zNew μ S.length) = zConc G ad S μ ++ [(q, .inl (G.2.1, n, .inr (.inl (fun _ => 0))))] := by
    rw [zConc_push w1 w3]
    congr 3
    show (Sum.inl (G.2.1, n, Sum.inr (Sum.inl (fun j => Int64.ofInt (zNew μ S.length S.length j)))) : va_E) = _
    unfold zNew
    simp
  have g := w (zAdd ad S.length q) H1 locs ls (hg.trans ha w2) (by rw [ec]; exact hP1) (by rw [ec]; exact hD1) hS1 (by rw [zLs_agr ha w4]; exact hl)
  rw [List.map_cons, zSt_agr ha w5] at g
  have e5 : zTr (zAdd ad S.length q) (zR (some S.length)) = Value.ref q := by show Value.ref (zAdd ad S.length q S.length) = _; unfold zAdd; rw [if_pos rfl]
  rw [e5] at g
  exact g
theorem AW.objInit {r : Nat} (hd : decode (zcc f) pc = .ok (.invokespecial idx, 3)) (hm : Cond.methodLink (zy f).cls idx Lib.objectInit ∈ zAll) (hz : zDeep f st kc ks = true) (k : AW f n0 S1 S (pc + 3) L st μ kc ks o) : AW f n0 S1 S pc L (zR (some r) :: st) μ kc ks o := by
  intro p l e R s m args below meth c D G ad0 adV A Q C r9 hr hE ad H locs ls hg hP hD hS hl
  have w := k p l e R s m args below meth c D G ad0 adV A Q C r9 hr hE ad H locs ls hg hP hD hS hl
  obtain ⟨hx, hb, -, hml, hown, hts, -, -, -, -, ⟨f1, f2, f3, f4⟩, -⟩ := C
  obtain ⟨z1, z2, z3, z4⟩ := zDeep.of hz
  refine W.objInit hx hb hown (hts _ hm) (hts _ zoi_i) (hts _ zoi_c) rfl (hl.1.trans hml.symm) rfl hd (by omega) (by show 2 * 0 + _ + 12 ≤ _; rw [zsum_cat]; omega) w
end ZA
