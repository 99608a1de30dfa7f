/-! ===== the rules of the walk: numbers, branches ===== -/
def zand (a b : Int) : Int := (Int32.ofInt a &&& Int32.ofInt b).toInt
def zor (a b : Int) : Int := (Int32.ofInt a ||| Int32.ofInt b).toInt
def zshl (a b : Int) : Int := (Int32.ofInt a <<< (Int32.ofInt b &&& 31)).toInt
def zshr (a b : Int) : Int := (Int32.ofInt a >>> (Int32.ofInt b &&& 31)).toInt
def zushr (a b : Int) : Int := ((Int32.ofInt a).toUInt32 >>> ((Int32.ofInt b).toUInt32 &&& Int32.toUInt32 31)).toInt32.toInt
theorem zldiv (a b : Int) : Int64.ofInt a / Int64.ofInt b = Int64.ofInt ((w64 a).tdiv (w64 b)) := by
  apply Int64.toInt_inj.mp
  rw [Int64.toInt_div]
  exact (Int64.toInt_ofInt ..).symm
theorem zidiv (a b : Int) : Int32.ofInt a / Int32.ofInt b = Int32.ofInt ((w32 a).tdiv (w32 b)) := by
  apply Int32.toInt_inj.mp
  rw [Int32.toInt_div]
  exact (Int32.toInt_ofInt ..).symm
theorem zlrem (a b : Int) : Int64.ofInt a - Int64.ofInt a / Int64.ofInt b * Int64.ofInt b = Int64.ofInt ((w64 a).tmod (w64 b)) := by
  rw [zldiv, ← Int64.ofInt_mul, ← Int64.ofInt_sub, Int.tmod_def]
  apply Int64.toInt_inj.mp
  rw [Int64.toInt_ofInt, Int64.toInt_ofInt]
  have h1 : ∀ z : Int, (w64 z).bmod 18446744073709551616 = z.bmod 18446744073709551616 := fun z => by
    unfold w64
    rw [Int64.toInt_ofInt]
    exact Int.bmod_bmod
  rw [show Int64.size = 18446744073709551616 from rfl, Int.sub_bmod, Int.sub_bmod (w64 a), h1 a, Int.mul_comm (w64 b), Int.mul_bmod _ b, Int.mul_bmod _ (w64 b), h1 b]
theorem zirem (a b : Int) : Int32.ofInt a - Int32.ofInt a / Int32.ofInt b * Int32.ofInt b = Int32.ofInt ((w32 a).tmod (w32 b)) := by
  rw [zidiv, ← Int32.ofInt_mul, ← Int32.ofInt_sub, Int.tmod_def]
  apply Int32.toInt_inj.mp
  rw [Int32.toInt_ofInt, Int32.toInt_ofInt]
  have h1 : ∀ z : Int, (w32 z).bmod 4294967296 = z.bmod 4294967296 := fun z => by
    unfold w32
    rw [Int32.toInt_ofInt]
    exact Int.bmod_bmod
  rw [show Int32.size = 4294967296 from rfl, Int.sub_bmod, Int.sub_bmod (w32 a), h1 a, Int.mul_comm (w32 b), Int.mul_bmod _ b, Int.mul_bmod _ (w32 b), h1 b]
theorem zne64 {b : Int} (h : ¬ w64 b = 0) : ¬ Int64.ofInt b = 0 := fun e => h (by unfold w64; rw [e]; rfl)
theorem zne32 {b : Int} (h : ¬ w32 b = 0) : ¬ Int32.ofInt b = 0 := fun e => h (by unfold w32; rw [e]; rfl)
section ZR2
variable {f : ZCf} {n0 : Nat} {S1 S : List ZSh} {pc : Nat} {L : List (Nat × ZV)} {st : List ZV} {μ : ZMem} {kc ks : Nat} {o o1 o2 : Option ZRes}
theorem AW.iadd {a b : Int} (hd : decode (zcc f) pc = .ok (.iadd, 1)) (k : AW f n0 S1 S (pc + 1) L (zI (a + b) :: st) μ kc ks o) : AW f n0 S1 S pc L (zI b :: zI a :: st) μ kc ks o :=
  AW.pure (fun _ _ _ _ _ _ _ _ _ _ _ _ _ _ _ hx hb _ w => lv_iadd hx hb hd (by rw [← Int32.ofInt_add]; exact w)) k
theorem AW.isub {a b : Int} (hd : decode (zcc f) pc = .ok (.isub, 1)) (k : AW f n0 S1 S (pc + 1) L (zI (a - b) :: st) μ kc ks o) : AW f n0 S1 S pc L (zI b :: zI a :: st) μ kc ks o :=
  AW.pure (fun _ _ _ _ _ _ _ _ _ _ _ _ _ _ _ hx hb _ w => lv_isub hx hb hd (by rw [← Int32.ofInt_sub]; exact w)) k
theorem AW.imul {a b : Int} (hd : decode (zcc f) pc = .ok (.imul, 1)) (k : AW f n0 S1 S (pc + 1) L (zI (a * b) :: st) μ kc ks o) : AW f n0 S1 S pc L (zI b :: zI a :: st) μ kc ks o :=
  AW.pure (fun _ _ _ _ _ _ _ _ _ _ _ _ _ _ _ hx hb _ w => lv_imul hx hb hd (by rw [← Int32.ofInt_mul]; exact w)) k
theorem AW.ladd {a b : Int} (hd : decode (zcc f) pc = .ok (.ladd, 1)) (k : AW f n0 S1 S (pc + 1) L (zJ (a + b) :: st) μ kc ks o) : AW f n0 S1 S pc L (zJ b :: zJ a :: st) μ kc ks o :=
  AW.pure (fun _ _ _ _ _ _ _ _ _ _ _ _ _ _ _ hx hb _ w => lv_ladd hx hb hd (by rw [← Int64.ofInt_add]; exact w)) k
theorem AW.lsub {a b : Int} (hd : decode (zcc f) pc = .ok (.lsub, 1)) (k : AW f n0 S1 S (pc + 1) L (zJ (a - b) :: st) μ kc ks o) : AW f n0 S1 S pc L (zJ b :: zJ a :: st) μ kc ks o :=
  AW.pure (fun _ _ _ _ _ _ _ _ _ _ _ _ _ _ _ hx hb _ w => lv_lsub hx hb hd (by rw [← Int64.ofInt_sub]; exact w)) k
theorem AW.lmul {a b : Int} (hd : decode (zcc f) pc = .ok (.lmul, 1)) (k : AW f n0 S1 S (pc + 1) L (zJ (a * b) :: st) μ kc ks o) : AW f n0 S1 S pc L (zJ b :: zJ a :: st) μ kc ks o :=
  AW.pure (fun _ _ _ _ _ _ _ _ _ _ _ _ _ _ _ hx hb _ w => lv_lmul hx hb hd (by rw [← Int64.ofInt_mul]; exact w)) k
theorem AW.iand {a b : Int} (hd : decode (zcc f) pc = .ok (.iand, 1)) (k : AW f n0 S1 S (pc + 1) L (zI (zand a b) :: st) μ kc ks o) : AW f n0 S1 S pc L (zI b :: zI a :: st) μ kc ks o :=
  AW.pure (fun _ _ _ _ _ _ _ _ _ _ _ _ _ _ _ hx hb _ w => lv_iand hx hb hd (by rw [show Int32.ofInt a &&& Int32.ofInt b = Int32.ofInt (zand a b) from (Int32.ofInt_toInt _).symm]; exact w)) k
theorem AW.ior {a b : Int} (hd : decode (zcc f) pc = .ok (.ior, 1)) (k : AW f n0 S1 S (pc + 1) L (zI (zor a b) :: st) μ kc ks o) : AW f n0 S1 S pc L (zI b :: zI a :: st) μ kc ks o :=
  AW.pure (fun _ _ _ _ _ _ _ _ _ _ _ _ _ _ _ hx hb _ w => lv_ior hx hb hd (by rw [show Int32.ofInt a ||| Int32.ofInt b = Int32.ofInt (zor a b) from (Int32.ofInt_toInt _).symm]; exact w)) k
theorem AW.ishl {a b : Int} (hd : decode (zcc f) pc = .ok (.ishl, 1)) (k : AW f n0 S1 S (pc + 1) L (zI (zshl a b) :: st) μ kc ks o) : AW f n0 S1 S pc L (zI b :: zI a :: st) μ kc ks o :=
  AW.pure (fun _ _ _ _ _ _ _ _ _ _ _ _ _ _ _ hx hb _ w => lv_ishl hx hb hd (by rw [show Int32.ofInt a <<< (Int32.ofInt b &&& 31) = Int32.ofInt (zshl a b) from (Int32.ofInt_toInt _).symm]; exact w)) k
theorem AW.ishr {a b : Int} (hd : decode (zcc f) pc = .ok (.ishr, 1)) (k : AW f n0 S1 S (pc + 1) L (zI (zshr a b) :: st) μ kc ks o) : AW f n0 S1 S pc L (zI b :: zI a :: st) μ kc ks o :=
  AW.pure (fun _ _ _ _ _ _ _ _ _ _ _ _ _ _ _ hx hb _ w => lv_ishr hx hb hd (by rw [show Int32.ofInt a >>> (Int32.ofInt b &&& 31) = Int32.ofInt (zshr a b) from (Int32.ofInt_toInt _).symm]; exact w)) k
theorem AW.iushr {a b : Int} (hd : decode (zcc f) pc = .ok (.iushr, 1)) (k : AW f n0 S1 S (pc + 1) L (zI (zushr a b) :: st) μ kc ks o) : AW f n0 S1 S pc L (zI b :: zI a :: st) μ kc ks o :=
  AW.pure (fun _ _ _ _ _ _ _ _ _ _ _ _ _ _ _ hx hb _ w => lv_iushr (v := Int32.ofInt (zushr a b)) hx hb hd (Int32.ofInt_toInt _).symm w) k
theorem AW.ineg {a : Int} (hd : decode (zcc f) pc = .ok (.ineg, 1)) (k : AW f n0 S1 S (pc + 1) L (zI (-a) :: st) μ kc ks o) : AW f n0 S1 S pc L (zI a :: st) μ kc ks o :=
  AW.pure (fun _ _ _ _ _ _ _ _ _ _ _ _ _ _ _ hx hb _ w => lv_ineg hx hb hd (by rw [← Int32.ofInt_neg]; exact w)) k
theorem AW.i2l {a : Int} (hd : decode (zcc f) pc = .ok (.i2l, 1)) (k : AW f n0 S1 S (pc + 1) L (zJ (w32 a) :: st) μ kc ks o) : AW f n0 S1 S pc L (zI a :: st) μ kc ks o :=
  AW.pure (fun _ _ _ _ _ _ _ _ _ _ _ _ _ _ _ hx hb _ w => lv_i2l hx hb hd (zi2l a) w) k
theorem AW.l2i {a : Int} (hd : decode (zcc f) pc = .ok (.l2i, 1)) (k : AW f n0 S1 S (pc + 1) L (zI a :: st) μ kc ks o) : AW f n0 S1 S pc L (zJ a :: st) μ kc ks o :=
  AW.pure (fun _ _ _ _ _ _ _ _ _ _ _ _ _ _ _ hx hb _ w => lv_l2i hx hb hd (zl2i a) w) k
theorem AW.ldiv {a b : Int} (hd : decode (zcc f) pc = .ok (.ldiv, 1)) (h0 : ¬ w64 b = 0) (k : AW f n0 S1 S (pc + 1) L (zJ ((w64 a).tdiv (w64 b)) :: st) μ kc ks o) : AW f n0 S1 S pc L (zJ b :: zJ a :: st) μ kc ks o :=
  AW.pure (fun _ _ _ _ _ _ _ _ _ _ _ _ _ _ _ hx hb _ w => lv_ldiv hx hb hd (zne64 h0) (by rw [zldiv]; exact w)) k
theorem AW.idiv {a b : Int} (hd : decode (zcc f) pc = .ok (.idiv, 1)) (h0 : ¬ w32 b = 0) (k : AW f n0 S1 S (pc + 1) L (zI ((w32 a).tdiv (w32 b)) :: st) μ kc ks o) : AW f n0 S1 S pc L (zI b :: zI a :: st) μ kc ks o :=
  AW.pure (fun _ _ _ _ _ _ _ _ _ _ _ _ _ _ _ hx hb _ w => lv_idiv hx hb hd (zne32 h0) (by rw [zidiv]; exact w)) k
theorem AW.lrem {a b : Int} (hd : decode (zcc f) pc = .ok (.lrem, 1)) (h0 : ¬ w64 b = 0) (k : AW f n0 S1 S (pc + 1) L (zJ ((w64 a).tmod (w64 b)) :: st) μ kc ks o) : AW f n0 S1 S pc L (zJ b :: zJ a :: st) μ kc ks o :=
  AW.pure (fun _ _ _ _ _ _ _ _ _ _ _ _ _ _ _ hx hb _ w => lv_lrem hx hb hd (zne64 h0) (by rw [zlrem]; exact w)) k
theorem AW.irem {a b : Int} (hd : decode (zcc f) pc = .ok (.irem, 1)) (h0 : ¬ w32 b = 0) (k : AW f n0 S1 S (pc + 1) L (zI ((w32 a).tmod (w32 b)) :: st) μ kc ks o) : AW f n0 S1 S pc L (zI b :: zI a :: st) μ kc ks o :=
  AW.pure (fun _ _ _ _ _ _ _ _ _ _ _ _ _ _ _ hx hb _ w => lv_irem hx hb hd (zne32 h0) (by rw [zirem]; exact w)) k
theorem AW.ldiv_if {a b : Int} {K : Int → Option ZRes} (hd : decode (zcc f) pc = .ok (.ldiv, 1)) (k : AW f n0 S1 S (pc + 1) L (zJ ((w64 a).tdiv (w64 b)) :: st) μ kc ks (K ((w64 a).tdiv (w64 b)))) : AW f n0 S1 S pc L (zJ b :: zJ a :: st) μ kc ks (if w64 b = 0 then none else K ((w64 a).tdiv (w64 b))) := by
  by_cases h : w64 b = 0
  · intro _ _ _ _ _ _ _ _ _ _ _ _ _ _ _ _ _ r hr
    rw [if_pos h] at hr
    cases hr
  · rw [if_neg h]
    exact AW.ldiv hd h k
theorem AW.lrem_if {a b : Int} {K : Int → Option ZRes} (hd : decode (zcc f) pc = .ok (.lrem, 1)) (k : AW f n0 S1 S (pc + 1) L (zJ ((w64 a).tmod (w64 b)) :: st) μ kc ks (K ((w64 a).tmod (w64 b)))) : AW f n0 S1 S pc L (zJ b :: zJ a :: st) μ kc ks (if w64 b = 0 then none else K ((w64 a).tmod (w64 b))) := by
  by_cases h : w64 b = 0
  · intro _ _ _ _ _ _ _ _ _ _ _ _ _ _ _ _ _ r hr
    rw [if_pos h] at hr
    cases hr
  · rw [if_neg h]
    exact AW.lrem hd h k
theorem AW.idiv_if {a b : Int} {K : Int → Option ZRes} (hd : decode (zcc f) pc = .ok (.idiv, 1)) (k : AW f n0 S1 S (pc + 1) L (zI ((w32 a).tdiv (w32 b)) :: st) μ kc ks (K ((w32 a).tdiv (w32 b)))) : AW f n0 S1 S pc L (zI b :: zI a :: st) μ kc ks (if w32 b = 0 then none else K ((w32 a).tdiv (w32 b))) := by
  by_cases h : w32 b = 0
  · intro _ _ _ _ _ _ _ _ _ _ _ _ _ _ _ _ _ r hr
    rw [if_pos h] at hr
    cases hr
  · rw [if_neg h]
    exact AW.idiv hd h k
theorem AW.irem_if {a b : Int} {K : Int → Option ZRes} (hd : decode (zcc f) pc = .ok (.irem, 1)) (k : AW f n0 S1 S (pc + 1) L (zI ((w32 a).tmod (w32 b)) :: st) μ kc ks (K ((w32 a).tmod (w32 b)))) : AW f n0 S1 S pc L (zI b :: zI a :: st) μ kc ks (if w32 b = 0 then none else K ((w32 a).tmod (w32 b))) := by
  by_cases h : w32 b = 0
  · intro _ _ _ _ _ _ _ _ _ _ _ _ _ _ _ _ _ r hr
    rw [if_pos h] at hr
    cases hr
  · rw [if_neg h]
    exact AW.irem hd h k
theorem AW.dup {v : ZV} (hd : decode (zcc f) pc = .ok (.dup, 1)) (hv : zcat v = 1) (k : AW f n0 S1 S (pc + 1) L (v :: v :: st) μ kc ks o) : AW f n0 S1 S pc L (v :: st) μ kc ks o :=
  AW.pure (fun _ _ _ _ _ _ _ _ _ _ _ ad _ _ _ hx hb _ w => lv_dup hx hb hd ((zcat_ok ad v).trans hv) w) k
theorem AW.dup2 {v u : ZV} (hd : decode (zcc f) pc = .ok (.dup2, 1)) (hv : zcat v = 1) (hu : zcat u = 1) (k : AW f n0 S1 S (pc + 1) L (v :: u :: v :: u :: st) μ kc ks o) : AW f n0 S1 S pc L (v :: u :: st) μ kc ks o :=
  AW.pure (fun _ _ _ _ _ _ _ _ _ _ _ ad _ _ _ hx hb _ w => lv_dup2_11 hx hb hd ((zcat_ok ad v).trans hv) ((zcat_ok ad u).trans hu) w) k
theorem AW.dup2_2 {v : ZV} (hd : decode (zcc f) pc = .ok (.dup2, 1)) (hv : zcat v = 2) (k : AW f n0 S1 S (pc + 1) L (v :: v :: st) μ kc ks o) : AW f n0 S1 S pc L (v :: st) μ kc ks o :=
  AW.pure (fun _ _ _ _ _ _ _ _ _ _ _ ad _ _ _ hx hb _ w => lv_dup2_2 hx hb hd ((zcat_ok ad v).trans hv) w) k
theorem AW.pop {v : ZV} (hd : decode (zcc f) pc = .ok (.pop, 1)) (hv : zcat v = 1) (k : AW f n0 S1 S (pc + 1) L st μ kc ks o) : AW f n0 S1 S pc L (v :: st) μ kc ks o :=
  AW.pure (fun _ _ _ _ _ _ _ _ _ _ _ ad _ _ _ hx hb _ w => lv_pop hx hb hd ((zcat_ok ad v).trans hv) w) k
theorem AW.pop2 {v : ZV} (hd : decode (zcc f) pc = .ok (.pop2, 1)) (hv : zcat v = 2) (k : AW f n0 S1 S (pc + 1) L st μ kc ks o) : AW f n0 S1 S pc L (v :: st) μ kc ks o :=
  AW.pure (fun _ _ _ _ _ _ _ _ _ _ _ ad _ _ _ hx hb _ w => lv_pop2_2 hx hb hd ((zcat_ok ad v).trans hv) w) k
theorem AW.goto {off : Int} {tgt : Nat} (hd : decode (zcc f) pc = .ok (.goto off, 3)) (ht : (pc : Int) + off = (tgt : Int)) (k : AW f n0 S1 S tgt L st μ kc ks o) : AW f n0 S1 S pc L st μ kc ks o :=
  AW.pure (fun _ _ _ _ _ _ _ _ _ _ _ _ _ _ _ hx hb _ w => lv_goto hx hb hd ht w) k
/-- two ways on -/
theorem AW.two {cnd : Prop} [Decidable cnd] {st0 : List ZV} {pc1 pc2 : Nat} (h : ∀ (p : Program) (l : Launch) (e : Env) (R : Room) (s : State) (m : MethodId) (args : Array Value) (below : List Frame) (meth : Method) (c : Code) (Q : State → Prop) (ad : Nat → Nat) (H : Heap) (locs : List Loc) (ls : Array Slot), p.tables.exec = Jvm.exec → c.code = zcc f →
      (cnd → W p l e R s m args below meth c H locs kc ks Q (F0 m pc1 ls (st.map (zTr ad)))) → (¬ cnd → W p l e R s m args below meth c H locs kc ks Q (F0 m pc2 ls (st.map (zTr ad)))) → W p l e R s m args below meth c H locs kc ks Q (F0 m pc ls (st0.map (zTr ad))))
    (k1 : cnd → AW f n0 S1 S pc1 L st μ kc ks o1) (k2 : ¬ cnd → AW f n0 S1 S pc2 L st μ kc ks o2) : AW f n0 S1 S pc L st0 μ kc ks (if cnd then o1 else o2) := by
  intro p l e R s m args below meth c D G ad0 adV A Q C r hr hE ad H locs ls hg hP hD hS hl
  refine h p l e R s m args below meth c Q ad H locs ls C.1 C.2.1 (fun hc => ?_) (fun hc => ?_)
  · rw [if_pos hc] at hr
    exact k1 hc p l e R s m args below meth c D G ad0 adV A Q C r hr hE ad H locs ls hg hP hD hS hl
  · rw [if_neg hc] at hr
    exact k2 hc p l e R s m args below meth c D G ad0 adV A Q C r hr hE ad H locs ls hg hP hD hS hl
theorem zz32 {a : Int} : Int32.ofInt a = 0 ↔ w32 a = 0 := by rw [show (0 : Int32) = Int32.ofInt 0 from rfl, zeq32]; rfl
theorem zlz32 {a : Int} : Int32.ofInt a < 0 ↔ w32 a < 0 := by rw [show (0 : Int32) = Int32.ofInt 0 from rfl, zlt32]; rfl
theorem zlez32 {a : Int} : Int32.ofInt a ≤ 0 ↔ w32 a ≤ 0 := by rw [show (0 : Int32) = Int32.ofInt 0 from rfl, zle32]; rfl
theorem zgz32 {a : Int} : 0 < Int32.ofInt a ↔ 0 < w32 a := by rw [show (0 : Int32) = Int32.ofInt 0 from rfl, zlt32]; rfl
theorem zgez32 {a : Int} : 0 ≤ Int32.ofInt a ↔ 0 ≤ w32 a := by rw [show (0 : Int32) = Int32.ofInt 0 from rfl, zle32]; rfl
theorem zlt64 {a b : Int} : Int64.ofInt a < Int64.ofInt b ↔ w64 a < w64 b := Int64.lt_iff_toInt_lt
theorem zle64 {a b : Int} : Int64.ofInt a ≤ Int64.ofInt b ↔ w64 a ≤ w64 b := Int64.le_iff_toInt_le
theorem zeq64 {a b : Int} : Int64.ofInt a = Int64.ofInt b ↔ w64 a = w64 b := Int64.toInt_inj.symm
theorem zcmp (a b : Int) : (lg_cmp (Int64.ofInt a) (Int64.ofInt b)).toInt = if w64 b < w64 a then 1 else if w64 a = w64 b then 0 else -1 := by
  unfold lg_cmp
  simp only [gt_iff_lt, zlt64, zeq64]
  repeat' split
  all_goals first | rfl | omega
theorem AW.if_eq {a : Int} {off : Int} {tgt : Nat} (hd : decode (zcc f) pc = .ok (.ifCond .eq off, 3)) (ht : (pc : Int) + off = (tgt : Int)) (k1 : w32 a = 0 → AW f n0 S1 S tgt L st μ kc ks o1) (k2 : ¬ (w32 a = 0) → AW f n0 S1 S (pc + 3) L st μ kc ks o2) : AW f n0 S1 S pc L (zI a :: st) μ kc ks (if w32 a = 0 then o1 else o2) :=
  AW.two (fun _ _ _ _ _ _ _ _ _ _ _ _ _ _ _ hx hb w1 w2 => lv_if_eq hx hb hd ht (fun h => w1 (by
    simp only [ne_eq, ge_iff_le, gt_iff_lt, zz32, zlz32, zlez32, zgz32, zgez32] at h
    exact h)) (fun h => w2 (by
    simp only [ne_eq, ge_iff_le, gt_iff_lt, zz32, zlz32, zlez32, zgz32, zgez32] at h
    exact h))) k1 k2
theorem AW.icmp_eq {a b : Int} {off : Int} {tgt : Nat} (hd : decode (zcc f) pc = .ok (.if_icmp .eq off, 3)) (ht : (pc : Int) + off = (tgt : Int)) (k1 : w32 a = w32 b → AW f n0 S1 S tgt L st μ kc ks o1) (k2 : ¬ (w32 a = w32 b) → AW f n0 S1 S (pc + 3) L st μ kc ks o2) : AW f n0 S1 S pc L (zI b :: zI a :: st) μ kc ks (if w32 a = w32 b then o1 else o2) :=
  AW.two (fun _ _ _ _ _ _ _ _ _ _ _ _ _ _ _ hx hb w1 w2 => lv_icmp_eq hx hb hd ht (fun h => w1 (by
    simp only [ne_eq, ge_iff_le, gt_iff_lt, zlt32, zle32, zeq32] at h
    exact h)) (fun h => w2 (by
    simp only [ne_eq, ge_iff_le, gt_iff_lt, zlt32, zle32, zeq32] at h
    exact h))) k1 k2
theorem AW.lcmp_eq {a b : Int} {off : Int} {tgt : Nat} (hd0 : decode (zcc f) pc = .ok (.lcmp, 1)) (hd : decode (zcc f) (pc + 1) = .ok (.ifCond .eq off, 3)) (ht : ((pc + 1 : Nat) : Int) + off = (tgt : Int)) (k1 : w64 a = w64 b → AW f n0 S1 S tgt L st μ kc ks o1) (k2 : ¬ (w64 a = w64 b) → AW f n0 S1 S (pc + 4) L st μ kc ks o2) : AW f n0 S1 S pc L (zJ b :: zJ a :: st) μ kc ks (if w64 a = w64 b then o1 else o2) :=
  AW.two (fun _ _ _ _ _ _ _ _ _ _ _ _ _ _ _ hx hb w1 w2 => W.lcmp hx hb hd0 (lv_if_eq hx hb hd ht (fun h => w1 (by
    simp only [ne_eq, ge_iff_le, gt_iff_lt, ← Int32.toInt_inj, Int32.lt_iff_toInt_lt, Int32.le_iff_toInt_le, zcmp, Int32.toInt_zero] at h
    repeat' split at h
    all_goals omega)) (fun h => w2 (by
    simp only [ne_eq, ge_iff_le, gt_iff_lt, ← Int32.toInt_inj, Int32.lt_iff_toInt_lt, Int32.le_iff_toInt_le, zcmp, Int32.toInt_zero] at h
    repeat' split at h
    all_goals omega)))) k1 k2
theorem AW.if_ne {a : Int} {off : Int} {tgt : Nat} (hd : decode (zcc f) pc = .ok (.ifCond .ne off, 3)) (ht : (pc : Int) + off = (tgt : Int)) (k1 : w32 a = 0 → AW f n0 S1 S (pc + 3) L st μ kc ks o1) (k2 : ¬ (w32 a = 0) → AW f n0 S1 S tgt L st μ kc ks o2) : AW f n0 S1 S pc L (zI a :: st) μ kc ks (if w32 a = 0 then o1 else o2) :=
  AW.two (fun _ _ _ _ _ _ _ _ _ _ _ _ _ _ _ hx hb w1 w2 => lv_if_ne hx hb hd ht (fun h => w2 (fun q => h (zz32.mpr q))) (fun h => w1 (zz32.mp h))) k1 k2
theorem AW.icmp_ne {a b : Int} {off : Int} {tgt : Nat} (hd : decode (zcc f) pc = .ok (.if_icmp .ne off, 3)) (ht : (pc : Int) + off = (tgt : Int)) (k1 : w32 a = w32 b → AW f n0 S1 S (pc + 3) L st μ kc ks o1) (k2 : ¬ (w32 a = w32 b) → AW f n0 S1 S tgt L st μ kc ks o2) : AW f n0 S1 S pc L (zI b :: zI a :: st) μ kc ks (if w32 a = w32 b then o1 else o2) :=
  AW.two (fun _ _ _ _ _ _ _ _ _ _ _ _ _ _ _ hx hb w1 w2 => lv_icmp_ne hx hb hd ht (fun h => w2 (fun q => h (zeq32.mpr q))) (fun h => w1 (zeq32.mp h))) k1 k2
theorem AW.lcmp_ne {a b : Int} {off : Int} {tgt : Nat} (hd0 : decode (zcc f) pc = .ok (.lcmp, 1)) (hd : decode (zcc f) (pc + 1) = .ok (.ifCond .ne off, 3)) (ht : ((pc + 1 : Nat) : Int) + off = (tgt : Int)) (k1 : w64 a = w64 b → AW f n0 S1 S (pc + 4) L st μ kc ks o1) (k2 : ¬ (w64 a = w64 b) → AW f n0 S1 S tgt L st μ kc ks o2) : AW f n0 S1 S pc L (zJ b :: zJ a :: st) μ kc ks (if w64 a = w64 b then o1 else o2) :=
  AW.two (fun _ _ _ _ _ _ _ _ _ _ _ _ _ _ _ hx hb w1 w2 => W.lcmp hx hb hd0 (lv_if_ne hx hb hd ht (fun h => w2 (by
    simp only [ne_eq, ← Int32.toInt_inj, zcmp, Int32.toInt_zero] at h
    repeat' split at h
    all_goals omega)) (fun h => w1 (by
    simp only [ne_eq, ← Int32.toInt_inj, zcmp, Int32.toInt_zero] at h
    repeat' split at h
    all_goals omega)))) k1 k2
theorem AW.if_lt {a : Int} {off : Int} {tgt : Nat} (hd : decode (zcc f) pc = .ok (.ifCond .lt off, 3)) (ht : (pc : Int) + off = (tgt : Int)) (k1 : w32 a < 0 → AW f n0 S1 S tgt L st μ kc ks o1) (k2 : ¬ (w32 a < 0) → AW f n0 S1 S (pc + 3) L st μ kc ks o2) : AW f n0 S1 S pc L (zI a :: st) μ kc ks (if w32 a < 0 then o1 else o2) :=
  AW.two (fun _ _ _ _ _ _ _ _ _ _ _ _ _ _ _ hx hb w1 w2 => lv_if_lt hx hb hd ht (fun h => w1 (by
    simp only [ne_eq, ge_iff_le, gt_iff_lt, zz32, zlz32, zlez32, zgz32, zgez32] at h
    exact h)) (fun h => w2 (by
    simp only [ne_eq, ge_iff_le, gt_iff_lt, zz32, zlz32, zlez32, zgz32, zgez32] at h
    exact h))) k1 k2
theorem AW.icmp_lt {a b : Int} {off : Int} {tgt : Nat} (hd : decode (zcc f) pc = .ok (.if_icmp .lt off, 3)) (ht : (pc : Int) + off = (tgt : Int)) (k1 : w32 a < w32 b → AW f n0 S1 S tgt L st μ kc ks o1) (k2 : ¬ (w32 a < w32 b) → AW f n0 S1 S (pc + 3) L st μ kc ks o2) : AW f n0 S1 S pc L (zI b :: zI a :: st) μ kc ks (if w32 a < w32 b then o1 else o2) :=
  AW.two (fun _ _ _ _ _ _ _ _ _ _ _ _ _ _ _ hx hb w1 w2 => lv_icmp_lt hx hb hd ht (fun h => w1 (by
    simp only [ne_eq, ge_iff_le, gt_iff_lt, zlt32, zle32, zeq32] at h
    exact h)) (fun h => w2 (by
    simp only [ne_eq, ge_iff_le, gt_iff_lt, zlt32, zle32, zeq32] at h
    exact h))) k1 k2
theorem AW.lcmp_lt {a b : Int} {off : Int} {tgt : Nat} (hd0 : decode (zcc f) pc = .ok (.lcmp, 1)) (hd : decode (zcc f) (pc + 1) = .ok (.ifCond .lt off, 3)) (ht : ((pc + 1 : Nat) : Int) + off = (tgt : Int)) (k1 : w64 a < w64 b → AW f n0 S1 S tgt L st μ kc ks o1) (k2 : ¬ (w64 a < w64 b) → AW f n0 S1 S (pc + 4) L st μ kc ks o2) : AW f n0 S1 S pc L (zJ b :: zJ a :: st) μ kc ks (if w64 a < w64 b then o1 else o2) :=
  AW.two (fun _ _ _ _ _ _ _ _ _ _ _ _ _ _ _ hx hb w1 w2 => W.lcmp hx hb hd0 (lv_if_lt hx hb hd ht (fun h => w1 (by
    simp only [ne_eq, ge_iff_le, gt_iff_lt, ← Int32.toInt_inj, Int32.lt_iff_toInt_lt, Int32.le_iff_toInt_le, zcmp, Int32.toInt_zero] at h
    repeat' split at h
    all_goals omega)) (fun h => w2 (by
    simp only [ne_eq, ge_iff_le, gt_iff_lt, ← Int32.toInt_inj, Int32.lt_iff_toInt_lt, Int32.le_iff_toInt_le, zcmp, Int32.toInt_zero] at h
    repeat' split at h
    all_goals omega)))) k1 k2
theorem AW.if_ge {a : Int} {off : Int} {tgt : Nat} (hd : decode (zcc f) pc = .ok (.ifCond .ge off, 3)) (ht : (pc : Int) + off = (tgt : Int)) (k1 : 0 ≤ w32 a → AW f n0 S1 S tgt L st μ kc ks o1) (k2 : ¬ (0 ≤ w32 a) → AW f n0 S1 S (pc + 3) L st μ kc ks o2) : AW f n0 S1 S pc L (zI a :: st) μ kc ks (if 0 ≤ w32 a then o1 else o2) :=
  AW.two (fun _ _ _ _ _ _ _ _ _ _ _ _ _ _ _ hx hb w1 w2 => lv_if_ge hx hb hd ht (fun h => w1 (by
    simp only [ne_eq, ge_iff_le, gt_iff_lt, zz32, zlz32, zlez32, zgz32, zgez32] at h
    exact h)) (fun h => w2 (by
    simp only [ne_eq, ge_iff_le, gt_iff_lt, zz32, zlz32, zlez32, zgz32, zgez32] at h
    exact h))) k1 k2
theorem AW.icmp_ge {a b : Int} {off : Int} {tgt : Nat} (hd : decode (zcc f) pc = .ok (.if_icmp .ge off, 3)) (ht : (pc : Int) + off = (tgt : Int)) (k1 : w32 b ≤ w32 a → AW f n0 S1 S tgt L st μ kc ks o1) (k2 : ¬ (w32 b ≤ w32 a) → AW f n0 S1 S (pc + 3) L st μ kc ks o2) : AW f n0 S1 S pc L (zI b :: zI a :: st) μ kc ks (if w32 b ≤ w32 a then o1 else o2) :=
  AW.two (fun _ _ _ _ _ _ _ _ _ _ _ _ _ _ _ hx hb w1 w2 => lv_icmp_ge hx hb hd ht (fun h => w1 (by
    simp only [ne_eq, ge_iff_le, gt_iff_lt, zlt32, zle32, zeq32] at h
    exact h)) (fun h => w2 (by
    simp only [ne_eq, ge_iff_le, gt_iff_lt, zlt32, zle32, zeq32] at h
    exact h))) k1 k2
theorem AW.lcmp_ge {a b : Int} {off : Int} {tgt : Nat} (hd0 : decode (zcc f) pc = .ok (.lcmp, 1)) (hd : decode (zcc f) (pc + 1) = .ok (.ifCond .ge off, 3)) (ht : ((pc + 1 : Nat) : Int) + off = (tgt : Int)) (k1 : w64 b ≤ w64 a → AW f n0 S1 S tgt L st μ kc ks o1) (k2 : ¬ (w64 b ≤ w64 a) → AW f n0 S1 S (pc + 4) L st μ kc ks o2) : AW f n0 S1 S pc L (zJ b :: zJ a :: st) μ kc ks (if w64 b ≤ w64 a then o1 else o2) :=
  AW.two (fun _ _ _ _ _ _ _ _ _ _ _ _ _ _ _ hx hb w1 w2 => W.lcmp hx hb hd0 (lv_if_ge hx hb hd ht (fun h => w1 (by
    simp only [ne_eq, ge_iff_le, gt_iff_lt, ← Int32.toInt_inj, Int32.lt_iff_toInt_lt, Int32.le_iff_toInt_le, zcmp, Int32.toInt_zero] at h
    repeat' split at h
    all_goals omega)) (fun h => w2 (by
    simp only [ne_eq, ge_iff_le, gt_iff_lt, ← Int32.toInt_inj, Int32.lt_iff_toInt_lt, Int32.le_iff_toInt_le, zcmp, Int32.toInt_zero] at h
    repeat' split at h
    all_goals omega)))) k1 k2
theorem AW.if_gt {a : Int} {off : Int} {tgt : Nat} (hd : decode (zcc f) pc = .ok (.ifCond .gt off, 3)) (ht : (pc : Int) + off = (tgt : Int)) (k1 : 0 < w32 a → AW f n0 S1 S tgt L st μ kc ks o1) (k2 : ¬ (0 < w32 a) → AW f n0 S1 S (pc + 3) L st μ kc ks o2) : AW f n0 S1 S pc L (zI a :: st) μ kc ks (if 0 < w32 a then o1 else o2) :=
  AW.two (fun _ _ _ _ _ _ _ _ _ _ _ _ _ _ _ hx hb w1 w2 => lv_if_gt hx hb hd ht (fun h => w1 (by
    simp only [ne_eq, ge_iff_le, gt_iff_lt, zz32, zlz32, zlez32, zgz32, zgez32] at h
    exact h)) (fun h => w2 (by
    simp only [ne_eq, ge_iff_le, gt_iff_lt, zz32, zlz32, zlez32, zgz32, zgez32] at h
    exact h))) k1 k2
theorem AW.icmp_gt {a b : Int} {off : Int} {tgt : Nat} (hd : decode (zcc f) pc = .ok (.if_icmp .gt off, 3)) (ht : (pc : Int) + off = (tgt : Int)) (k1 : w32 b < w32 a → AW f n0 S1 S tgt L st μ kc ks o1) (k2 : ¬ (w32 b < w32 a) → AW f n0 S1 S (pc + 3) L st μ kc ks o2) : AW f n0 S1 S pc L (zI b :: zI a :: st) μ kc ks (if w32 b < w32 a then o1 else o2) :=
  AW.two (fun _ _ _ _ _ _ _ _ _ _ _ _ _ _ _ hx hb w1 w2 => lv_icmp_gt hx hb hd ht (fun h => w1 (by
    simp only [ne_eq, ge_iff_le, gt_iff_lt, zlt32, zle32, zeq32] at h
    exact h)) (fun h => w2 (by
    simp only [ne_eq, ge_iff_le, gt_iff_lt, zlt32, zle32, zeq32] at h
    exact h))) k1 k2
theorem AW.lcmp_gt {a b : Int} {off : Int} {tgt : Nat} (hd0 : decode (zcc f) pc = .ok (.lcmp, 1)) (hd : decode (zcc f) (pc + 1) = .ok (.ifCond .gt off, 3)) (ht : ((pc + 1 : Nat) : Int) + off = (tgt : Int)) (k1 : w64 b < w64 a → AW f n0 S1 S tgt L st μ kc ks o1) (k2 : ¬ (w64 b < w64 a) → AW f n0 S1 S (pc + 4) L st μ kc ks o2) : AW f n0 S1 S pc L (zJ b :: zJ a :: st) μ kc ks (if w64 b < w64 a then o1 else o2) :=
  AW.two (fun _ _ _ _ _ _ _ _ _ _ _ _ _ _ _ hx hb w1 w2 => W.lcmp hx hb hd0 (lv_if_gt hx hb hd ht (fun h => w1 (by
    simp only [ne_eq, ge_iff_le, gt_iff_lt, ← Int32.toInt_inj, Int32.lt_iff_toInt_lt, Int32.le_iff_toInt_le, zcmp, Int32.toInt_zero] at h
    repeat' split at h
    all_goals omega)) (fun h => w2 (by
    simp only [ne_eq, ge_iff_le, gt_iff_lt, ← Int32.toInt_inj, Int32.lt_iff_toInt_lt, Int32.le_iff_toInt_le, zcmp, Int32.toInt_zero] at h
    repeat' split at h
    all_goals omega)))) k1 k2
theorem AW.if_le {a : Int} {off : Int} {tgt : Nat} (hd : decode (zcc f) pc = .ok (.ifCond .le off, 3)) (ht : (pc : Int) + off = (tgt : Int)) (k1 : w32 a ≤ 0 → AW f n0 S1 S tgt L st μ kc ks o1) (k2 : ¬ (w32 a ≤ 0) → AW f n0 S1 S (pc + 3) L st μ kc ks o2) : AW f n0 S1 S pc L (zI a :: st) μ kc ks (if w32 a ≤ 0 then o1 else o2) :=
  AW.two (fun _ _ _ _ _ _ _ _ _ _ _ _ _ _ _ hx hb w1 w2 => lv_if_le hx hb hd ht (fun h => w1 (by
    simp only [ne_eq, ge_iff_le, gt_iff_lt, zz32, zlz32, zlez32, zgz32, zgez32] at h
    exact h)) (fun h => w2 (by
    simp only [ne_eq, ge_iff_le, gt_iff_lt, zz32, zlz32, zlez32, zgz32, zgez32] at h
    exact h))) k1 k2
theorem AW.icmp_le {a b : Int} {off : Int} {tgt : Nat} (hd : decode (zcc f) pc = .ok (.if_icmp .le off, 3)) (ht : (pc : Int) + off = (tgt : Int)) (k1 : w32 a ≤ w32 b → AW f n0 S1 S tgt L st μ kc ks o1) (k2 : ¬ (w32 a ≤ w32 b) → AW f n0 S1 S (pc + 3) L st μ kc ks o2) : AW f n0 S1 S pc L (zI b :: zI a :: st) μ kc ks (if w32 a ≤ w32 b then o1 else o2) :=
  AW.two (fun _ _ _ _ _ _ _ _ _ _ _ _ _ _ _ hx hb w1 w2 => lv_icmp_le hx hb hd ht (fun h => w1 (by
    simp only [ne_eq, ge_iff_le, gt_iff_lt, zlt32, zle32, zeq32] at h
    exact h)) (fun h => w2 (by
    simp only [ne_eq, ge_iff_le, gt_iff_lt, zlt32, zle32, zeq32] at h
    exact h))) k1 k2
theorem AW.lcmp_le {a b : Int} {off : Int} {tgt : Nat} (hd0 : decode (zcc f) pc = .ok (.lcmp, 1)) (hd : decode (zcc f) (pc + 1) = .ok (.ifCond .le off, 3)) (ht : ((pc + 1 : Nat) : Int) + off = (tgt : Int)) (k1 : w64 a ≤ w64 b → AW f n0 S1 S tgt L st μ kc ks o1) (k2 : ¬ (w64 a ≤ w64 b) → AW f n0 S1 S (pc + 4) L st μ kc ks o2) : AW f n0 S1 S pc L (zJ b :: zJ a :: st) μ kc ks (if w64 a ≤ w64 b then o1 else o2) :=
  AW.two (fun _ _ _ _ _ _ _ _ _ _ _ _ _ _ _ hx hb w1 w2 => W.lcmp hx hb hd0 (lv_if_le hx hb hd ht (fun h => w1 (by
    simp only [ne_eq, ge_iff_le, gt_iff_lt, ← Int32.toInt_inj, Int32.lt_iff_toInt_lt, Int32.le_iff_toInt_le, zcmp, Int32.toInt_zero] at h
    repeat' split at h
    all_goals omega)) (fun h => w2 (by
    simp only [ne_eq, ge_iff_le, gt_iff_lt, ← Int32.toInt_inj, Int32.lt_iff_toInt_lt, Int32.le_iff_toInt_le, zcmp, Int32.toInt_zero] at h
    repeat' split at h
    all_goals omega)))) k1 k2
end ZR2
