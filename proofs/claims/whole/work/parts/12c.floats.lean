/-! ===== the rules of the walk: doubles and floats, where no NaN comes ===== -/
def zn64 (r : UInt64) : Bool := decide (r &&& 0x7fffffffffffffff ≤ 0x7ff0000000000000)
def zn32 (r : UInt32) : Bool := decide (r &&& 0x7fffffff ≤ 0x7f800000)
def zddiv (x y : UInt64) (K : UInt64 → Option ZRes) : Option ZRes := if zn64 (FP.ddiv x y) = true then K (FP.ddiv x y) else none
def zdadd (x y : UInt64) (K : UInt64 → Option ZRes) : Option ZRes := if zn64 (FP.dadd x y) = true then K (FP.dadd x y) else none
def zfdiv (x y : UInt32) (K : UInt32 → Option ZRes) : Option ZRes := if zn32 (FP.fdiv x y) = true then K (FP.fdiv x y) else none
def zfmul (x y : UInt32) (K : UInt32 → Option ZRes) : Option ZRes := if zn32 (FP.fmul x y) = true then K (FP.fmul x y) else none
def zi2d (a : Int) : UInt64 := FP.i2d (Int32.ofInt a)
def zl2d (a : Int) : UInt64 := FP.l2d (Int64.ofInt a)
def zl2f (a : Int) : UInt32 := FP.l2f (Int64.ofInt a)
def zf2i (u : UInt32) : Int := (FP.f2i u).toInt
def zdcmp (op : CmpOp) (x y : UInt64) : Int := (Op.cmpValue (FP.dcmp x y) op).toInt
theorem zn64_ok {r : UInt64} (h : zn64 r = true) : vf_n64 r := by
  unfold zn64 at h
  unfold vf_n64
  exact of_decide_eq_true h
theorem zn32_ok {r : UInt32} (h : zn32 r = true) : vf_n32 r := by
  unfold zn32 at h
  unfold vf_n32
  exact of_decide_eq_true h
section ZFL
variable {f : ZCf} {n0 : Nat} {S1 S : List ZSh} {pc : Nat} {L : List (Nat × ZV)} {st : List ZV} {μ : ZMem} {kc ks : Nat} {o : Option ZRes}
theorem AW.dconst0 (hd : decode (zcc f) pc = .ok (.dconst 0, 1)) (k : AW f n0 S1 S (pc + 1) L (zD FP.dconst0 :: st) μ kc ks o) : AW f n0 S1 S pc L st μ kc ks o :=
  AW.pure (fun _ _ _ _ _ _ _ _ _ _ _ _ _ _ _ hx hb _ w => lv_dconst0 hx hb hd w) k
theorem AW.dconst1 (hd : decode (zcc f) pc = .ok (.dconst 1, 1)) (k : AW f n0 S1 S (pc + 1) L (zD FP.dconst1 :: st) μ kc ks o) : AW f n0 S1 S pc L st μ kc ks o :=
  AW.pure (fun _ _ _ _ _ _ _ _ _ _ _ _ _ _ _ hx hb _ w => lv_dconst1 hx hb hd w) k
theorem AW.ddiv_if {x y : UInt64} {K : UInt64 → Option ZRes} (hd : decode (zcc f) pc = .ok (.ddiv, 1)) (k : ∀ d, AW f n0 S1 S (pc + 1) L (zD d :: st) μ kc ks (K d)) : AW f n0 S1 S pc L (zD y :: zD x :: st) μ kc ks (zddiv x y K) := by
  unfold zddiv
  by_cases h : zn64 (FP.ddiv x y) = true
  · rw [if_pos h]
    exact AW.pure (fun _ _ _ _ _ _ _ _ _ _ _ _ _ _ _ hx hb _ w => lv_ddiv hx hb hd (zn64_ok h) w) (k _)
  · rw [if_neg h]
    exact AW.noth
theorem AW.dadd_if {x y : UInt64} {K : UInt64 → Option ZRes} (hd : decode (zcc f) pc = .ok (.dadd, 1)) (k : ∀ d, AW f n0 S1 S (pc + 1) L (zD d :: st) μ kc ks (K d)) : AW f n0 S1 S pc L (zD y :: zD x :: st) μ kc ks (zdadd x y K) := by
  unfold zdadd
  by_cases h : zn64 (FP.dadd x y) = true
  · rw [if_pos h]
    exact AW.pure (fun _ _ _ _ _ _ _ _ _ _ _ _ _ _ _ hx hb _ w => lv_dadd hx hb hd (zn64_ok h) w) (k _)
  · rw [if_neg h]
    exact AW.noth
theorem AW.fdiv_if {x y : UInt32} {K : UInt32 → Option ZRes} (hd : decode (zcc f) pc = .ok (.fdiv, 1)) (k : ∀ d, AW f n0 S1 S (pc + 1) L (zF d :: st) μ kc ks (K d)) : AW f n0 S1 S pc L (zF y :: zF x :: st) μ kc ks (zfdiv x y K) := by
  unfold zfdiv
  by_cases h : zn32 (FP.fdiv x y) = true
  · rw [if_pos h]
    exact AW.pure (fun _ _ _ _ _ _ _ _ _ _ _ _ _ _ _ hx hb _ w => lv_fdiv hx hb hd (zn32_ok h) w) (k _)
  · rw [if_neg h]
    exact AW.noth
theorem AW.fmul_if {x y : UInt32} {K : UInt32 → Option ZRes} (hd : decode (zcc f) pc = .ok (.fmul, 1)) (k : ∀ d, AW f n0 S1 S (pc + 1) L (zF d :: st) μ kc ks (K d)) : AW f n0 S1 S pc L (zF y :: zF x :: st) μ kc ks (zfmul x y K) := by
  unfold zfmul
  by_cases h : zn32 (FP.fmul x y) = true
  · rw [if_pos h]
    exact AW.pure (fun _ _ _ _ _ _ _ _ _ _ _ _ _ _ _ hx hb _ w => lv_fmul hx hb hd (zn32_ok h) w) (k _)
  · rw [if_neg h]
    exact AW.noth
theorem AW.i2d {a : Int} (hd : decode (zcc f) pc = .ok (.i2d, 1)) (k : AW f n0 S1 S (pc + 1) L (zD (zi2d a) :: st) μ kc ks o) : AW f n0 S1 S pc L (zI a :: st) μ kc ks o :=
  AW.pure (fun _ _ _ _ _ _ _ _ _ _ _ _ _ _ _ hx hb _ w => lv_i2d hx hb hd w) k
theorem AW.l2d {a : Int} (hd : decode (zcc f) pc = .ok (.l2d, 1)) (k : AW f n0 S1 S (pc + 1) L (zD (zl2d a) :: st) μ kc ks o) : AW f n0 S1 S pc L (zJ a :: st) μ kc ks o :=
  AW.pure (fun _ _ _ _ _ _ _ _ _ _ _ _ _ _ _ hx hb _ w => lv_l2d hx hb hd w) k
theorem AW.l2f {a : Int} (hd : decode (zcc f) pc = .ok (.l2f, 1)) (k : AW f n0 S1 S (pc + 1) L (zF (zl2f a) :: st) μ kc ks o) : AW f n0 S1 S pc L (zJ a :: st) μ kc ks o :=
  AW.pure (fun _ _ _ _ _ _ _ _ _ _ _ _ _ _ _ hx hb _ w => lv_l2f hx hb hd w) k
theorem AW.f2i {u : UInt32} (hd : decode (zcc f) pc = .ok (.f2i, 1)) (k : AW f n0 S1 S (pc + 1) L (zI (zf2i u) :: st) μ kc ks o) : AW f n0 S1 S pc L (zF u :: st) μ kc ks o :=
  AW.pure (fun _ _ _ _ _ _ _ _ _ _ _ _ _ _ _ hx hb _ w => lv_f2i hx hb hd (by rw [show FP.f2i u = Int32.ofInt (zf2i u) from (Int32.ofInt_toInt _).symm]; exact w)) k
theorem AW.dcmp {op : CmpOp} {x y : UInt64} (hd : decode (zcc f) pc = .ok (.dcmp op, 1)) (k : AW f n0 S1 S (pc + 1) L (zI (zdcmp op x y) :: st) μ kc ks o) : AW f n0 S1 S pc L (zD y :: zD x :: st) μ kc ks o :=
  AW.pure (fun _ _ _ _ _ _ _ _ _ _ _ _ _ _ _ hx hb _ w => lv_dcmp hx hb hd (by rw [show Op.cmpValue (FP.dcmp x y) op = Int32.ofInt (zdcmp op x y) from (Int32.ofInt_toInt _).symm]; exact w)) k
theorem AW.ldcf {idx : Nat} {v : UInt32} (hd : decode (zcc f) pc = .ok (.ldc idx, 2)) (hw : Cond.constantFloat (zy f).cls idx v ∈ zAll) (k : AW f n0 S1 S (pc + 2) L (zF v :: st) μ kc ks o) : AW f n0 S1 S pc L st μ kc ks o :=
  AW.tab (fun _ _ _ _ _ _ _ _ _ _ _ _ _ _ _ hx hb ho ht w => lv_ldcf hx hb ho (ht _ hw) hd w) k
theorem zldcwF {p : Program} {l : Launch} {e : Env} {R : Room} {s : State} {m : MethodId} {args : Array Value} {below : List Frame} {meth : Method} {c : Code} {H : Heap} {locs : List Loc} {cells slots : Nat} {Q : State → Prop} {cc : ByteArray} {pc : Nat} {ls : Array Slot} {rest : List Value} (hexec : p.tables.exec = Jvm.exec) (hb : c.code = cc) {own : String} {index : Nat} {v : UInt32} (hown : s.vm.findClass own = some m.cls) (hconst : (Jvm.Cond.constantFloat own index v).before args s = true) (hdg : decode cc pc = .ok (.ldc_w index, 3)) (k : W p l e R s m args below meth c H locs cells slots Q (F0 m (pc + 3) ls (.float v :: rest))) : W p l e R s m args below meth c H locs cells slots Q (F0 m pc ls rest) := by
  intro T hT X
  obtain ⟨t, a, b⟩ := k T hT X
  refine ⟨t, ?_, b⟩
  obtain ⟨k9, cf, hk, hcf, hcp⟩ := Cond.constantFloat_spec hown hconst
  obtain ⟨k', hk', he⟩ := X.warmed.alike.2.2 _ _ hk
  have hd9 : decode c.code (F0 m pc ls rest).pc = .ok (.ldc_w index, 3) := by rw [hb]; exact hdg
  jvm_step X.here [hexec, hd9, ldc_w.wp_float (s := T) (f := F0 m pc ls rest) X.here.top hk' (by rw [he]; exact hcf) hcp]
  exact a
theorem AW.ldcwf {idx : Nat} {v : UInt32} (hd : decode (zcc f) pc = .ok (.ldc_w idx, 3)) (hw : Cond.constantFloat (zy f).cls idx v ∈ zAll) (k : AW f n0 S1 S (pc + 3) L (zF v :: st) μ kc ks o) : AW f n0 S1 S pc L st μ kc ks o :=
  AW.tab (fun _ _ _ _ _ _ _ _ _ _ _ _ _ _ _ hx hb ho ht w => zldcwF hx hb ho (ht _ hw) hd w) k
end ZFL
