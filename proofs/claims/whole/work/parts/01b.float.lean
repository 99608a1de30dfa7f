/-! ===== floats: where no NaN comes ===== -/
theorem fq_dadd {a b : UInt64} (ha : a &&& 0x7fffffffffffffff ≤ 0x7ff0000000000000) (hb : b &&& 0x7fffffffffffffff < 0x7ff0000000000000) : FP.dadd a b &&& 0x7fffffffffffffff ≤ 0x7ff0000000000000 := Jvm.Free.Fl.dadd_out ha hb
theorem fq_ddiv {a b : UInt64} (ha : a &&& 0x7fffffffffffffff ≤ 0x7ff0000000000000) (hb : b &&& 0x7fffffffffffffff < 0x7ff0000000000000) (hz : b &&& 0x7fffffffffffffff ≠ 0) : FP.ddiv a b &&& 0x7fffffffffffffff ≤ 0x7ff0000000000000 := Jvm.Free.Fl.ddiv_out ha hb hz
theorem fq_l2d (v : Int64) : FP.l2d v &&& 0x7fffffffffffffff < 0x7ff0000000000000 := Jvm.Free.Fl.l2d_fin v
theorem fq_i2d (v : Int32) : FP.i2d v &&& 0x7fffffffffffffff < 0x7ff0000000000000 := Jvm.Free.Fl.i2d_fin v
theorem fq_fin {a : UInt64} (h : a &&& 0x7fffffffffffffff < 0x7ff0000000000000) : a &&& 0x7fffffffffffffff ≤ 0x7ff0000000000000 := Jvm.Free.Fl.Fin64.noNaN h
theorem fq_l2f (v : Int64) : FP.l2f v &&& 0x7fffffff < 0x7f800000 := Jvm.Free.Fl.l2f_fin v
theorem fq_fin32 {a : UInt32} (h : a &&& 0x7fffffff < 0x7f800000) : a &&& 0x7fffffff ≤ 0x7f800000 := Jvm.Free.Fl.Fin32.noNaN h
theorem fq_l2f_nz {v : Int64} (h : v ≠ 0) : FP.l2f v &&& 0x7fffffff ≠ 0 := (Jvm.Free.Fl.nz32_iff (FP.l2f v)).mpr (Jvm.FP.Core.l2f_ne_zero h)
theorem fq_fdiv {a b : UInt32} (ha : a &&& 0x7fffffff ≤ 0x7f800000) (hb : b &&& 0x7fffffff < 0x7f800000) (hz : b &&& 0x7fffffff ≠ 0) : FP.fdiv a b &&& 0x7fffffff ≤ 0x7f800000 := Jvm.Free.Fl.fdiv_out ha hb hz
theorem fq_fmul {a b : UInt32} (ha : a &&& 0x7fffffff ≤ 0x7f800000) (hb : b &&& 0x7fffffff < 0x7f800000) (hz : b &&& 0x7fffffff ≠ 0) : FP.fmul a b &&& 0x7fffffff ≤ 0x7f800000 := Jvm.Free.Fl.fmul_outNz ha hb hz
theorem fq_step : ∀ r : Nat, r < 1000 → (FP.dadd FP.dconst1 (FP.ddiv (FP.i2d (Int32.ofInt (r : Int))) 4666723172467343360) &&& 0x7fffffffffffffff < 0x7ff0000000000000) ∧ FP.dadd FP.dconst1 (FP.ddiv (FP.i2d (Int32.ofInt (r : Int))) 4666723172467343360) &&& 0x7fffffffffffffff ≠ 0 := by decide +kernel
