/-! more words of the tables -/
theorem zm_X0_31 : Cond.methodLink RX0 31 arraycopyName ∈ zAll := zAll_in (List.mem_of_getElem? (i := 439) (by decide +kernel)) (by decide +kernel)
theorem zm_X3_57 : Cond.methodLink RX3 57 arraycopyName ∈ zAll := zAll_in (List.mem_of_getElem? (i := 461) (by decide +kernel)) (by decide +kernel)
theorem zm_X4_40 : Cond.methodLink RX4 40 arraycopyName ∈ zAll := zAll_in (List.mem_of_getElem? (i := 548) (by decide +kernel)) (by decide +kernel)
theorem zm_X1_38 : Cond.methodLink RX1 38 arraycopyName ∈ zAll := zAll_in (List.mem_of_getElem? (i := 666) (by decide +kernel)) (by decide +kernel)
theorem zm_X2_15 : Cond.methodLink RX2 15 arraycopyName ∈ zAll := zAll_in (List.mem_of_getElem? (i := 671) (by decide +kernel)) (by decide +kernel)
