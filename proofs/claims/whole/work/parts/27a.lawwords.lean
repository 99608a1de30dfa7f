def zQm_0 : List (Nat × Cond) := [(96, Cond.classLink RL 8 "WeirLedger"), (687, Cond.classLink RL 13 "java/lang/IllegalArgumentException"), (946, Cond.classLink RL 22 "java/util/NoSuchElementException"), (969, Cond.classLink RL 28 "java/lang/IndexOutOfBoundsException"), (1023, Cond.classLink RL 44 "java/lang/IllegalStateException"), (1024, Cond.classLink RL 46 "java/lang/UnsupportedOperationException"), (1286, Cond.classLink RL 131 "WeirLedgerModel")]
theorem zQs_0 (k : Nat) {n : Nat} {w : Cond} (h : zQm_0[k]? = some (n, w)) : w ∈ zAll := zPlOk (show (zQm_0.all fun q => decide (lw_tbl[q.1]? = some q.2) && goodWord q.2) = true by decide +kernel) h
theorem zcl_L_8 : Cond.classLink RL 8 "WeirLedger" ∈ zAll := zQs_0 0 rfl
theorem zcl_L_13 : Cond.classLink RL 13 "java/lang/IllegalArgumentException" ∈ zAll := zQs_0 1 rfl
theorem zcl_L_22 : Cond.classLink RL 22 "java/util/NoSuchElementException" ∈ zAll := zQs_0 2 rfl
theorem zcl_L_28 : Cond.classLink RL 28 "java/lang/IndexOutOfBoundsException" ∈ zAll := zQs_0 3 rfl
theorem zcl_L_44 : Cond.classLink RL 44 "java/lang/IllegalStateException" ∈ zAll := zQs_0 4 rfl
theorem zcl_L_46 : Cond.classLink RL 46 "java/lang/UnsupportedOperationException" ∈ zAll := zQs_0 5 rfl
theorem zcl_L_131 : Cond.classLink RL 131 "WeirLedgerModel" ∈ zAll := zQs_0 6 rfl
theorem zis_X8 : Cond.instantiable RX8 12 ∈ zAll := zAll_in (List.mem_of_getElem? (i := 97) (by decide +kernel)) (by decide +kernel)
theorem zno_L_8 : zNewOk RL 8 8 [(2, none), (2, none), (2, none), (2, none), (2, none), (2, none), (2, none), (2, none), (2, none), (2, none), (2, none), (3, none)] := zNewOk.mk (ty := tyX8) rfl zinX8 tyX8_ok zcl_L_8 zis_X8 zn_X8 rfl (by decide +kernel)
theorem zis_X9 : Cond.instantiable RX9 41 ∈ zAll := zAll_in (List.mem_of_getElem? (i := 1287) (by decide +kernel)) (by decide +kernel)
theorem zno_L_131 : zNewOk RL 131 9 [(0, none), (2, none), (2, none), (2, none), (2, none), (0, none), (0, none), (2, none), (2, none), (2, none), (2, none), (0, none), (2, none), (2, none), (0, none), (2, none), (2, none), (2, none), (2, none), (3, none), (2, none), (0, none), (0, none), (0, none), (0, none), (2, none), (2, none), (2, none), (0, none), (0, none), (3, none), (2, none), (2, none), (2, none), (2, none), (1, none), (1, none), (2, none), (2, none), (0, none), (1, none)] := zNewOk.mk (ty := tyX9) rfl zinX9 tyX9_ok zcl_L_131 zis_X9 zn_X9 rfl (by decide +kernel)
theorem zcst_IllegalArgumentException : Cond.castable "java/lang/IllegalArgumentException" "java/lang/IllegalArgumentException" ∈ zOther := List.mem_filter.mpr ⟨List.mem_of_getElem? (i := 824) (by decide +kernel), rfl⟩
theorem zcst_IllegalStateException : Cond.castable "java/lang/IllegalStateException" "java/lang/IllegalStateException" ∈ zOther := List.mem_filter.mpr ⟨List.mem_of_getElem? (i := 1035) (by decide +kernel), rfl⟩
theorem zcst_IndexOutOfBoundsException : Cond.castable "java/lang/IndexOutOfBoundsException" "java/lang/IndexOutOfBoundsException" ∈ zOther := List.mem_filter.mpr ⟨List.mem_of_getElem? (i := 980) (by decide +kernel), rfl⟩
theorem zcst_UnsupportedOperationException : Cond.castable "java/lang/UnsupportedOperationException" "java/lang/UnsupportedOperationException" ∈ zOther := List.mem_filter.mpr ⟨List.mem_of_getElem? (i := 1050) (by decide +kernel), rfl⟩
theorem zcst_NoSuchElementException : Cond.castable "java/util/NoSuchElementException" "java/util/NoSuchElementException" ∈ zOther := List.mem_filter.mpr ⟨List.mem_of_getElem? (i := 953) (by decide +kernel), rfl⟩
