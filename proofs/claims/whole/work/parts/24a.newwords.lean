theorem zNewOk.mk {own C : String} {T : u_T} {N idx ci : Nat} {ty : Nat → FieldType} {fl : List (Nat × Option Nat)} (h1 : vwCl[ci]? = some (C, T, N)) (h2 : ∀ w ∈ u_ws C T N, w ∈ zAll) (h3 : ∀ k, k < N → parseFieldDescriptor (T k).2.2.1 = some (ty k)) (h4 : Cond.classLink own idx C ∈ zAll) (h5 : Cond.instantiable C N ∈ zAll) (h6 : Cond.initialized C ∈ zAll) (h7 : fl.length = N) (h8 : (List.range N).all (fun j => match fl[j]? with | some (kd, none) => zKd kd (ty j) | _ => false) = true) : zNewOk own idx ci fl := by
  refine ⟨C, T, N, ty, h1, h2, h3, h4, h5, h6, h7, fun j hj => ?_⟩
  have h9 := List.all_eq_true.mp h8 j (List.mem_range.mpr hj)
  cases hf : fl[j]? with
  | none => rw [hf] at h9; cases h9
  | some q =>
    obtain ⟨kd, y⟩ := q
    cases y with
    | some y => rw [hf] at h9; cases h9
    | none => rw [hf] at h9; exact ⟨kd, rfl, h9⟩
def zQl_0 : List (Nat × Cond) := [(101, Cond.methodLink RX8 1 Lib.objectInit), (188, Cond.methodLink RX0 3 Lib.objectInit), (131, Cond.methodLink RX1 3 Lib.objectInit), (165, Cond.methodLink RX2 3 Lib.objectInit), (326, Cond.methodLink RX3 3 Lib.objectInit), (234, Cond.methodLink RX4 3 Lib.objectInit), (182, Cond.methodLink RX5 3 Lib.objectInit), (109, Cond.methodLink RX6 3 Lib.objectInit), (287, Cond.methodLink RX7 3 Lib.objectInit), (1291, Cond.methodLink RX9 1 Lib.objectInit), (104, Cond.classLink RX8 7 "WeirLedger$Text"), (126, Cond.classLink RX8 16 "WeirLedger$Fund"), (160, Cond.classLink RX8 26 "WeirLedger$Journal"), (177, Cond.classLink RX8 33 "WeirLedger$State"), (321, Cond.classLink RX8 45 "WeirLedger$Orders"), (349, Cond.classLink RX8 52 "WeirLedger$Books"), (327, Cond.classLink RX3 9 "WeirLedger$Books"), (183, Cond.classLink RX5 9 "WeirLedger$Books"), (229, Cond.classLink RX5 18 "WeirLedger$Register"), (282, Cond.classLink RX5 29 "WeirLedger$Trace"), (1467, Cond.classLink RX9 254 "java/lang/String"), (184, Cond.instantiable RX0 8), (127, Cond.instantiable RX1 6), (161, Cond.instantiable RX2 2), (322, Cond.instantiable RX3 5), (230, Cond.instantiable RX4 11), (178, Cond.instantiable RX5 6), (105, Cond.instantiable RX6 4), (283, Cond.instantiable RX7 2)]
theorem zQr_0 (k : Nat) {n : Nat} {w : Cond} (h : zQl_0[k]? = some (n, w)) : w ∈ zAll := zPlOk (show (zQl_0.all fun q => decide (lw_tbl[q.1]? = some q.2) && goodWord q.2) = true by decide +kernel) h
theorem zob_X8_1 : Cond.methodLink RX8 1 Lib.objectInit ∈ zAll := zQr_0 0 rfl
theorem zob_X0_3 : Cond.methodLink RX0 3 Lib.objectInit ∈ zAll := zQr_0 1 rfl
theorem zob_X1_3 : Cond.methodLink RX1 3 Lib.objectInit ∈ zAll := zQr_0 2 rfl
theorem zob_X2_3 : Cond.methodLink RX2 3 Lib.objectInit ∈ zAll := zQr_0 3 rfl
theorem zob_X3_3 : Cond.methodLink RX3 3 Lib.objectInit ∈ zAll := zQr_0 4 rfl
theorem zob_X4_3 : Cond.methodLink RX4 3 Lib.objectInit ∈ zAll := zQr_0 5 rfl
theorem zob_X5_3 : Cond.methodLink RX5 3 Lib.objectInit ∈ zAll := zQr_0 6 rfl
theorem zob_X6_3 : Cond.methodLink RX6 3 Lib.objectInit ∈ zAll := zQr_0 7 rfl
theorem zob_X7_3 : Cond.methodLink RX7 3 Lib.objectInit ∈ zAll := zQr_0 8 rfl
theorem zob_X9_1 : Cond.methodLink RX9 1 Lib.objectInit ∈ zAll := zQr_0 9 rfl
theorem zcl_X8_7 : Cond.classLink RX8 7 "WeirLedger$Text" ∈ zAll := zQr_0 10 rfl
theorem zcl_X8_16 : Cond.classLink RX8 16 "WeirLedger$Fund" ∈ zAll := zQr_0 11 rfl
theorem zcl_X8_26 : Cond.classLink RX8 26 "WeirLedger$Journal" ∈ zAll := zQr_0 12 rfl
theorem zcl_X8_33 : Cond.classLink RX8 33 "WeirLedger$State" ∈ zAll := zQr_0 13 rfl
theorem zcl_X8_45 : Cond.classLink RX8 45 "WeirLedger$Orders" ∈ zAll := zQr_0 14 rfl
theorem zcl_X8_52 : Cond.classLink RX8 52 "WeirLedger$Books" ∈ zAll := zQr_0 15 rfl
theorem zcl_X3_9 : Cond.classLink RX3 9 "WeirLedger$Books" ∈ zAll := zQr_0 16 rfl
theorem zcl_X5_9 : Cond.classLink RX5 9 "WeirLedger$Books" ∈ zAll := zQr_0 17 rfl
theorem zcl_X5_18 : Cond.classLink RX5 18 "WeirLedger$Register" ∈ zAll := zQr_0 18 rfl
theorem zcl_X5_29 : Cond.classLink RX5 29 "WeirLedger$Trace" ∈ zAll := zQr_0 19 rfl
theorem zcl_X9_254 : Cond.classLink RX9 254 "java/lang/String" ∈ zAll := zQr_0 20 rfl
theorem zis_X0 : Cond.instantiable RX0 8 ∈ zAll := zQr_0 21 rfl
theorem zis_X1 : Cond.instantiable RX1 6 ∈ zAll := zQr_0 22 rfl
theorem zis_X2 : Cond.instantiable RX2 2 ∈ zAll := zQr_0 23 rfl
theorem zis_X3 : Cond.instantiable RX3 5 ∈ zAll := zQr_0 24 rfl
theorem zis_X4 : Cond.instantiable RX4 11 ∈ zAll := zQr_0 25 rfl
theorem zis_X5 : Cond.instantiable RX5 6 ∈ zAll := zQr_0 26 rfl
theorem zis_X6 : Cond.instantiable RX6 4 ∈ zAll := zQr_0 27 rfl
theorem zis_X7 : Cond.instantiable RX7 2 ∈ zAll := zQr_0 28 rfl
theorem zno_X8_7 : zNewOk RX8 7 6 [(2, none), (0, none), (0, none), (0, none)] := zNewOk.mk (ty := tyX6) rfl zinX6 tyX6_ok zcl_X8_7 zis_X6 zn_X6 rfl (by decide +kernel)
theorem zno_X8_16 : zNewOk RX8 16 1 [(2, none), (2, none), (2, none), (0, none), (0, none), (3, none)] := zNewOk.mk (ty := tyX1) rfl zinX1 tyX1_ok zcl_X8_16 zis_X1 zn_X1 rfl (by decide +kernel)
theorem zno_X8_26 : zNewOk RX8 26 2 [(2, none), (0, none)] := zNewOk.mk (ty := tyX2) rfl zinX2 tyX2_ok zcl_X8_26 zis_X2 zn_X2 rfl (by decide +kernel)
theorem zno_X8_33 : zNewOk RX8 33 5 [(2, none), (2, none), (3, none), (2, none), (1, none), (1, none)] := zNewOk.mk (ty := tyX5) rfl zinX5 tyX5_ok zcl_X8_33 zis_X5 zn_X5 rfl (by decide +kernel)
theorem zno_X8_45 : zNewOk RX8 45 3 [(2, none), (2, none), (2, none), (0, none), (1, none)] := zNewOk.mk (ty := tyX3) rfl zinX3 tyX3_ok zcl_X8_45 zis_X3 zn_X3 rfl (by decide +kernel)
theorem zno_X8_52 : zNewOk RX8 52 0 [(2, none), (2, none), (2, none), (2, none), (2, none), (0, none), (0, none), (3, none)] := zNewOk.mk (ty := tyX0) rfl zinX0 tyX0_ok zcl_X8_52 zis_X0 zn_X0 rfl (by decide +kernel)
theorem zno_X3_9 : zNewOk RX3 9 0 [(2, none), (2, none), (2, none), (2, none), (2, none), (0, none), (0, none), (3, none)] := zNewOk.mk (ty := tyX0) rfl zinX0 tyX0_ok zcl_X3_9 zis_X0 zn_X0 rfl (by decide +kernel)
theorem zno_X5_9 : zNewOk RX5 9 0 [(2, none), (2, none), (2, none), (2, none), (2, none), (0, none), (0, none), (3, none)] := zNewOk.mk (ty := tyX0) rfl zinX0 tyX0_ok zcl_X5_9 zis_X0 zn_X0 rfl (by decide +kernel)
theorem zno_X5_18 : zNewOk RX5 18 4 [(2, none), (2, none), (2, none), (2, none), (2, none), (2, none), (2, none), (2, none), (0, none), (0, none), (1, none)] := zNewOk.mk (ty := tyX4) rfl zinX4 tyX4_ok zcl_X5_18 zis_X4 zn_X4 rfl (by decide +kernel)
theorem zno_X5_29 : zNewOk RX5 29 7 [(2, none), (2, none)] := zNewOk.mk (ty := tyX7) rfl zinX7 tyX7_ok zcl_X5_29 zis_X7 zn_X7 rfl (by decide +kernel)
theorem znl_X8_9 : Cond.methodLinkNest RX8 9 yX6_init "WeirLedger" ∈ zOther := List.mem_filter.mpr ⟨List.mem_of_getElem? (i := 106) (by decide +kernel), rfl⟩
theorem znl_X8_18 : Cond.methodLinkNest RX8 18 yX1_init "WeirLedger" ∈ zOther := List.mem_filter.mpr ⟨List.mem_of_getElem? (i := 128) (by decide +kernel), rfl⟩
theorem znl_X8_28 : Cond.methodLinkNest RX8 28 yX2_init "WeirLedger" ∈ zOther := List.mem_filter.mpr ⟨List.mem_of_getElem? (i := 162) (by decide +kernel), rfl⟩
theorem znl_X8_54 : Cond.methodLinkNest RX8 54 yX0_init "WeirLedger" ∈ zOther := List.mem_filter.mpr ⟨List.mem_of_getElem? (i := 350) (by decide +kernel), rfl⟩
theorem znl_X3_24 : Cond.methodLinkNest RX3 24 yX0_init "WeirLedger" ∈ zOther := List.mem_filter.mpr ⟨List.mem_of_getElem? (i := 329) (by decide +kernel), rfl⟩
theorem znl_X5_11 : Cond.methodLinkNest RX5 11 yX0_init "WeirLedger" ∈ zOther := List.mem_filter.mpr ⟨List.mem_of_getElem? (i := 185) (by decide +kernel), rfl⟩
theorem znl_X5_20 : Cond.methodLinkNest RX5 20 yX4_init "WeirLedger" ∈ zOther := List.mem_filter.mpr ⟨List.mem_of_getElem? (i := 231) (by decide +kernel), rfl⟩
