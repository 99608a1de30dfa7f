def S_State : List ZSh := [.inl (5, [(2, some 1), (2, some 7), (3, none), (2, some 16), (1, none), (1, none)]), .inl (0, [(2, some 2), (2, some 3), (2, some 4), (2, some 5), (2, some 6), (0, none), (0, none), (3, none)]), .inr (0, 7, []), .inr (1, 32, []), .inr (0, 24, []), .inr (1, 4, []), .inr (1, 6, []), .inl (4, [(2, some 8), (2, some 9), (2, some 10), (2, some 11), (2, some 12), (2, some 13), (2, some 14), (2, some 15), (0, none), (0, none), (1, none)]), .inr (0, 6, []), .inr (0, 6, []), .inr (0, 6, []), .inr (1, 6, []), .inr (0, 6, []), .inr (1, 6, []), .inr (1, 6, []), .inr (1, 6, []), .inl (7, [(2, some 17), (2, some 18)]), .inr (1, 1407, []), .inr (1, 201, []), .inl (1, [(2, some 20), (2, some 21), (2, some 22), (0, none), (0, none), (3, none)]), .inr (0, 7, []), .inr (0, 6, []), .inr (0, 6, [])]
theorem S_State_wf : zWfS S_State.length S_State = true ∧ Nat.ble S_State.length 1000 = true := ⟨by decide +kernel, rfl⟩
theorem sb_12 : zSub S_State [1, 2, 3, 4, 5, 6, 19, 20, 21, 22] S_Books := ⟨rfl, by decide +kernel, by decide +kernel, rfl⟩
theorem sb_13 : zSub S_State [7, 8, 9, 10, 11, 12, 13, 14, 15, 19, 20, 21, 22] S_Register := ⟨rfl, by decide +kernel, by decide +kernel, rfl⟩
theorem sb_14 : zSub S_State [16, 17, 18] S_Trace := ⟨rfl, by decide +kernel, by decide +kernel, rfl⟩
/-! WeirLedger$State.open(LWeirLedger$Fund;)V -/
def cf_State_open : ZCf := (yX5_open, cX5_open, 2, none, [], 4, 0, 0, zft_X5, none)
theorem cal_State_open : zCallee cf_State_open 1 := ⟨rfl, zc_yX5_open, by decide, by decide, by decide +kernel⟩
def F_State_open (μ : ZMem) : Option ZRes := zCm [1, 2, 3, 4, 5, 6, 19, 20, 21, 22] μ (F_Books_open  (zVw [1, 2, 3, 4, 5, 6, 19, 20, 21, 22] μ)) (zkV (fun μ1 => zCm [7, 8, 9, 10, 11, 12, 13, 14, 15, 19, 20, 21, 22] μ1 (F_Register_open  (zVw [7, 8, 9, 10, 11, 12, 13, 14, 15, 19, 20, 21, 22] μ1)) (zkV (fun μ3 => zCm [16, 17, 18] μ3 (F_Trace_clear  (zVw [16, 17, 18] μ3)) (zkV (fun μ5 => some (.inr none, μ5))) zX0)) zX0)) zX0
set_option maxRecDepth 100000 in
theorem w_State_open (μ : ZMem) : AW cf_State_open S_State.length S_State S_State 0 [(0, zR (some 0)), (1, zR (some 19))] [] μ 0 0 (F_State_open μ) := by
  unfold F_State_open
  refine AW.aload_n (i := 0) (a := 0) (by decide +kernel) rfl (?_ : AW _ _ _ _ 1 _ _ _ _ _ _)
  refine AW.getR (idx := 12) (ci := 5) (k := 0) (r := 0) (by decide +kernel) rfl rfl rfl (?_ : AW _ _ _ _ 4 _ _ _ _ _ _)
  refine AW.aload_n (i := 1) (a := 19) (by decide +kernel) rfl (?_ : AW _ _ _ _ 5 _ _ _ _ _ _)
  refine AW.callVm (g := cf_Books_open) (Sg := S_Books) (pl := [1, 2, 3, 4, 5, 6, 19, 20, 21, 22]) (av := [zR (some 6)]) (b0 := 0) (ci := 0) (idx := 38) (n := 1) (st := []) (by decide +kernel) (fun l hl r hr => c_Books_open l hl  _ r hr) sb_12 rfl cal_Books_open rfl (zw4 zm_X5_38 zi_yX0_open zs_yX0_open zn_X0) rfl rfl ⟨by decide, by decide, by decide, by decide⟩ (Nat.le_of_ble_eq_true rfl) (Or.inl rfl) (fun v μ1 => AW.rV (?_ : AW _ _ _ _ 8 _ _ _ _ _ _) v)
  refine AW.aload_n (i := 0) (a := 0) (by decide +kernel) rfl (?_ : AW _ _ _ _ 9 _ _ _ _ _ _)
  refine AW.getR (idx := 21) (ci := 5) (k := 1) (r := 0) (by decide +kernel) rfl rfl rfl (?_ : AW _ _ _ _ 12 _ _ _ _ _ _)
  refine AW.aload_n (i := 1) (a := 19) (by decide +kernel) rfl (?_ : AW _ _ _ _ 13 _ _ _ _ _ _)
  refine AW.callVm (g := cf_Register_open) (Sg := S_Register) (pl := [7, 8, 9, 10, 11, 12, 13, 14, 15, 19, 20, 21, 22]) (av := [zR (some 9)]) (b0 := 0) (ci := 4) (idx := 42) (n := 1) (st := []) (by decide +kernel) (fun l hl r hr => c_Register_open l hl  _ r hr) sb_13 rfl cal_Register_open rfl (zw4 zm_X5_42 zi_yX4_open zs_yX4_open zn_X4) rfl rfl ⟨by decide, by decide, by decide, by decide⟩ (Nat.le_of_ble_eq_true rfl) (Or.inl rfl) (fun v μ3 => AW.rV (?_ : AW _ _ _ _ 16 _ _ _ _ _ _) v)
  refine AW.aload_n (i := 0) (a := 0) (by decide +kernel) rfl (?_ : AW _ _ _ _ 17 _ _ _ _ _ _)
  refine AW.getR (idx := 34) (ci := 5) (k := 3) (r := 0) (by decide +kernel) rfl rfl rfl (?_ : AW _ _ _ _ 20 _ _ _ _ _ _)
  refine AW.callVm (g := cf_Trace_clear) (Sg := S_Trace) (pl := [16, 17, 18]) (av := []) (b0 := 0) (ci := 7) (idx := 43) (n := 0) (st := []) (by decide +kernel) (fun l hl r hr => c_Trace_clear l hl  _ r hr) sb_14 rfl cal_Trace_clear rfl (zw4 zm_X5_43 zi_yX7_clear zs_yX7_clear zn_X7) rfl rfl ⟨by decide, by decide, by decide, by decide⟩ (Nat.le_of_ble_eq_true rfl) (Or.inl rfl) (fun v μ5 => AW.rV (?_ : AW _ _ _ _ 23 _ _ _ _ _ _) v)
  exact AW.retv (by decide +kernel) rfl (by decide) (by decide)
theorem c_State_open (l : Launch) (hl : l.stackTraces = false) (μ : ZMem) (r : ZRes) (h : F_State_open μ = some r) : ZC l cf_State_open S_State S_State [zR (some 0), zR (some 19)] μ r := ZC.of hl (by decide +kernel) rfl rfl zft_X5_ok (Nat.le_of_ble_eq_true rfl) h (w_State_open μ)
def S_State2 : List ZSh := [.inl (5, [(2, some 1), (2, some 7), (3, none), (2, some 16), (1, none), (1, none)]), .inl (0, [(2, some 2), (2, some 3), (2, some 4), (2, some 5), (2, some 6), (0, none), (0, none), (3, none)]), .inr (0, 7, []), .inr (1, 32, []), .inr (0, 24, []), .inr (1, 4, []), .inr (1, 6, []), .inl (4, [(2, some 8), (2, some 9), (2, some 10), (2, some 11), (2, some 12), (2, some 13), (2, some 14), (2, some 15), (0, none), (0, none), (1, none)]), .inr (0, 6, []), .inr (0, 6, []), .inr (0, 6, []), .inr (1, 6, []), .inr (0, 6, []), .inr (1, 6, []), .inr (1, 6, []), .inr (1, 6, []), .inl (7, [(2, some 17), (2, some 18)]), .inr (1, 1407, []), .inr (1, 201, [])]
theorem S_State2_wf : zWfS S_State2.length S_State2 = true ∧ Nat.ble S_State2.length 1000 = true := ⟨by decide +kernel, rfl⟩
theorem sb_15 : zSub S_State2 [1, 2, 3, 4, 5, 6] S_Books3 := ⟨rfl, by decide +kernel, by decide +kernel, rfl⟩
theorem sb_16 : zSub S_State2 [7, 8, 9, 10, 11, 12, 13, 14, 15] S_Register2 := ⟨rfl, by decide +kernel, by decide +kernel, rfl⟩
/-! WeirLedger$State.canBe(IIII)Z -/
def cf_State_canBe : ZCf := (yX5_canBe, cX5_canBe, 5, some .boolean, [], 4, 0, 0, zft_X5, none)
theorem cal_State_canBe : zCallee cf_State_canBe 4 := ⟨rfl, zc_yX5_canBe, by decide, by decide, by decide +kernel⟩
def F_State_canBe (a1 : Int) (a2 : Int) (a3 : Int) (a4 : Int) (μ : ZMem) : Option ZRes := if w32 (μ 7 8) = 0 then (some (.inr (some (zI 0)), μ)) else (if w32 (μ 1 7) = 0 then (if w32 a1 = 0 then (zCm [1, 2, 3, 4, 5, 6] μ (F_Books_isOpen a2 (zVw [1, 2, 3, 4, 5, 6] μ)) (zkI (fun x3 μ2 => if w32 x3 = 0 then (some (.inr (some (zI 0)), μ2)) else (zCm [7, 8, 9, 10, 11, 12, 13, 14, 15] μ2 (F_Register_callable a2 (zVw [7, 8, 9, 10, 11, 12, 13, 14, 15] μ2)) (zkJ (fun x5 μ4 => if w64 x5 < w64 (w32 a3) then (some (.inr (some (zI 0)), μ4)) else (some (.inr (some (zI 1)), μ4)))) zX0))) zX0) else (if w32 a1 = 1 then (zCm [1, 2, 3, 4, 5, 6] μ (F_Books_isOpen a2 (zVw [1, 2, 3, 4, 5, 6] μ)) (zkI (fun x8 μ7 => if x8 = 0 ∨ x8 = 1 then some (.inr (some (zI x8)), μ7) else none)) zX0) else (if w32 a1 = 2 then (zCm [1, 2, 3, 4, 5, 6] μ (F_Books_isOpen a2 (zVw [1, 2, 3, 4, 5, 6] μ)) (zkI (fun x11 μ10 => if x11 = 0 ∨ x11 = 1 then some (.inr (some (zI x11)), μ10) else none)) zX0) else (if w32 a1 = 3 then (some (.inr (some (zI 1)), μ)) else (if w32 a1 = 4 then (if w32 200 < w32 ((μ 1 6) + a3) then (some (.inr (some (zI 0)), μ)) else (some (.inr (some (zI 1)), μ))) else (if w32 a1 = 5 then (zCm [7, 8, 9, 10, 11, 12, 13, 14, 15] μ (F_Register_hasFailed a2 (zVw [7, 8, 9, 10, 11, 12, 13, 14, 15] μ)) (zkI (fun x16 μ15 => if w32 x16 = 0 then (some (.inr (some (zI 1)), μ15)) else (some (.inr (some (zI 0)), μ15)))) zX0) else (if w32 a1 = 6 then (zCm [1, 2, 3, 4, 5, 6] μ (F_Books_openDeals  (zVw [1, 2, 3, 4, 5, 6] μ)) (zkI (fun x19 μ18 => if w32 x19 = 0 then (some (.inr (some (zI 1)), μ18)) else (some (.inr (some (zI 0)), μ18)))) zX0) else (if w32 a1 = 7 then (zCm [7, 8, 9, 10, 11, 12, 13, 14, 15] μ (F_Register_canHandOver a2 a4 a3 (zVw [7, 8, 9, 10, 11, 12, 13, 14, 15] μ)) (zkI (fun x22 μ21 => if x22 = 0 ∨ x22 = 1 then some (.inr (some (zI x22)), μ21) else none)) zX0) else (some (.inr (some (zI 1)), μ)))))))))) else (some (.inr (some (zI 0)), μ)))
set_option maxRecDepth 100000 in
theorem w_State_canBe (a1 : Int) (a2 : Int) (a3 : Int) (a4 : Int) (μ : ZMem) : AW cf_State_canBe S_State2.length S_State2 S_State2 0 [(0, zR (some 0)), (1, zI a1), (2, zI a2), (3, zI a3), (4, zI a4)] [] μ 0 0 (F_State_canBe a1 a2 a3 a4 μ) := by
  unfold F_State_canBe
  refine AW.aload_n (i := 0) (a := 0) (by decide +kernel) rfl (?_ : AW _ _ _ _ 1 _ _ _ _ _ _)
  refine AW.getR (idx := 21) (ci := 5) (k := 1) (r := 0) (by decide +kernel) rfl rfl rfl (?_ : AW _ _ _ _ 4 _ _ _ _ _ _)
  refine AW.getI (idx := 46) (ci := 4) (k := 8) (r := 7) (by decide +kernel) rfl rfl rfl (?_ : AW _ _ _ _ 7 _ _ _ _ _ _)
  refine AW.if_eq (off := 13) (tgt := 20) (by decide +kernel) (by decide) (fun _ => ?_) (fun _ => ?_)
  · refine AW.iconst (n := 0) (by decide +kernel) (?_ : AW _ _ _ _ 21 _ _ _ _ _ _)
    exact AW.retb1 (by decide +kernel) rfl (by decide) (by decide) (by decide)
  · refine AW.aload_n (i := 0) (a := 0) (by decide +kernel) rfl (?_ : AW _ _ _ _ 11 _ _ _ _ _ _)
    refine AW.getR (idx := 12) (ci := 5) (k := 0) (r := 0) (by decide +kernel) rfl rfl rfl (?_ : AW _ _ _ _ 14 _ _ _ _ _ _)
    refine AW.getZ (idx := 50) (ci := 0) (k := 7) (r := 1) (by decide +kernel) rfl rfl rfl (?_ : AW _ _ _ _ 17 _ _ _ _ _ _)
    refine AW.if_eq (off := 5) (tgt := 22) (by decide +kernel) (by decide) (fun _ => ?_) (fun _ => ?_)
    · refine AW.iload_n (i := 1) (a := a1) (by decide +kernel) rfl (?_ : AW _ _ _ _ 23 _ _ _ _ _ _)
      refine AW.tswC (dflt := 151) (lo := 0) (hi := 7) (offs := #[45, 76, 76, 151, 85, 106, 135, 123]) (len := 45) (k := 0) (off := 45) (tgt := 68) (by decide +kernel) (by decide) (by decide) rfl (by decide) (fun _ => ?_) (fun h1 => ?_)
      · refine AW.aload_n (i := 0) (a := 0) (by decide +kernel) rfl (?_ : AW _ _ _ _ 69 _ _ _ _ _ _)
        refine AW.getR (idx := 12) (ci := 5) (k := 0) (r := 0) (by decide +kernel) rfl rfl rfl (?_ : AW _ _ _ _ 72 _ _ _ _ _ _)
        refine AW.iload_n (i := 2) (a := a2) (by decide +kernel) rfl (?_ : AW _ _ _ _ 73 _ _ _ _ _ _)
        refine AW.callVm (g := cf_Books_isOpen) (Sg := S_Books3) (pl := [1, 2, 3, 4, 5, 6]) (av := [zI a2]) (b0 := 0) (ci := 0) (idx := 53) (n := 1) (st := []) (by decide +kernel) (fun l hl r hr => c_Books_isOpen l hl a2 _ r hr) sb_15 rfl cal_Books_isOpen rfl (zw4 zm_X5_53 zi_yX0_isOpen zs_yX0_isOpen zn_X0) rfl rfl ⟨by decide, by decide, by decide, by decide⟩ (Nat.le_of_ble_eq_true rfl) (Or.inl rfl) (fun v μ2 => AW.rI (fun x3 => (?_ : AW _ _ _ _ 76 _ _ _ _ _ _)) v)
        refine AW.if_eq (off := 21) (tgt := 97) (by decide +kernel) (by decide) (fun _ => ?_) (fun _ => ?_)
        · refine AW.iconst (n := 0) (by decide +kernel) (?_ : AW _ _ _ _ 98 _ _ _ _ _ _)
          exact AW.retb1 (by decide +kernel) rfl (by decide) (by decide) (by decide)
        · refine AW.iload_n (i := 3) (a := a3) (by decide +kernel) rfl (?_ : AW _ _ _ _ 80 _ _ _ _ _ _)
          refine AW.i2l (by decide +kernel) (?_ : AW _ _ _ _ 81 _ _ _ _ _ _)
          refine AW.aload_n (i := 0) (a := 0) (by decide +kernel) rfl (?_ : AW _ _ _ _ 82 _ _ _ _ _ _)
          refine AW.getR (idx := 21) (ci := 5) (k := 1) (r := 0) (by decide +kernel) rfl rfl rfl (?_ : AW _ _ _ _ 85 _ _ _ _ _ _)
          refine AW.iload_n (i := 2) (a := a2) (by decide +kernel) rfl (?_ : AW _ _ _ _ 86 _ _ _ _ _ _)
          refine AW.callVm (g := cf_Register_callable) (Sg := S_Register2) (pl := [7, 8, 9, 10, 11, 12, 13, 14, 15]) (av := [zI a2]) (b0 := 0) (ci := 4) (idx := 57) (n := 1) (st := [zJ (w32 a3)]) (by decide +kernel) (fun l hl r hr => c_Register_callable l hl a2 _ r hr) sb_16 rfl cal_Register_callable rfl (zw4 zm_X5_57 zi_yX4_callable zs_yX4_callable zn_X4) rfl rfl ⟨by decide, by decide, by decide, by decide⟩ (Nat.le_of_ble_eq_true rfl) (Or.inl rfl) (fun v μ4 => AW.rJ (fun x5 => (?_ : AW _ _ _ _ 89 _ _ _ _ _ _)) v)
          refine AW.lcmp_gt (off := 7) (tgt := 97) (by decide +kernel) (by decide +kernel) (by decide) (fun _ => ?_) (fun _ => ?_)
          · refine AW.iconst (n := 0) (by decide +kernel) (?_ : AW _ _ _ _ 98 _ _ _ _ _ _)
            exact AW.retb1 (by decide +kernel) rfl (by decide) (by decide) (by decide)
          · refine AW.iconst (n := 1) (by decide +kernel) (?_ : AW _ _ _ _ 94 _ _ _ _ _ _)
            refine AW.goto (off := 4) (tgt := 98) (by decide +kernel) (by decide) ?_
            exact AW.retb1 (by decide +kernel) rfl (by decide) (by decide) (by decide)
      refine AW.tswC (dflt := 151) (lo := 0) (hi := 7) (offs := #[45, 76, 76, 151, 85, 106, 135, 123]) (len := 45) (k := 1) (off := 76) (tgt := 99) (by decide +kernel) (by decide) (by decide) rfl (by decide) (fun _ => ?_) (fun h6 => ?_)
      · refine AW.aload_n (i := 0) (a := 0) (by decide +kernel) rfl (?_ : AW _ _ _ _ 100 _ _ _ _ _ _)
        refine AW.getR (idx := 12) (ci := 5) (k := 0) (r := 0) (by decide +kernel) rfl rfl rfl (?_ : AW _ _ _ _ 103 _ _ _ _ _ _)
        refine AW.iload_n (i := 2) (a := a2) (by decide +kernel) rfl (?_ : AW _ _ _ _ 104 _ _ _ _ _ _)
        refine AW.callVm (g := cf_Books_isOpen) (Sg := S_Books3) (pl := [1, 2, 3, 4, 5, 6]) (av := [zI a2]) (b0 := 0) (ci := 0) (idx := 53) (n := 1) (st := []) (by decide +kernel) (fun l hl r hr => c_Books_isOpen l hl a2 _ r hr) sb_15 rfl cal_Books_isOpen rfl (zw4 zm_X5_53 zi_yX0_isOpen zs_yX0_isOpen zn_X0) rfl rfl ⟨by decide, by decide, by decide, by decide⟩ (Nat.le_of_ble_eq_true rfl) (Or.inl rfl) (fun v μ7 => AW.rI (fun x8 => (?_ : AW _ _ _ _ 107 _ _ _ _ _ _)) v)
        exact AW.retb (by decide +kernel) rfl (by decide) (by decide)
      refine AW.tswC (dflt := 151) (lo := 0) (hi := 7) (offs := #[45, 76, 76, 151, 85, 106, 135, 123]) (len := 45) (k := 2) (off := 76) (tgt := 99) (by decide +kernel) (by decide) (by decide) rfl (by decide) (fun _ => ?_) (fun h9 => ?_)
      · refine AW.aload_n (i := 0) (a := 0) (by decide +kernel) rfl (?_ : AW _ _ _ _ 100 _ _ _ _ _ _)
        refine AW.getR (idx := 12) (ci := 5) (k := 0) (r := 0) (by decide +kernel) rfl rfl rfl (?_ : AW _ _ _ _ 103 _ _ _ _ _ _)
        refine AW.iload_n (i := 2) (a := a2) (by decide +kernel) rfl (?_ : AW _ _ _ _ 104 _ _ _ _ _ _)
        refine AW.callVm (g := cf_Books_isOpen) (Sg := S_Books3) (pl := [1, 2, 3, 4, 5, 6]) (av := [zI a2]) (b0 := 0) (ci := 0) (idx := 53) (n := 1) (st := []) (by decide +kernel) (fun l hl r hr => c_Books_isOpen l hl a2 _ r hr) sb_15 rfl cal_Books_isOpen rfl (zw4 zm_X5_53 zi_yX0_isOpen zs_yX0_isOpen zn_X0) rfl rfl ⟨by decide, by decide, by decide, by decide⟩ (Nat.le_of_ble_eq_true rfl) (Or.inl rfl) (fun v μ10 => AW.rI (fun x11 => (?_ : AW _ _ _ _ 107 _ _ _ _ _ _)) v)
        exact AW.retb (by decide +kernel) rfl (by decide) (by decide)
      refine AW.tswC (dflt := 151) (lo := 0) (hi := 7) (offs := #[45, 76, 76, 151, 85, 106, 135, 123]) (len := 45) (k := 3) (off := 151) (tgt := 174) (by decide +kernel) (by decide) (by decide) rfl (by decide) (fun _ => ?_) (fun h12 => ?_)
      · refine AW.iconst (n := 1) (by decide +kernel) (?_ : AW _ _ _ _ 175 _ _ _ _ _ _)
        exact AW.retb1 (by decide +kernel) rfl (by decide) (by decide) (by decide)
      refine AW.tswC (dflt := 151) (lo := 0) (hi := 7) (offs := #[45, 76, 76, 151, 85, 106, 135, 123]) (len := 45) (k := 4) (off := 85) (tgt := 108) (by decide +kernel) (by decide) (by decide) rfl (by decide) (fun _ => ?_) (fun h13 => ?_)
      · refine AW.aload_n (i := 0) (a := 0) (by decide +kernel) rfl (?_ : AW _ _ _ _ 109 _ _ _ _ _ _)
        refine AW.getR (idx := 12) (ci := 5) (k := 0) (r := 0) (by decide +kernel) rfl rfl rfl (?_ : AW _ _ _ _ 112 _ _ _ _ _ _)
        refine AW.getI (idx := 61) (ci := 0) (k := 6) (r := 1) (by decide +kernel) rfl rfl rfl (?_ : AW _ _ _ _ 115 _ _ _ _ _ _)
        refine AW.iload_n (i := 3) (a := a3) (by decide +kernel) rfl (?_ : AW _ _ _ _ 116 _ _ _ _ _ _)
        refine AW.iadd (by decide +kernel) (?_ : AW _ _ _ _ 117 _ _ _ _ _ _)
        refine AW.sipush (n := 200) (by decide +kernel) (by decide +kernel) (?_ : AW _ _ _ _ 120 _ _ _ _ _ _)
        refine AW.icmp_gt (off := 7) (tgt := 127) (by decide +kernel) (by decide) (fun _ => ?_) (fun _ => ?_)
        · refine AW.iconst (n := 0) (by decide +kernel) (?_ : AW _ _ _ _ 128 _ _ _ _ _ _)
          exact AW.retb1 (by decide +kernel) rfl (by decide) (by decide) (by decide)
        · refine AW.iconst (n := 1) (by decide +kernel) (?_ : AW _ _ _ _ 124 _ _ _ _ _ _)
          refine AW.goto (off := 4) (tgt := 128) (by decide +kernel) (by decide) ?_
          exact AW.retb1 (by decide +kernel) rfl (by decide) (by decide) (by decide)
      refine AW.tswC (dflt := 151) (lo := 0) (hi := 7) (offs := #[45, 76, 76, 151, 85, 106, 135, 123]) (len := 45) (k := 5) (off := 106) (tgt := 129) (by decide +kernel) (by decide) (by decide) rfl (by decide) (fun _ => ?_) (fun h14 => ?_)
      · refine AW.aload_n (i := 0) (a := 0) (by decide +kernel) rfl (?_ : AW _ _ _ _ 130 _ _ _ _ _ _)
        refine AW.getR (idx := 21) (ci := 5) (k := 1) (r := 0) (by decide +kernel) rfl rfl rfl (?_ : AW _ _ _ _ 133 _ _ _ _ _ _)
        refine AW.iload_n (i := 2) (a := a2) (by decide +kernel) rfl (?_ : AW _ _ _ _ 134 _ _ _ _ _ _)
        refine AW.callVm (g := cf_Register_hasFailed) (Sg := S_Register2) (pl := [7, 8, 9, 10, 11, 12, 13, 14, 15]) (av := [zI a2]) (b0 := 0) (ci := 4) (idx := 64) (n := 1) (st := []) (by decide +kernel) (fun l hl r hr => c_Register_hasFailed l hl a2 _ r hr) sb_16 rfl cal_Register_hasFailed rfl (zw4 zm_X5_64 zi_yX4_hasFailed zs_yX4_hasFailed zn_X4) rfl rfl ⟨by decide, by decide, by decide, by decide⟩ (Nat.le_of_ble_eq_true rfl) (Or.inl rfl) (fun v μ15 => AW.rI (fun x16 => (?_ : AW _ _ _ _ 137 _ _ _ _ _ _)) v)
        refine AW.if_ne (off := 7) (tgt := 144) (by decide +kernel) (by decide) (fun _ => ?_) (fun _ => ?_)
        · refine AW.iconst (n := 1) (by decide +kernel) (?_ : AW _ _ _ _ 141 _ _ _ _ _ _)
          refine AW.goto (off := 4) (tgt := 145) (by decide +kernel) (by decide) ?_
          exact AW.retb1 (by decide +kernel) rfl (by decide) (by decide) (by decide)
        · refine AW.iconst (n := 0) (by decide +kernel) (?_ : AW _ _ _ _ 145 _ _ _ _ _ _)
          exact AW.retb1 (by decide +kernel) rfl (by decide) (by decide) (by decide)
      refine AW.tswC (dflt := 151) (lo := 0) (hi := 7) (offs := #[45, 76, 76, 151, 85, 106, 135, 123]) (len := 45) (k := 6) (off := 135) (tgt := 158) (by decide +kernel) (by decide) (by decide) rfl (by decide) (fun _ => ?_) (fun h17 => ?_)
      · refine AW.aload_n (i := 0) (a := 0) (by decide +kernel) rfl (?_ : AW _ _ _ _ 159 _ _ _ _ _ _)
        refine AW.getR (idx := 12) (ci := 5) (k := 0) (r := 0) (by decide +kernel) rfl rfl rfl (?_ : AW _ _ _ _ 162 _ _ _ _ _ _)
        refine AW.callVm (g := cf_Books_openDeals) (Sg := S_Books3) (pl := [1, 2, 3, 4, 5, 6]) (av := []) (b0 := 0) (ci := 0) (idx := 71) (n := 0) (st := []) (by decide +kernel) (fun l hl r hr => c_Books_openDeals l hl  _ r hr) sb_15 rfl cal_Books_openDeals rfl (zw4 zm_X5_71 zi_yX0_openDeals zs_yX0_openDeals zn_X0) rfl rfl ⟨by decide, by decide, by decide, by decide⟩ (Nat.le_of_ble_eq_true rfl) (Or.inl rfl) (fun v μ18 => AW.rI (fun x19 => (?_ : AW _ _ _ _ 165 _ _ _ _ _ _)) v)
        refine AW.if_ne (off := 7) (tgt := 172) (by decide +kernel) (by decide) (fun _ => ?_) (fun _ => ?_)
        · refine AW.iconst (n := 1) (by decide +kernel) (?_ : AW _ _ _ _ 169 _ _ _ _ _ _)
          refine AW.goto (off := 4) (tgt := 173) (by decide +kernel) (by decide) ?_
          exact AW.retb1 (by decide +kernel) rfl (by decide) (by decide) (by decide)
        · refine AW.iconst (n := 0) (by decide +kernel) (?_ : AW _ _ _ _ 173 _ _ _ _ _ _)
          exact AW.retb1 (by decide +kernel) rfl (by decide) (by decide) (by decide)
      refine AW.tswC (dflt := 151) (lo := 0) (hi := 7) (offs := #[45, 76, 76, 151, 85, 106, 135, 123]) (len := 45) (k := 7) (off := 123) (tgt := 146) (by decide +kernel) (by decide) (by decide) rfl (by decide) (fun _ => ?_) (fun h20 => ?_)
      · refine AW.aload_n (i := 0) (a := 0) (by decide +kernel) rfl (?_ : AW _ _ _ _ 147 _ _ _ _ _ _)
        refine AW.getR (idx := 21) (ci := 5) (k := 1) (r := 0) (by decide +kernel) rfl rfl rfl (?_ : AW _ _ _ _ 150 _ _ _ _ _ _)
        refine AW.iload_n (i := 2) (a := a2) (by decide +kernel) rfl (?_ : AW _ _ _ _ 151 _ _ _ _ _ _)
        refine AW.iload (i := 4) (a := a4) (by decide +kernel) rfl (?_ : AW _ _ _ _ 153 _ _ _ _ _ _)
        refine AW.iload_n (i := 3) (a := a3) (by decide +kernel) rfl (?_ : AW _ _ _ _ 154 _ _ _ _ _ _)
        refine AW.callVm (g := cf_Register_canHandOver) (Sg := S_Register2) (pl := [7, 8, 9, 10, 11, 12, 13, 14, 15]) (av := [zI a2, zI a4, zI a3]) (b0 := 0) (ci := 4) (idx := 67) (n := 3) (st := []) (by decide +kernel) (fun l hl r hr => c_Register_canHandOver l hl a2 a4 a3 _ r hr) sb_16 rfl cal_Register_canHandOver rfl (zw4 zm_X5_67 zi_yX4_canHandOver zs_yX4_canHandOver zn_X4) rfl rfl ⟨by decide, by decide, by decide, by decide⟩ (Nat.le_of_ble_eq_true rfl) (Or.inl rfl) (fun v μ21 => AW.rI (fun x22 => (?_ : AW _ _ _ _ 157 _ _ _ _ _ _)) v)
        exact AW.retb (by decide +kernel) rfl (by decide) (by decide)
      refine AW.tswD (dflt := 151) (lo := 0) (hi := 7) (offs := #[45, 76, 76, 151, 85, 106, 135, 123]) (len := 45) (tgt := 174) (by decide +kernel) (by omega) (by decide) ?_
      refine AW.iconst (n := 1) (by decide +kernel) (?_ : AW _ _ _ _ 175 _ _ _ _ _ _)
      exact AW.retb1 (by decide +kernel) rfl (by decide) (by decide) (by decide)
    · refine AW.iconst (n := 0) (by decide +kernel) (?_ : AW _ _ _ _ 21 _ _ _ _ _ _)
      exact AW.retb1 (by decide +kernel) rfl (by decide) (by decide) (by decide)
theorem c_State_canBe (l : Launch) (hl : l.stackTraces = false) (a1 : Int) (a2 : Int) (a3 : Int) (a4 : Int) (μ : ZMem) (r : ZRes) (h : F_State_canBe a1 a2 a3 a4 μ = some r) : ZC l cf_State_canBe S_State2 S_State2 [zR (some 0), zI a1, zI a2, zI a3, zI a4] μ r := ZC.of hl (by decide +kernel) rfl rfl zft_X5_ok (Nat.le_of_ble_eq_true rfl) h (w_State_canBe a1 a2 a3 a4 μ)
theorem sb_17 : zSub S_State2 [16, 17, 18] S_Trace := ⟨rfl, by decide +kernel, by decide +kernel, rfl⟩
/-! WeirLedger$State.takeIn(J)V -/
def cf_State_takeIn : ZCf := (yX5_takeIn, cX5_takeIn, 5, none, [], 3, 0, 0, zft_X5, none)
theorem cal_State_takeIn : zCallee cf_State_takeIn 1 := ⟨rfl, zc_yX5_takeIn, by decide, by decide, by decide +kernel⟩
def J_State_takeIn_87 (R : Int → ZMem → Option ZRes) (K : ZMem → Option ZRes) (u3 : Int) (μ : ZMem) : Option ZRes := zLet (u3 + 1) (fun x8 => R x8 μ)
set_option maxRecDepth 100000 in
theorem j_State_takeIn_87 {R : Int → ZMem → Option ZRes} {K : ZMem → Option ZRes} (hR : ∀ (v3 : Int) (μ : ZMem), AW cf_State_takeIn S_State2.length S_State2 S_State2 10 [(0, zR (some 0)), (3, zI v3)] [] μ 0 0 (R v3 μ)) (hK : ∀ (μ : ZMem), AW cf_State_takeIn S_State2.length S_State2 S_State2 93 [] [] μ 0 0 (K μ)) (u3 : Int) (μ : ZMem) : AW cf_State_takeIn S_State2.length S_State2 S_State2 87 [(0, zR (some 0)), (3, zI u3)] [] μ 0 0 (J_State_takeIn_87 R K u3 μ) := by
  unfold J_State_takeIn_87
  refine AW.iincL (i := 3) (n := 1) (a := u3) (L' := fun x8 => [(3, zI x8), (0, zR (some 0))]) (by decide +kernel) rfl (by decide) (fun _ => rfl) (fun x8 => (?_ : AW _ _ _ _ 90 _ _ _ _ _ _))
  refine AW.goto (off := -80) (tgt := 10) (by decide +kernel) (by decide) ?_
  refine AW.sub (L' := [(0, zR (some 0)), (3, zI x8)]) [1, 0] rfl ?_
  exact hR x8 μ
def L_State_takeIn_10 (K : ZMem → Option ZRes) : Nat → Int → ZMem → Option ZRes
  | 0, _, _ => none
  | n + 1, v3, μ => if w32 (μ 7 8) ≤ w32 v3 then (K  μ) else (zRd μ 14 6 v3 (fun x3 => zRd μ 9 6 v3 (fun x4 => zWr μ 9 6 v3 (x4 - x3) (fun μ5 => zRd μ5 10 6 v3 (fun x6 => zWr μ5 10 6 v3 (x6 + x3) (fun μ7 => if w32 (μ7 0 2) = 0 then (J_State_takeIn_87 (fun v3 μ => L_State_takeIn_10 K n v3 μ) K v3 μ7) else (zCm [16, 17, 18] μ7 (F_Trace_add v3 (μ7 1 6) (w32 (-x3)) (zVw [16, 17, 18] μ7)) (zkV (fun μ9 => J_State_takeIn_87 (fun v3 μ => L_State_takeIn_10 K n v3 μ) K v3 μ9)) zX0)))))))
set_option maxRecDepth 100000 in
theorem l_State_takeIn_10 {K : ZMem → Option ZRes} (hK : ∀ (μ : ZMem), AW cf_State_takeIn S_State2.length S_State2 S_State2 93 [] [] μ 0 0 (K μ)) : ∀ (n : Nat) (v3 : Int) (μ : ZMem), AW cf_State_takeIn S_State2.length S_State2 S_State2 10 [(0, zR (some 0)), (3, zI v3)] [] μ 0 0 (L_State_takeIn_10 K n v3 μ) := by
  intro n
  induction n with
  | zero => intro v3 μ; exact AW.noth
  | succ n ih =>
    intro v3 μ
    rw [L_State_takeIn_10]
    refine AW.iload_n (i := 3) (a := v3) (by decide +kernel) rfl (?_ : AW _ _ _ _ 11 _ _ _ _ _ _)
    refine AW.aload_n (i := 0) (a := 0) (by decide +kernel) rfl (?_ : AW _ _ _ _ 12 _ _ _ _ _ _)
    refine AW.getR (idx := 21) (ci := 5) (k := 1) (r := 0) (by decide +kernel) rfl rfl rfl (?_ : AW _ _ _ _ 15 _ _ _ _ _ _)
    refine AW.getI (idx := 46) (ci := 4) (k := 8) (r := 7) (by decide +kernel) rfl rfl rfl (?_ : AW _ _ _ _ 18 _ _ _ _ _ _)
    refine AW.icmp_ge (off := 75) (tgt := 93) (by decide +kernel) (by decide) (fun _ => ?_) (fun _ => ?_)
    · refine AW.sub (L' := []) [] rfl ?_
      exact hK  μ
    · refine AW.aload_n (i := 0) (a := 0) (by decide +kernel) rfl (?_ : AW _ _ _ _ 22 _ _ _ _ _ _)
      refine AW.getR (idx := 21) (ci := 5) (k := 1) (r := 0) (by decide +kernel) rfl rfl rfl (?_ : AW _ _ _ _ 25 _ _ _ _ _ _)
      refine AW.getR (idx := 171) (ci := 4) (k := 6) (r := 7) (by decide +kernel) rfl rfl rfl (?_ : AW _ _ _ _ 28 _ _ _ _ _ _)
      refine AW.iload_n (i := 3) (a := v3) (by decide +kernel) rfl (?_ : AW _ _ _ _ 29 _ _ _ _ _ _)
      refine AW.lald (r := 14) (by decide +kernel) rfl (fun x3 => (?_ : AW _ _ _ _ 30 _ _ _ _ _ _))
      refine AW.l2i (by decide +kernel) (?_ : AW _ _ _ _ 31 _ _ _ _ _ _)
      refine AW.istore' (i := 4) (L' := [(4, zI x3), (0, zR (some 0)), (3, zI v3)]) (by decide +kernel) (by decide) rfl (?_ : AW _ _ _ _ 33 _ _ _ _ _ _)
      refine AW.aload_n (i := 0) (a := 0) (by decide +kernel) rfl (?_ : AW _ _ _ _ 34 _ _ _ _ _ _)
      refine AW.getR (idx := 21) (ci := 5) (k := 1) (r := 0) (by decide +kernel) rfl rfl rfl (?_ : AW _ _ _ _ 37 _ _ _ _ _ _)
      refine AW.getR (idx := 94) (ci := 4) (k := 1) (r := 7) (by decide +kernel) rfl rfl rfl (?_ : AW _ _ _ _ 40 _ _ _ _ _ _)
      refine AW.iload_n (i := 3) (a := v3) (by decide +kernel) rfl (?_ : AW _ _ _ _ 41 _ _ _ _ _ _)
      refine AW.dup2 (by decide +kernel) rfl rfl (?_ : AW _ _ _ _ 42 _ _ _ _ _ _)
      refine AW.iald (r := 9) (by decide +kernel) rfl (fun x4 => (?_ : AW _ _ _ _ 43 _ _ _ _ _ _))
      refine AW.iload (i := 4) (a := x3) (by decide +kernel) rfl (?_ : AW _ _ _ _ 45 _ _ _ _ _ _)
      refine AW.isub (by decide +kernel) (?_ : AW _ _ _ _ 46 _ _ _ _ _ _)
      refine AW.iastL (r := 9) (by decide +kernel) rfl (fun μ5 => (?_ : AW _ _ _ _ 47 _ _ _ _ _ _))
      refine AW.aload_n (i := 0) (a := 0) (by decide +kernel) rfl (?_ : AW _ _ _ _ 48 _ _ _ _ _ _)
      refine AW.getR (idx := 21) (ci := 5) (k := 1) (r := 0) (by decide +kernel) rfl rfl rfl (?_ : AW _ _ _ _ 51 _ _ _ _ _ _)
      refine AW.getR (idx := 174) (ci := 4) (k := 2) (r := 7) (by decide +kernel) rfl rfl rfl (?_ : AW _ _ _ _ 54 _ _ _ _ _ _)
      refine AW.iload_n (i := 3) (a := v3) (by decide +kernel) rfl (?_ : AW _ _ _ _ 55 _ _ _ _ _ _)
      refine AW.dup2 (by decide +kernel) rfl rfl (?_ : AW _ _ _ _ 56 _ _ _ _ _ _)
      refine AW.iald (r := 10) (by decide +kernel) rfl (fun x6 => (?_ : AW _ _ _ _ 57 _ _ _ _ _ _))
      refine AW.iload (i := 4) (a := x3) (by decide +kernel) rfl (?_ : AW _ _ _ _ 59 _ _ _ _ _ _)
      refine AW.iadd (by decide +kernel) (?_ : AW _ _ _ _ 60 _ _ _ _ _ _)
      refine AW.iastL (r := 10) (by decide +kernel) rfl (fun μ7 => (?_ : AW _ _ _ _ 61 _ _ _ _ _ _))
      refine AW.aload_n (i := 0) (a := 0) (by decide +kernel) rfl (?_ : AW _ _ _ _ 62 _ _ _ _ _ _)
      refine AW.getZ (idx := 25) (ci := 5) (k := 2) (r := 0) (by decide +kernel) rfl rfl rfl (?_ : AW _ _ _ _ 65 _ _ _ _ _ _)
      refine AW.if_eq (off := 22) (tgt := 87) (by decide +kernel) (by decide) (fun _ => ?_) (fun _ => ?_)
      · refine AW.sub (L' := [(0, zR (some 0)), (3, zI v3)]) [1, 2] rfl ?_
        exact j_State_takeIn_87 ih hK v3 μ7
      · refine AW.aload_n (i := 0) (a := 0) (by decide +kernel) rfl (?_ : AW _ _ _ _ 69 _ _ _ _ _ _)
        refine AW.getR (idx := 34) (ci := 5) (k := 3) (r := 0) (by decide +kernel) rfl rfl rfl (?_ : AW _ _ _ _ 72 _ _ _ _ _ _)
        refine AW.iload_n (i := 3) (a := v3) (by decide +kernel) rfl (?_ : AW _ _ _ _ 73 _ _ _ _ _ _)
        refine AW.aload_n (i := 0) (a := 0) (by decide +kernel) rfl (?_ : AW _ _ _ _ 74 _ _ _ _ _ _)
        refine AW.getR (idx := 12) (ci := 5) (k := 0) (r := 0) (by decide +kernel) rfl rfl rfl (?_ : AW _ _ _ _ 77 _ _ _ _ _ _)
        refine AW.getI (idx := 61) (ci := 0) (k := 6) (r := 1) (by decide +kernel) rfl rfl rfl (?_ : AW _ _ _ _ 80 _ _ _ _ _ _)
        refine AW.iload (i := 4) (a := x3) (by decide +kernel) rfl (?_ : AW _ _ _ _ 82 _ _ _ _ _ _)
        refine AW.ineg (by decide +kernel) (?_ : AW _ _ _ _ 83 _ _ _ _ _ _)
        refine AW.i2l (by decide +kernel) (?_ : AW _ _ _ _ 84 _ _ _ _ _ _)
        refine AW.callVm (g := cf_Trace_add) (Sg := S_Trace) (pl := [16, 17, 18]) (av := [zI v3, zI (μ7 1 6), zJ (w32 (-x3))]) (b0 := 0) (ci := 7) (idx := 177) (n := 3) (st := []) (by decide +kernel) (fun l hl r hr => c_Trace_add l hl v3 (μ7 1 6) (w32 (-x3)) _ r hr) sb_17 rfl cal_Trace_add rfl (zw4 zm_X5_177 zi_yX7_add zs_yX7_add zn_X7) rfl rfl ⟨by decide, by decide, by decide, by decide⟩ (Nat.le_of_ble_eq_true rfl) (Or.inl rfl) (fun v μ9 => AW.rV (?_ : AW _ _ _ _ 87 _ _ _ _ _ _) v)
        refine AW.sub (L' := [(0, zR (some 0)), (3, zI v3)]) [1, 2] rfl ?_
        exact j_State_takeIn_87 ih hK v3 μ9
def F_State_takeIn (a1 : Int) (μ : ZMem) : Option ZRes := zCm [7, 8, 9, 10, 11, 12, 13, 14, 15] μ (F_Register_split a1 (zVw [7, 8, 9, 10, 11, 12, 13, 14, 15] μ)) (zkV (fun μ1 => L_State_takeIn_10 (fun μ11 => some (.inr none, μ11)) zN 0 μ1)) zX0
set_option maxRecDepth 100000 in
theorem w_State_takeIn (a1 : Int) (μ : ZMem) : AW cf_State_takeIn S_State2.length S_State2 S_State2 0 [(0, zR (some 0)), (1, zJ a1)] [] μ 0 0 (F_State_takeIn a1 μ) := by
  unfold F_State_takeIn
  refine AW.aload_n (i := 0) (a := 0) (by decide +kernel) rfl (?_ : AW _ _ _ _ 1 _ _ _ _ _ _)
  refine AW.getR (idx := 21) (ci := 5) (k := 1) (r := 0) (by decide +kernel) rfl rfl rfl (?_ : AW _ _ _ _ 4 _ _ _ _ _ _)
  refine AW.lload_n (i := 1) (a := a1) (by decide +kernel) rfl (?_ : AW _ _ _ _ 5 _ _ _ _ _ _)
  refine AW.callVm (g := cf_Register_split) (Sg := S_Register2) (pl := [7, 8, 9, 10, 11, 12, 13, 14, 15]) (av := [zJ a1]) (b0 := 0) (ci := 4) (idx := 168) (n := 1) (st := []) (by decide +kernel) (fun l hl r hr => c_Register_split l hl a1 _ r hr) sb_16 rfl cal_Register_split rfl (zw4 zm_X5_168 zi_yX4_split zs_yX4_split zn_X4) rfl rfl ⟨by decide, by decide, by decide, by decide⟩ (Nat.le_of_ble_eq_true rfl) (Or.inl rfl) (fun v μ1 => AW.rV (?_ : AW _ _ _ _ 8 _ _ _ _ _ _) v)
  refine AW.iconst (n := 0) (by decide +kernel) (?_ : AW _ _ _ _ 9 _ _ _ _ _ _)
  refine AW.istore_n' (i := 3) (L' := [(3, zI 0), (0, zR (some 0)), (1, zJ a1)]) (by decide +kernel) (by decide) rfl (?_ : AW _ _ _ _ 10 _ _ _ _ _ _)
  refine AW.sub (L' := [(0, zR (some 0)), (3, zI 0)]) [1, 0] rfl ?_
  refine l_State_takeIn_10 (fun μ11 => ?_) zN _ _
  exact AW.retv (by decide +kernel) rfl (by decide) (by decide)
theorem c_State_takeIn (l : Launch) (hl : l.stackTraces = false) (a1 : Int) (μ : ZMem) (r : ZRes) (h : F_State_takeIn a1 μ = some r) : ZC l cf_State_takeIn S_State2 S_State2 [zR (some 0), zJ a1] μ r := ZC.of hl (by decide +kernel) rfl rfl zft_X5_ok (Nat.le_of_ble_eq_true rfl) h (w_State_takeIn a1 μ)
/-! WeirLedger$Register.allOf([I)J -/
def cf_Register_allOf_2 : ZCf := (yX4_allOf, cX4_allOf, 5, some .long, [], 2, 0, 0, zft_X4, none)
theorem cal_Register_allOf_2 : zCallee cf_Register_allOf_2 1 := ⟨rfl, zc_yX4_allOf, by decide, by decide, by decide +kernel⟩
def L_Register_allOf_2_5 (μ : ZMem) (K : Int → Option ZRes) : Nat → Int → Int → Option ZRes
  | 0, _, _ => none
  | n + 1, v2, v4 => if w32 (μ 0 8) ≤ w32 v4 then (K v2) else (zRd μ 2 6 v4 (fun x1 => zLet ((v2 + (w32 x1))) (fun x2 => zLet (v4 + 1) (fun x3 => L_Register_allOf_2_5 μ K n x2 x3))))
set_option maxRecDepth 100000 in
theorem l_Register_allOf_2_5 {μ : ZMem} {K : Int → Option ZRes} (hK : ∀ (k2 : Int), AW cf_Register_allOf_2 S_Register2.length S_Register2 S_Register2 28 [(2, zJ k2)] [] μ 0 0 (K k2)) : ∀ (n : Nat) (v2 : Int) (v4 : Int), AW cf_Register_allOf_2 S_Register2.length S_Register2 S_Register2 5 [(0, zR (some 0)), (1, zR (some 2)), (2, zJ v2), (4, zI v4)] [] μ 0 0 (L_Register_allOf_2_5 μ K n v2 v4) := by
  intro n
  induction n with
  | zero => intro v2 v4; exact AW.noth
  | succ n ih =>
    intro v2 v4
    rw [L_Register_allOf_2_5]
    refine AW.iload (i := 4) (a := v4) (by decide +kernel) rfl (?_ : AW _ _ _ _ 7 _ _ _ _ _ _)
    refine AW.aload_n (i := 0) (a := 0) (by decide +kernel) rfl (?_ : AW _ _ _ _ 8 _ _ _ _ _ _)
    refine AW.getI (idx := 60) (ci := 4) (k := 8) (r := 0) (by decide +kernel) rfl rfl rfl (?_ : AW _ _ _ _ 11 _ _ _ _ _ _)
    refine AW.icmp_ge (off := 17) (tgt := 28) (by decide +kernel) (by decide) (fun _ => ?_) (fun _ => ?_)
    · refine AW.sub (L' := [(2, zJ v2)]) [2] rfl ?_
      exact hK v2
    · refine AW.lload_n (i := 2) (a := v2) (by decide +kernel) rfl (?_ : AW _ _ _ _ 15 _ _ _ _ _ _)
      refine AW.aload_n (i := 1) (a := 2) (by decide +kernel) rfl (?_ : AW _ _ _ _ 16 _ _ _ _ _ _)
      refine AW.iload (i := 4) (a := v4) (by decide +kernel) rfl (?_ : AW _ _ _ _ 18 _ _ _ _ _ _)
      refine AW.iald (r := 2) (by decide +kernel) rfl (fun x1 => (?_ : AW _ _ _ _ 19 _ _ _ _ _ _))
      refine AW.i2l (by decide +kernel) (?_ : AW _ _ _ _ 20 _ _ _ _ _ _)
      refine AW.ladd (by decide +kernel) (?_ : AW _ _ _ _ 21 _ _ _ _ _ _)
      refine AW.lstoreL_n (i := 2) (L' := fun x2 => [(2, zJ x2), (0, zR (some 0)), (1, zR (some 2)), (4, zI v4)]) (by decide +kernel) (by decide) (fun _ => rfl) (fun x2 => (?_ : AW _ _ _ _ 22 _ _ _ _ _ _))
      refine AW.iincL (i := 4) (n := 1) (a := v4) (L' := fun x3 => [(4, zI x3), (2, zJ x2), (0, zR (some 0)), (1, zR (some 2))]) (by decide +kernel) rfl (by decide) (fun _ => rfl) (fun x3 => (?_ : AW _ _ _ _ 25 _ _ _ _ _ _))
      refine AW.goto (off := -20) (tgt := 5) (by decide +kernel) (by decide) ?_
      refine AW.sub (L' := [(0, zR (some 0)), (1, zR (some 2)), (2, zJ x2), (4, zI x3)]) [2, 3, 1, 0] rfl ?_
      exact ih x2 x3
def F_Register_allOf_2 (μ : ZMem) : Option ZRes := L_Register_allOf_2_5 μ (fun k4 => some (.inr (some (zJ k4)), μ)) zN 0 0
set_option maxRecDepth 100000 in
theorem w_Register_allOf_2 (μ : ZMem) : AW cf_Register_allOf_2 S_Register2.length S_Register2 S_Register2 0 [(0, zR (some 0)), (1, zR (some 2))] [] μ 0 0 (F_Register_allOf_2 μ) := by
  unfold F_Register_allOf_2
  refine AW.lconst0 (by decide +kernel) (?_ : AW _ _ _ _ 1 _ _ _ _ _ _)
  refine AW.lstore_n' (i := 2) (L' := [(2, zJ 0), (0, zR (some 0)), (1, zR (some 2))]) (by decide +kernel) (by decide) rfl (?_ : AW _ _ _ _ 2 _ _ _ _ _ _)
  refine AW.iconst (n := 0) (by decide +kernel) (?_ : AW _ _ _ _ 3 _ _ _ _ _ _)
  refine AW.istore' (i := 4) (L' := [(4, zI 0), (2, zJ 0), (0, zR (some 0)), (1, zR (some 2))]) (by decide +kernel) (by decide) rfl (?_ : AW _ _ _ _ 5 _ _ _ _ _ _)
  refine AW.sub (L' := [(0, zR (some 0)), (1, zR (some 2)), (2, zJ 0), (4, zI 0)]) [2, 3, 1, 0] rfl ?_
  refine l_Register_allOf_2_5 (fun k4 => ?_) zN _ _
  refine AW.lload_n (i := 2) (a := k4) (by decide +kernel) rfl (?_ : AW _ _ _ _ 29 _ _ _ _ _ _)
  exact AW.retl (by decide +kernel) rfl (by decide) (by decide)
theorem c_Register_allOf_2 (l : Launch) (hl : l.stackTraces = false) (μ : ZMem) (r : ZRes) (h : F_Register_allOf_2 μ = some r) : ZC l cf_Register_allOf_2 S_Register2 S_Register2 [zR (some 0), zR (some 2)] μ r := ZC.of hl (by decide +kernel) rfl rfl zft_X4_ok (Nat.le_of_ble_eq_true rfl) h (w_Register_allOf_2 μ)
/-! WeirLedger$State.handOut(I)V -/
def cf_State_handOut : ZCf := (yX5_handOut, cX5_handOut, 3, none, [], 4, 0, 0, zft_X5, none)
theorem cal_State_handOut : zCallee cf_State_handOut 1 := ⟨rfl, zc_yX5_handOut, by decide, by decide, by decide +kernel⟩
def L_State_handOut_54 (K : ZMem → Option ZRes) : Nat → Int → ZMem → Option ZRes
  | 0, _, _ => none
  | n + 1, v2, μ => if w32 (μ 7 8) ≤ w32 v2 then (K  μ) else (zRd μ 11 6 v2 (fun x6 => zRd μ 14 6 v2 (fun x7 => zWr μ 11 6 v2 (x6 + x7) (fun μ8 => zRd μ8 14 6 v2 (fun x9 => zCm [16, 17, 18] μ8 (F_Trace_add v2 (μ8 1 6) x9 (zVw [16, 17, 18] μ8)) (zkV (fun μ10 => zLet (v2 + 1) (fun x12 => L_State_handOut_54 K n x12 μ10))) zX0)))))
set_option maxRecDepth 100000 in
theorem l_State_handOut_54 {K : ZMem → Option ZRes} (hK : ∀ (μ : ZMem), AW cf_State_handOut S_State2.length S_State2 S_State2 116 [] [] μ 0 0 (K μ)) : ∀ (n : Nat) (v2 : Int) (μ : ZMem), AW cf_State_handOut S_State2.length S_State2 S_State2 54 [(0, zR (some 0)), (2, zI v2)] [] μ 0 0 (L_State_handOut_54 K n v2 μ) := by
  intro n
  induction n with
  | zero => intro v2 μ; exact AW.noth
  | succ n ih =>
    intro v2 μ
    rw [L_State_handOut_54]
    refine AW.iload_n (i := 2) (a := v2) (by decide +kernel) rfl (?_ : AW _ _ _ _ 55 _ _ _ _ _ _)
    refine AW.aload_n (i := 0) (a := 0) (by decide +kernel) rfl (?_ : AW _ _ _ _ 56 _ _ _ _ _ _)
    refine AW.getR (idx := 21) (ci := 5) (k := 1) (r := 0) (by decide +kernel) rfl rfl rfl (?_ : AW _ _ _ _ 59 _ _ _ _ _ _)
    refine AW.getI (idx := 46) (ci := 4) (k := 8) (r := 7) (by decide +kernel) rfl rfl rfl (?_ : AW _ _ _ _ 62 _ _ _ _ _ _)
    refine AW.icmp_ge (off := 54) (tgt := 116) (by decide +kernel) (by decide) (fun _ => ?_) (fun _ => ?_)
    · refine AW.sub (L' := []) [] rfl ?_
      exact hK  μ
    · refine AW.aload_n (i := 0) (a := 0) (by decide +kernel) rfl (?_ : AW _ _ _ _ 66 _ _ _ _ _ _)
      refine AW.getR (idx := 21) (ci := 5) (k := 1) (r := 0) (by decide +kernel) rfl rfl rfl (?_ : AW _ _ _ _ 69 _ _ _ _ _ _)
      refine AW.getR (idx := 187) (ci := 4) (k := 3) (r := 7) (by decide +kernel) rfl rfl rfl (?_ : AW _ _ _ _ 72 _ _ _ _ _ _)
      refine AW.iload_n (i := 2) (a := v2) (by decide +kernel) rfl (?_ : AW _ _ _ _ 73 _ _ _ _ _ _)
      refine AW.dup2 (by decide +kernel) rfl rfl (?_ : AW _ _ _ _ 74 _ _ _ _ _ _)
      refine AW.lald (r := 11) (by decide +kernel) rfl (fun x6 => (?_ : AW _ _ _ _ 75 _ _ _ _ _ _))
      refine AW.aload_n (i := 0) (a := 0) (by decide +kernel) rfl (?_ : AW _ _ _ _ 76 _ _ _ _ _ _)
      refine AW.getR (idx := 21) (ci := 5) (k := 1) (r := 0) (by decide +kernel) rfl rfl rfl (?_ : AW _ _ _ _ 79 _ _ _ _ _ _)
      refine AW.getR (idx := 171) (ci := 4) (k := 6) (r := 7) (by decide +kernel) rfl rfl rfl (?_ : AW _ _ _ _ 82 _ _ _ _ _ _)
      refine AW.iload_n (i := 2) (a := v2) (by decide +kernel) rfl (?_ : AW _ _ _ _ 83 _ _ _ _ _ _)
      refine AW.lald (r := 14) (by decide +kernel) rfl (fun x7 => (?_ : AW _ _ _ _ 84 _ _ _ _ _ _))
      refine AW.ladd (by decide +kernel) (?_ : AW _ _ _ _ 85 _ _ _ _ _ _)
      refine AW.lastL (r := 11) (by decide +kernel) rfl (fun μ8 => (?_ : AW _ _ _ _ 86 _ _ _ _ _ _))
      refine AW.aload_n (i := 0) (a := 0) (by decide +kernel) rfl (?_ : AW _ _ _ _ 87 _ _ _ _ _ _)
      refine AW.getR (idx := 34) (ci := 5) (k := 3) (r := 0) (by decide +kernel) rfl rfl rfl (?_ : AW _ _ _ _ 90 _ _ _ _ _ _)
      refine AW.iload_n (i := 2) (a := v2) (by decide +kernel) rfl (?_ : AW _ _ _ _ 91 _ _ _ _ _ _)
      refine AW.aload_n (i := 0) (a := 0) (by decide +kernel) rfl (?_ : AW _ _ _ _ 92 _ _ _ _ _ _)
      refine AW.getR (idx := 12) (ci := 5) (k := 0) (r := 0) (by decide +kernel) rfl rfl rfl (?_ : AW _ _ _ _ 95 _ _ _ _ _ _)
      refine AW.getI (idx := 61) (ci := 0) (k := 6) (r := 1) (by decide +kernel) rfl rfl rfl (?_ : AW _ _ _ _ 98 _ _ _ _ _ _)
      refine AW.aload_n (i := 0) (a := 0) (by decide +kernel) rfl (?_ : AW _ _ _ _ 99 _ _ _ _ _ _)
      refine AW.getR (idx := 21) (ci := 5) (k := 1) (r := 0) (by decide +kernel) rfl rfl rfl (?_ : AW _ _ _ _ 102 _ _ _ _ _ _)
      refine AW.getR (idx := 171) (ci := 4) (k := 6) (r := 7) (by decide +kernel) rfl rfl rfl (?_ : AW _ _ _ _ 105 _ _ _ _ _ _)
      refine AW.iload_n (i := 2) (a := v2) (by decide +kernel) rfl (?_ : AW _ _ _ _ 106 _ _ _ _ _ _)
      refine AW.lald (r := 14) (by decide +kernel) rfl (fun x9 => (?_ : AW _ _ _ _ 107 _ _ _ _ _ _))
      refine AW.callVm (g := cf_Trace_add) (Sg := S_Trace) (pl := [16, 17, 18]) (av := [zI v2, zI (μ8 1 6), zJ x9]) (b0 := 0) (ci := 7) (idx := 177) (n := 3) (st := []) (by decide +kernel) (fun l hl r hr => c_Trace_add l hl v2 (μ8 1 6) x9 _ r hr) sb_17 rfl cal_Trace_add rfl (zw4 zm_X5_177 zi_yX7_add zs_yX7_add zn_X7) rfl rfl ⟨by decide, by decide, by decide, by decide⟩ (Nat.le_of_ble_eq_true rfl) (Or.inl rfl) (fun v μ10 => AW.rV (?_ : AW _ _ _ _ 110 _ _ _ _ _ _) v)
      refine AW.iincL (i := 2) (n := 1) (a := v2) (L' := fun x12 => [(2, zI x12), (0, zR (some 0))]) (by decide +kernel) rfl (by decide) (fun _ => rfl) (fun x12 => (?_ : AW _ _ _ _ 113 _ _ _ _ _ _))
      refine AW.goto (off := -59) (tgt := 54) (by decide +kernel) (by decide) ?_
      refine AW.sub (L' := [(0, zR (some 0)), (2, zI x12)]) [1, 0] rfl ?_
      exact ih x12 μ10
def F_State_handOut (a1 : Int) (μ : ZMem) : Option ZRes := zLet (zUp μ 7 10 ((μ 7 10) + (μ 0 4))) (fun μ1 => if w32 (μ1 0 2) = 0 then (some (.inr none, μ1)) else (if w64 (μ1 0 4) = w64 0 then (some (.inr none, μ1)) else (zCm [7, 8, 9, 10, 11, 12, 13, 14, 15] μ1 (F_Register_weighFor a1 (zVw [7, 8, 9, 10, 11, 12, 13, 14, 15] μ1)) (zkV (fun μ2 => zCm [7, 8, 9, 10, 11, 12, 13, 14, 15] μ2 (F_Register_split (μ2 0 4) (zVw [7, 8, 9, 10, 11, 12, 13, 14, 15] μ2)) (zkV (fun μ4 => L_State_handOut_54 (fun μ13 => some (.inr none, μ13)) zN 0 μ4)) zX0)) zX0)))
set_option maxRecDepth 100000 in
theorem w_State_handOut (a1 : Int) (μ : ZMem) : AW cf_State_handOut S_State2.length S_State2 S_State2 0 [(0, zR (some 0)), (1, zI a1)] [] μ 0 0 (F_State_handOut a1 μ) := by
  unfold F_State_handOut
  refine AW.aload_n (i := 0) (a := 0) (by decide +kernel) rfl (?_ : AW _ _ _ _ 1 _ _ _ _ _ _)
  refine AW.getR (idx := 21) (ci := 5) (k := 1) (r := 0) (by decide +kernel) rfl rfl rfl (?_ : AW _ _ _ _ 4 _ _ _ _ _ _)
  refine AW.dup (by decide +kernel) rfl (?_ : AW _ _ _ _ 5 _ _ _ _ _ _)
  refine AW.getJ (idx := 181) (ci := 4) (k := 10) (r := 7) (by decide +kernel) rfl rfl rfl (?_ : AW _ _ _ _ 8 _ _ _ _ _ _)
  refine AW.aload_n (i := 0) (a := 0) (by decide +kernel) rfl (?_ : AW _ _ _ _ 9 _ _ _ _ _ _)
  refine AW.getJ (idx := 75) (ci := 5) (k := 4) (r := 0) (by decide +kernel) rfl rfl rfl (?_ : AW _ _ _ _ 12 _ _ _ _ _ _)
  refine AW.ladd (by decide +kernel) (?_ : AW _ _ _ _ 13 _ _ _ _ _ _)
  refine AW.putlL (idx := 181) (ci := 4) (k := 10) (r := 7) (by decide +kernel) rfl rfl rfl (fun μ1 => (?_ : AW _ _ _ _ 16 _ _ _ _ _ _))
  refine AW.aload_n (i := 0) (a := 0) (by decide +kernel) rfl (?_ : AW _ _ _ _ 17 _ _ _ _ _ _)
  refine AW.getZ (idx := 25) (ci := 5) (k := 2) (r := 0) (by decide +kernel) rfl rfl rfl (?_ : AW _ _ _ _ 20 _ _ _ _ _ _)
  refine AW.if_eq (off := 12) (tgt := 32) (by decide +kernel) (by decide) (fun _ => ?_) (fun _ => ?_)
  · exact AW.retv (by decide +kernel) rfl (by decide) (by decide)
  · refine AW.aload_n (i := 0) (a := 0) (by decide +kernel) rfl (?_ : AW _ _ _ _ 24 _ _ _ _ _ _)
    refine AW.getJ (idx := 75) (ci := 5) (k := 4) (r := 0) (by decide +kernel) rfl rfl rfl (?_ : AW _ _ _ _ 27 _ _ _ _ _ _)
    refine AW.lconst0 (by decide +kernel) (?_ : AW _ _ _ _ 28 _ _ _ _ _ _)
    refine AW.lcmp_ne (off := 4) (tgt := 33) (by decide +kernel) (by decide +kernel) (by decide) (fun _ => ?_) (fun _ => ?_)
    · exact AW.retv (by decide +kernel) rfl (by decide) (by decide)
    · refine AW.aload_n (i := 0) (a := 0) (by decide +kernel) rfl (?_ : AW _ _ _ _ 34 _ _ _ _ _ _)
      refine AW.getR (idx := 21) (ci := 5) (k := 1) (r := 0) (by decide +kernel) rfl rfl rfl (?_ : AW _ _ _ _ 37 _ _ _ _ _ _)
      refine AW.iload_n (i := 1) (a := a1) (by decide +kernel) rfl (?_ : AW _ _ _ _ 38 _ _ _ _ _ _)
      refine AW.callVm (g := cf_Register_weighFor) (Sg := S_Register2) (pl := [7, 8, 9, 10, 11, 12, 13, 14, 15]) (av := [zI a1]) (b0 := 0) (ci := 4) (idx := 184) (n := 1) (st := []) (by decide +kernel) (fun l hl r hr => c_Register_weighFor l hl a1 _ r hr) sb_16 rfl cal_Register_weighFor rfl (zw4 zm_X5_184 zi_yX4_weighFor zs_yX4_weighFor zn_X4) rfl rfl ⟨by decide, by decide, by decide, by decide⟩ (Nat.le_of_ble_eq_true rfl) (Or.inl rfl) (fun v μ2 => AW.rV (?_ : AW _ _ _ _ 41 _ _ _ _ _ _) v)
      refine AW.aload_n (i := 0) (a := 0) (by decide +kernel) rfl (?_ : AW _ _ _ _ 42 _ _ _ _ _ _)
      refine AW.getR (idx := 21) (ci := 5) (k := 1) (r := 0) (by decide +kernel) rfl rfl rfl (?_ : AW _ _ _ _ 45 _ _ _ _ _ _)
      refine AW.aload_n (i := 0) (a := 0) (by decide +kernel) rfl (?_ : AW _ _ _ _ 46 _ _ _ _ _ _)
      refine AW.getJ (idx := 75) (ci := 5) (k := 4) (r := 0) (by decide +kernel) rfl rfl rfl (?_ : AW _ _ _ _ 49 _ _ _ _ _ _)
      refine AW.callVm (g := cf_Register_split) (Sg := S_Register2) (pl := [7, 8, 9, 10, 11, 12, 13, 14, 15]) (av := [zJ (μ2 0 4)]) (b0 := 0) (ci := 4) (idx := 168) (n := 1) (st := []) (by decide +kernel) (fun l hl r hr => c_Register_split l hl (μ2 0 4) _ r hr) sb_16 rfl cal_Register_split rfl (zw4 zm_X5_168 zi_yX4_split zs_yX4_split zn_X4) rfl rfl ⟨by decide, by decide, by decide, by decide⟩ (Nat.le_of_ble_eq_true rfl) (Or.inl rfl) (fun v μ4 => AW.rV (?_ : AW _ _ _ _ 52 _ _ _ _ _ _) v)
      refine AW.iconst (n := 0) (by decide +kernel) (?_ : AW _ _ _ _ 53 _ _ _ _ _ _)
      refine AW.istore_n' (i := 2) (L' := [(2, zI 0), (0, zR (some 0)), (1, zI a1)]) (by decide +kernel) (by decide) rfl (?_ : AW _ _ _ _ 54 _ _ _ _ _ _)
      refine AW.sub (L' := [(0, zR (some 0)), (2, zI 0)]) [1, 0] rfl ?_
      refine l_State_handOut_54 (fun μ13 => ?_) zN _ _
      exact AW.retv (by decide +kernel) rfl (by decide) (by decide)
theorem c_State_handOut (l : Launch) (hl : l.stackTraces = false) (a1 : Int) (μ : ZMem) (r : ZRes) (h : F_State_handOut a1 μ = some r) : ZC l cf_State_handOut S_State2 S_State2 [zR (some 0), zI a1] μ r := ZC.of hl (by decide +kernel) rfl rfl zft_X5_ok (Nat.le_of_ble_eq_true rfl) h (w_State_handOut a1 μ)
/-! WeirLedger$Register.allOf([I)J -/
def cf_Register_allOf_1 : ZCf := (yX4_allOf, cX4_allOf, 5, some .long, [], 2, 0, 0, zft_X4, none)
theorem cal_Register_allOf_1 : zCallee cf_Register_allOf_1 1 := ⟨rfl, zc_yX4_allOf, by decide, by decide, by decide +kernel⟩
def L_Register_allOf_1_5 (μ : ZMem) (K : Int → Option ZRes) : Nat → Int → Int → Option ZRes
  | 0, _, _ => none
  | n + 1, v2, v4 => if w32 (μ 0 8) ≤ w32 v4 then (K v2) else (zRd μ 1 6 v4 (fun x1 => zLet ((v2 + (w32 x1))) (fun x2 => zLet (v4 + 1) (fun x3 => L_Register_allOf_1_5 μ K n x2 x3))))
set_option maxRecDepth 100000 in
theorem l_Register_allOf_1_5 {μ : ZMem} {K : Int → Option ZRes} (hK : ∀ (k2 : Int), AW cf_Register_allOf_1 S_Register2.length S_Register2 S_Register2 28 [(2, zJ k2)] [] μ 0 0 (K k2)) : ∀ (n : Nat) (v2 : Int) (v4 : Int), AW cf_Register_allOf_1 S_Register2.length S_Register2 S_Register2 5 [(0, zR (some 0)), (1, zR (some 1)), (2, zJ v2), (4, zI v4)] [] μ 0 0 (L_Register_allOf_1_5 μ K n v2 v4) := by
  intro n
  induction n with
  | zero => intro v2 v4; exact AW.noth
  | succ n ih =>
    intro v2 v4
    rw [L_Register_allOf_1_5]
    refine AW.iload (i := 4) (a := v4) (by decide +kernel) rfl (?_ : AW _ _ _ _ 7 _ _ _ _ _ _)
    refine AW.aload_n (i := 0) (a := 0) (by decide +kernel) rfl (?_ : AW _ _ _ _ 8 _ _ _ _ _ _)
    refine AW.getI (idx := 60) (ci := 4) (k := 8) (r := 0) (by decide +kernel) rfl rfl rfl (?_ : AW _ _ _ _ 11 _ _ _ _ _ _)
    refine AW.icmp_ge (off := 17) (tgt := 28) (by decide +kernel) (by decide) (fun _ => ?_) (fun _ => ?_)
    · refine AW.sub (L' := [(2, zJ v2)]) [2] rfl ?_
      exact hK v2
    · refine AW.lload_n (i := 2) (a := v2) (by decide +kernel) rfl (?_ : AW _ _ _ _ 15 _ _ _ _ _ _)
      refine AW.aload_n (i := 1) (a := 1) (by decide +kernel) rfl (?_ : AW _ _ _ _ 16 _ _ _ _ _ _)
      refine AW.iload (i := 4) (a := v4) (by decide +kernel) rfl (?_ : AW _ _ _ _ 18 _ _ _ _ _ _)
      refine AW.iald (r := 1) (by decide +kernel) rfl (fun x1 => (?_ : AW _ _ _ _ 19 _ _ _ _ _ _))
      refine AW.i2l (by decide +kernel) (?_ : AW _ _ _ _ 20 _ _ _ _ _ _)
      refine AW.ladd (by decide +kernel) (?_ : AW _ _ _ _ 21 _ _ _ _ _ _)
      refine AW.lstoreL_n (i := 2) (L' := fun x2 => [(2, zJ x2), (0, zR (some 0)), (1, zR (some 1)), (4, zI v4)]) (by decide +kernel) (by decide) (fun _ => rfl) (fun x2 => (?_ : AW _ _ _ _ 22 _ _ _ _ _ _))
      refine AW.iincL (i := 4) (n := 1) (a := v4) (L' := fun x3 => [(4, zI x3), (2, zJ x2), (0, zR (some 0)), (1, zR (some 1))]) (by decide +kernel) rfl (by decide) (fun _ => rfl) (fun x3 => (?_ : AW _ _ _ _ 25 _ _ _ _ _ _))
      refine AW.goto (off := -20) (tgt := 5) (by decide +kernel) (by decide) ?_
      refine AW.sub (L' := [(0, zR (some 0)), (1, zR (some 1)), (2, zJ x2), (4, zI x3)]) [2, 3, 1, 0] rfl ?_
      exact ih x2 x3
def F_Register_allOf_1 (μ : ZMem) : Option ZRes := L_Register_allOf_1_5 μ (fun k4 => some (.inr (some (zJ k4)), μ)) zN 0 0
set_option maxRecDepth 100000 in
theorem w_Register_allOf_1 (μ : ZMem) : AW cf_Register_allOf_1 S_Register2.length S_Register2 S_Register2 0 [(0, zR (some 0)), (1, zR (some 1))] [] μ 0 0 (F_Register_allOf_1 μ) := by
  unfold F_Register_allOf_1
  refine AW.lconst0 (by decide +kernel) (?_ : AW _ _ _ _ 1 _ _ _ _ _ _)
  refine AW.lstore_n' (i := 2) (L' := [(2, zJ 0), (0, zR (some 0)), (1, zR (some 1))]) (by decide +kernel) (by decide) rfl (?_ : AW _ _ _ _ 2 _ _ _ _ _ _)
  refine AW.iconst (n := 0) (by decide +kernel) (?_ : AW _ _ _ _ 3 _ _ _ _ _ _)
  refine AW.istore' (i := 4) (L' := [(4, zI 0), (2, zJ 0), (0, zR (some 0)), (1, zR (some 1))]) (by decide +kernel) (by decide) rfl (?_ : AW _ _ _ _ 5 _ _ _ _ _ _)
  refine AW.sub (L' := [(0, zR (some 0)), (1, zR (some 1)), (2, zJ 0), (4, zI 0)]) [2, 3, 1, 0] rfl ?_
  refine l_Register_allOf_1_5 (fun k4 => ?_) zN _ _
  refine AW.lload_n (i := 2) (a := k4) (by decide +kernel) rfl (?_ : AW _ _ _ _ 29 _ _ _ _ _ _)
  exact AW.retl (by decide +kernel) rfl (by decide) (by decide)
theorem c_Register_allOf_1 (l : Launch) (hl : l.stackTraces = false) (μ : ZMem) (r : ZRes) (h : F_Register_allOf_1 μ = some r) : ZC l cf_Register_allOf_1 S_Register2 S_Register2 [zR (some 0), zR (some 1)] μ r := ZC.of hl (by decide +kernel) rfl rfl zft_X4_ok (Nat.le_of_ble_eq_true rfl) h (w_Register_allOf_1 μ)
/-! WeirLedger$State.fullFee()J -/
def cf_State_fullFee : ZCf := (yX5_fullFee, cX5_fullFee, 1, some .long, [], 3, 0, 0, zft_X5, none)
theorem cal_State_fullFee : zCallee cf_State_fullFee 0 := ⟨rfl, zc_yX5_fullFee, by decide, by decide, by decide +kernel⟩
def F_State_fullFee (μ : ZMem) : Option ZRes := zRd μ 2 7 6 (fun x1 => zCm [7, 8, 9, 10, 11, 12, 13, 14, 15] μ (F_Register_allOf_1  (zVw [7, 8, 9, 10, 11, 12, 13, 14, 15] μ)) (zkJ (fun x3 μ2 => some (.inr (some (zJ ((w64 ((w32 x1) * x3)).tdiv (w64 10000)))), μ2))) zX0)
set_option maxRecDepth 100000 in
theorem w_State_fullFee (μ : ZMem) : AW cf_State_fullFee S_State2.length S_State2 S_State2 0 [(0, zR (some 0))] [] μ 0 0 (F_State_fullFee μ) := by
  unfold F_State_fullFee
  refine AW.aload_n (i := 0) (a := 0) (by decide +kernel) rfl (?_ : AW _ _ _ _ 1 _ _ _ _ _ _)
  refine AW.getR (idx := 12) (ci := 5) (k := 0) (r := 0) (by decide +kernel) rfl rfl rfl (?_ : AW _ _ _ _ 4 _ _ _ _ _ _)
  refine AW.getR (idx := 145) (ci := 0) (k := 0) (r := 1) (by decide +kernel) rfl rfl rfl (?_ : AW _ _ _ _ 7 _ _ _ _ _ _)
  refine AW.bipush (n := 6) (by decide +kernel) (by decide +kernel) (?_ : AW _ _ _ _ 9 _ _ _ _ _ _)
  refine AW.iald (r := 2) (by decide +kernel) rfl (fun x1 => (?_ : AW _ _ _ _ 10 _ _ _ _ _ _))
  refine AW.i2l (by decide +kernel) (?_ : AW _ _ _ _ 11 _ _ _ _ _ _)
  refine AW.aload_n (i := 0) (a := 0) (by decide +kernel) rfl (?_ : AW _ _ _ _ 12 _ _ _ _ _ _)
  refine AW.getR (idx := 21) (ci := 5) (k := 1) (r := 0) (by decide +kernel) rfl rfl rfl (?_ : AW _ _ _ _ 15 _ _ _ _ _ _)
  refine AW.aload_n (i := 0) (a := 0) (by decide +kernel) rfl (?_ : AW _ _ _ _ 16 _ _ _ _ _ _)
  refine AW.getR (idx := 21) (ci := 5) (k := 1) (r := 0) (by decide +kernel) rfl rfl rfl (?_ : AW _ _ _ _ 19 _ _ _ _ _ _)
  refine AW.getR (idx := 148) (ci := 4) (k := 0) (r := 7) (by decide +kernel) rfl rfl rfl (?_ : AW _ _ _ _ 22 _ _ _ _ _ _)
  refine AW.callVm (g := cf_Register_allOf_1) (Sg := S_Register2) (pl := [7, 8, 9, 10, 11, 12, 13, 14, 15]) (av := [zR (some 1)]) (b0 := 0) (ci := 4) (idx := 98) (n := 1) (st := [zJ (w32 x1)]) (by decide +kernel) (fun l hl r hr => c_Register_allOf_1 l hl  _ r hr) sb_16 rfl cal_Register_allOf_1 rfl (zw4 zm_X5_98 zi_yX4_allOf zs_yX4_allOf zn_X4) rfl rfl ⟨by decide, by decide, by decide, by decide⟩ (Nat.le_of_ble_eq_true rfl) (Or.inl rfl) (fun v μ2 => AW.rJ (fun x3 => (?_ : AW _ _ _ _ 25 _ _ _ _ _ _)) v)
  refine AW.lmul (by decide +kernel) (?_ : AW _ _ _ _ 26 _ _ _ _ _ _)
  refine AW.ldc2 (idx := 151) (v := 10000) (by decide +kernel) zk_X5_151 (?_ : AW _ _ _ _ 29 _ _ _ _ _ _)
  refine AW.ldiv (by decide +kernel) (by decide +kernel) (?_ : AW _ _ _ _ 30 _ _ _ _ _ _)
  exact AW.retl (by decide +kernel) rfl (by decide) (by decide)
theorem c_State_fullFee (l : Launch) (hl : l.stackTraces = false) (μ : ZMem) (r : ZRes) (h : F_State_fullFee μ = some r) : ZC l cf_State_fullFee S_State2 S_State2 [zR (some 0)] μ r := ZC.of hl (by decide +kernel) rfl rfl zft_X5_ok (Nat.le_of_ble_eq_true rfl) h (w_State_fullFee μ)
/-! WeirLedger$State.passQuarter()V -/
def cf_State_passQuarter : ZCf := (yX5_passQuarter, cX5_passQuarter, 3, none, [], 4, 0, 0, zft_X5, none)
theorem cal_State_passQuarter : zCallee cf_State_passQuarter 0 := ⟨rfl, zc_yX5_passQuarter, by decide, by decide, by decide +kernel⟩
def J_State_passQuarter_64 (u1 : Int) (μ : ZMem) : Option ZRes := zCm [1, 2, 3, 4, 5, 6] μ (F_Books_pass u1 (zVw [1, 2, 3, 4, 5, 6] μ)) (zkV (fun μ6 => some (.inr none, μ6))) zX0
set_option maxRecDepth 100000 in
theorem j_State_passQuarter_64 (u1 : Int) (μ : ZMem) : AW cf_State_passQuarter S_State2.length S_State2 S_State2 64 [(0, zR (some 0)), (1, zJ u1)] [] μ 0 0 (J_State_passQuarter_64 u1 μ) := by
  unfold J_State_passQuarter_64
  refine AW.aload_n (i := 0) (a := 0) (by decide +kernel) rfl (?_ : AW _ _ _ _ 65 _ _ _ _ _ _)
  refine AW.getR (idx := 12) (ci := 5) (k := 0) (r := 0) (by decide +kernel) rfl rfl rfl (?_ : AW _ _ _ _ 68 _ _ _ _ _ _)
  refine AW.lload_n (i := 1) (a := u1) (by decide +kernel) rfl (?_ : AW _ _ _ _ 69 _ _ _ _ _ _)
  refine AW.callVm (g := cf_Books_pass) (Sg := S_Books3) (pl := [1, 2, 3, 4, 5, 6]) (av := [zJ u1]) (b0 := 0) (ci := 0) (idx := 165) (n := 1) (st := []) (by decide +kernel) (fun l hl r hr => c_Books_pass l hl u1 _ r hr) sb_15 rfl cal_Books_pass rfl (zw4 zm_X5_165 zi_yX0_pass zs_yX0_pass zn_X0) rfl rfl ⟨by decide, by decide, by decide, by decide⟩ (Nat.le_of_ble_eq_true rfl) (Or.inl rfl) (fun v μ6 => AW.rV (?_ : AW _ _ _ _ 72 _ _ _ _ _ _) v)
  exact AW.retv (by decide +kernel) rfl (by decide) (by decide)
def J_State_passQuarter_41 (u1 : Int) (μ : ZMem) : Option ZRes := if w32 (μ 0 2) = 0 then (J_State_passQuarter_64 u1 μ) else (zWr μ 18 201 (μ 1 6) u1 (fun μ8 => J_State_passQuarter_64 u1 μ8))
set_option maxRecDepth 100000 in
theorem j_State_passQuarter_41 (u1 : Int) (μ : ZMem) : AW cf_State_passQuarter S_State2.length S_State2 S_State2 41 [(0, zR (some 0)), (1, zJ u1)] [] μ 0 0 (J_State_passQuarter_41 u1 μ) := by
  unfold J_State_passQuarter_41
  refine AW.aload_n (i := 0) (a := 0) (by decide +kernel) rfl (?_ : AW _ _ _ _ 42 _ _ _ _ _ _)
  refine AW.getZ (idx := 25) (ci := 5) (k := 2) (r := 0) (by decide +kernel) rfl rfl rfl (?_ : AW _ _ _ _ 45 _ _ _ _ _ _)
  refine AW.if_eq (off := 19) (tgt := 64) (by decide +kernel) (by decide) (fun _ => ?_) (fun _ => ?_)
  · exact j_State_passQuarter_64 u1 μ
  · refine AW.aload_n (i := 0) (a := 0) (by decide +kernel) rfl (?_ : AW _ _ _ _ 49 _ _ _ _ _ _)
    refine AW.getR (idx := 34) (ci := 5) (k := 3) (r := 0) (by decide +kernel) rfl rfl rfl (?_ : AW _ _ _ _ 52 _ _ _ _ _ _)
    refine AW.getR (idx := 162) (ci := 7) (k := 1) (r := 16) (by decide +kernel) rfl rfl rfl (?_ : AW _ _ _ _ 55 _ _ _ _ _ _)
    refine AW.aload_n (i := 0) (a := 0) (by decide +kernel) rfl (?_ : AW _ _ _ _ 56 _ _ _ _ _ _)
    refine AW.getR (idx := 12) (ci := 5) (k := 0) (r := 0) (by decide +kernel) rfl rfl rfl (?_ : AW _ _ _ _ 59 _ _ _ _ _ _)
    refine AW.getI (idx := 61) (ci := 0) (k := 6) (r := 1) (by decide +kernel) rfl rfl rfl (?_ : AW _ _ _ _ 62 _ _ _ _ _ _)
    refine AW.lload_n (i := 1) (a := u1) (by decide +kernel) rfl (?_ : AW _ _ _ _ 63 _ _ _ _ _ _)
    refine AW.lastL (r := 18) (by decide +kernel) rfl (fun μ8 => (?_ : AW _ _ _ _ 64 _ _ _ _ _ _))
    exact j_State_passQuarter_64 u1 μ8
def F_State_passQuarter (μ : ZMem) : Option ZRes := zC (F_State_fullFee  μ) (zkJ (fun x2 μ1 => zCm [7, 8, 9, 10, 11, 12, 13, 14, 15] μ1 (F_Register_allOf_2  (zVw [7, 8, 9, 10, 11, 12, 13, 14, 15] μ1)) (zkJ (fun x4 μ3 => zLet ((zminJ x2 x4)) (fun x5 => if w64 x5 ≤ w64 0 then (J_State_passQuarter_41 x5 μ3) else (zCm [7, 8, 9, 10, 11, 12, 13, 14, 15] μ3 (F_Register_weighUncalled (-1) (zVw [7, 8, 9, 10, 11, 12, 13, 14, 15] μ3)) (zkV (fun μ9 => zC (F_State_takeIn x5 μ9) (zkV (fun μ11 => J_State_passQuarter_41 x5 μ11)) zX0)) zX0)))) zX0)) zX0
set_option maxRecDepth 100000 in
theorem w_State_passQuarter (μ : ZMem) : AW cf_State_passQuarter S_State2.length S_State2 S_State2 0 [(0, zR (some 0))] [] μ 0 0 (F_State_passQuarter μ) := by
  unfold F_State_passQuarter
  refine AW.aload_n (i := 0) (a := 0) (by decide +kernel) rfl (?_ : AW _ _ _ _ 1 _ _ _ _ _ _)
  refine AW.callVw (g := cf_State_fullFee) (av := []) (b0 := 0) (ci := 5) (idx := 153) (n := 0) (st := []) (by decide +kernel) (fun l hl r hr => c_State_fullFee l hl  _ r hr) S_State2_wf rfl cal_State_fullFee rfl (zw4 zm_X5_153 zi_yX5_fullFee zs_yX5_fullFee zn_X5) rfl rfl ⟨by decide, by decide, by decide, by decide⟩ (Nat.le_of_ble_eq_true rfl) (Or.inl rfl) (fun v μ1 => AW.kJ (fun x2 => (?_ : AW _ _ _ _ 4 _ _ _ _ _ _)) v)
  refine AW.aload_n (i := 0) (a := 0) (by decide +kernel) rfl (?_ : AW _ _ _ _ 5 _ _ _ _ _ _)
  refine AW.getR (idx := 21) (ci := 5) (k := 1) (r := 0) (by decide +kernel) rfl rfl rfl (?_ : AW _ _ _ _ 8 _ _ _ _ _ _)
  refine AW.aload_n (i := 0) (a := 0) (by decide +kernel) rfl (?_ : AW _ _ _ _ 9 _ _ _ _ _ _)
  refine AW.getR (idx := 21) (ci := 5) (k := 1) (r := 0) (by decide +kernel) rfl rfl rfl (?_ : AW _ _ _ _ 12 _ _ _ _ _ _)
  refine AW.getR (idx := 94) (ci := 4) (k := 1) (r := 7) (by decide +kernel) rfl rfl rfl (?_ : AW _ _ _ _ 15 _ _ _ _ _ _)
  refine AW.callVm (g := cf_Register_allOf_2) (Sg := S_Register2) (pl := [7, 8, 9, 10, 11, 12, 13, 14, 15]) (av := [zR (some 2)]) (b0 := 0) (ci := 4) (idx := 98) (n := 1) (st := [zJ x2]) (by decide +kernel) (fun l hl r hr => c_Register_allOf_2 l hl  _ r hr) sb_16 rfl cal_Register_allOf_2 rfl (zw4 zm_X5_98 zi_yX4_allOf zs_yX4_allOf zn_X4) rfl rfl ⟨by decide, by decide, by decide, by decide⟩ (Nat.le_of_ble_eq_true rfl) (Or.inl rfl) (fun v μ3 => AW.rJ (fun x4 => (?_ : AW _ _ _ _ 18 _ _ _ _ _ _)) v)
  refine AW.minJ (idx := 156) (by decide +kernel) zm_X5_156 rfl (?_ : AW _ _ _ _ 21 _ _ _ _ _ _)
  refine AW.lstoreL_n (i := 1) (L' := fun x5 => [(1, zJ x5), (0, zR (some 0))]) (by decide +kernel) (by decide) (fun _ => rfl) (fun x5 => (?_ : AW _ _ _ _ 22 _ _ _ _ _ _))
  refine AW.lload_n (i := 1) (a := x5) (by decide +kernel) rfl (?_ : AW _ _ _ _ 23 _ _ _ _ _ _)
  refine AW.lconst0 (by decide +kernel) (?_ : AW _ _ _ _ 24 _ _ _ _ _ _)
  refine AW.lcmp_le (off := 16) (tgt := 41) (by decide +kernel) (by decide +kernel) (by decide) (fun _ => ?_) (fun _ => ?_)
  · refine AW.sub (L' := [(0, zR (some 0)), (1, zJ x5)]) [1, 0] rfl ?_
    exact j_State_passQuarter_41 x5 μ3
  · refine AW.aload_n (i := 0) (a := 0) (by decide +kernel) rfl (?_ : AW _ _ _ _ 29 _ _ _ _ _ _)
    refine AW.getR (idx := 21) (ci := 5) (k := 1) (r := 0) (by decide +kernel) rfl rfl rfl (?_ : AW _ _ _ _ 32 _ _ _ _ _ _)
    refine AW.iconst (n := -1) (by decide +kernel) (?_ : AW _ _ _ _ 33 _ _ _ _ _ _)
    refine AW.callVm (g := cf_Register_weighUncalled) (Sg := S_Register2) (pl := [7, 8, 9, 10, 11, 12, 13, 14, 15]) (av := [zI (-1)]) (b0 := 0) (ci := 4) (idx := 82) (n := 1) (st := []) (by decide +kernel) (fun l hl r hr => c_Register_weighUncalled l hl (-1) _ r hr) sb_16 rfl cal_Register_weighUncalled rfl (zw4 zm_X5_82 zi_yX4_weighUncalled zs_yX4_weighUncalled zn_X4) rfl rfl ⟨by decide, by decide, by decide, by decide⟩ (Nat.le_of_ble_eq_true rfl) (Or.inl rfl) (fun v μ9 => AW.rV (?_ : AW _ _ _ _ 36 _ _ _ _ _ _) v)
    refine AW.aload_n (i := 0) (a := 0) (by decide +kernel) rfl (?_ : AW _ _ _ _ 37 _ _ _ _ _ _)
    refine AW.lload_n (i := 1) (a := x5) (by decide +kernel) rfl (?_ : AW _ _ _ _ 38 _ _ _ _ _ _)
    refine AW.callVw (g := cf_State_takeIn) (av := [zJ x5]) (b0 := 0) (ci := 5) (idx := 86) (n := 1) (st := []) (by decide +kernel) (fun l hl r hr => c_State_takeIn l hl x5 _ r hr) S_State2_wf rfl cal_State_takeIn rfl (zw4 zm_X5_86 zi_yX5_takeIn zs_yX5_takeIn zn_X5) rfl rfl ⟨by decide, by decide, by decide, by decide⟩ (Nat.le_of_ble_eq_true rfl) (Or.inl rfl) (fun v μ11 => AW.kV (?_ : AW _ _ _ _ 41 _ _ _ _ _ _) v)
    refine AW.sub (L' := [(0, zR (some 0)), (1, zJ x5)]) [1, 0] rfl ?_
    exact j_State_passQuarter_41 x5 μ11
theorem c_State_passQuarter (l : Launch) (hl : l.stackTraces = false) (μ : ZMem) (r : ZRes) (h : F_State_passQuarter μ = some r) : ZC l cf_State_passQuarter S_State2 S_State2 [zR (some 0)] μ r := ZC.of hl (by decide +kernel) rfl rfl zft_X5_ok (Nat.le_of_ble_eq_true rfl) h (w_State_passQuarter μ)
/-! WeirLedger$State.perform(IIII)J -/
def cf_State_perform : ZCf := (yX5_perform, cX5_perform, 6, some .long, [], 5, 0, 0, zft_X5, none)
theorem cal_State_perform : zCallee cf_State_perform 4 := ⟨rfl, zc_yX5_perform, by decide, by decide, by decide +kernel⟩
def J_State_perform_110 (a2 : Int) (y0 : Int) (y1 : Int) (y2 : Int) (μ : ZMem) : Option ZRes := zCm [1, 2, 3, 4, 5, 6] μ (F_Books_sellDeal y2 y1 y0 (zVw [1, 2, 3, 4, 5, 6] μ)) (zkV (fun μ13 => zRd μ13 6 6 4 (fun x15 => zLet (zUp μ13 0 5 x15) (fun μ16 => zRd μ16 6 6 5 (fun x17 => zLet (zUp μ16 0 4 x17) (fun μ18 => zC (F_State_handOut a2 μ18) (zkV (fun μ19 => some (.inr (some (zJ (μ19 0 5))), μ19))) zX0)))))) zX0
set_option maxRecDepth 100000 in
theorem j_State_perform_110 (a2 : Int) (y0 : Int) (y1 : Int) (y2 : Int) (μ : ZMem) : AW cf_State_perform S_State2.length S_State2 S_State2 110 [(0, zR (some 0)), (2, zI a2)] [zI y0, zI y1, zI y2, zR (some 1)] μ 0 0 (J_State_perform_110 a2 y0 y1 y2 μ) := by
  unfold J_State_perform_110
  refine AW.callVm (g := cf_Books_sellDeal) (Sg := S_Books3) (pl := [1, 2, 3, 4, 5, 6]) (av := [zI y2, zI y1, zI y0]) (b0 := 0) (ci := 0) (idx := 102) (n := 3) (st := []) (by decide +kernel) (fun l hl r hr => c_Books_sellDeal l hl y2 y1 y0 _ r hr) sb_15 rfl cal_Books_sellDeal rfl (zw4 zm_X5_102 zi_yX0_sellDeal zs_yX0_sellDeal zn_X0) rfl rfl ⟨by decide, by decide, by decide, by decide⟩ (Nat.le_of_ble_eq_true rfl) (Or.inl rfl) (fun v μ13 => AW.rV (?_ : AW _ _ _ _ 113 _ _ _ _ _ _) v)
  refine AW.aload_n (i := 0) (a := 0) (by decide +kernel) rfl (?_ : AW _ _ _ _ 114 _ _ _ _ _ _)
  refine AW.aload_n (i := 0) (a := 0) (by decide +kernel) rfl (?_ : AW _ _ _ _ 115 _ _ _ _ _ _)
  refine AW.getR (idx := 12) (ci := 5) (k := 0) (r := 0) (by decide +kernel) rfl rfl rfl (?_ : AW _ _ _ _ 118 _ _ _ _ _ _)
  refine AW.getR (idx := 106) (ci := 0) (k := 4) (r := 1) (by decide +kernel) rfl rfl rfl (?_ : AW _ _ _ _ 121 _ _ _ _ _ _)
  refine AW.iconst (n := 4) (by decide +kernel) (?_ : AW _ _ _ _ 122 _ _ _ _ _ _)
  refine AW.lald (r := 6) (by decide +kernel) rfl (fun x15 => (?_ : AW _ _ _ _ 123 _ _ _ _ _ _))
  refine AW.putlL (idx := 79) (ci := 5) (k := 5) (r := 0) (by decide +kernel) rfl rfl rfl (fun μ16 => (?_ : AW _ _ _ _ 126 _ _ _ _ _ _))
  refine AW.aload_n (i := 0) (a := 0) (by decide +kernel) rfl (?_ : AW _ _ _ _ 127 _ _ _ _ _ _)
  refine AW.aload_n (i := 0) (a := 0) (by decide +kernel) rfl (?_ : AW _ _ _ _ 128 _ _ _ _ _ _)
  refine AW.getR (idx := 12) (ci := 5) (k := 0) (r := 0) (by decide +kernel) rfl rfl rfl (?_ : AW _ _ _ _ 131 _ _ _ _ _ _)
  refine AW.getR (idx := 106) (ci := 0) (k := 4) (r := 1) (by decide +kernel) rfl rfl rfl (?_ : AW _ _ _ _ 134 _ _ _ _ _ _)
  refine AW.iconst (n := 5) (by decide +kernel) (?_ : AW _ _ _ _ 135 _ _ _ _ _ _)
  refine AW.lald (r := 6) (by decide +kernel) rfl (fun x17 => (?_ : AW _ _ _ _ 136 _ _ _ _ _ _))
  refine AW.putlL (idx := 75) (ci := 5) (k := 4) (r := 0) (by decide +kernel) rfl rfl rfl (fun μ18 => (?_ : AW _ _ _ _ 139 _ _ _ _ _ _))
  refine AW.aload_n (i := 0) (a := 0) (by decide +kernel) rfl (?_ : AW _ _ _ _ 140 _ _ _ _ _ _)
  refine AW.iload_n (i := 2) (a := a2) (by decide +kernel) rfl (?_ : AW _ _ _ _ 141 _ _ _ _ _ _)
  refine AW.callVw (g := cf_State_handOut) (av := [zI a2]) (b0 := 0) (ci := 5) (idx := 110) (n := 1) (st := []) (by decide +kernel) (fun l hl r hr => c_State_handOut l hl a2 _ r hr) S_State2_wf rfl cal_State_handOut rfl (zw4 zm_X5_110 zi_yX5_handOut zs_yX5_handOut zn_X5) rfl rfl ⟨by decide, by decide, by decide, by decide⟩ (Nat.le_of_ble_eq_true rfl) (Or.inl rfl) (fun v μ19 => AW.kV (?_ : AW _ _ _ _ 144 _ _ _ _ _ _) v)
  refine AW.aload_n (i := 0) (a := 0) (by decide +kernel) rfl (?_ : AW _ _ _ _ 145 _ _ _ _ _ _)
  refine AW.getJ (idx := 79) (ci := 5) (k := 5) (r := 0) (by decide +kernel) rfl rfl rfl (?_ : AW _ _ _ _ 148 _ _ _ _ _ _)
  exact AW.retl (by decide +kernel) rfl (by decide) (by decide)
def L_State_perform_163 (c3 : Int) (K : ZMem → Option ZRes) : Nat → Int → ZMem → Option ZRes
  | 0, _, _ => none
  | n + 1, v5, μ => if w32 c3 ≤ w32 v5 then (K  μ) else (zC (F_State_passQuarter  μ) (zkV (fun μ26 => zLet (v5 + 1) (fun x28 => L_State_perform_163 c3 K n x28 μ26))) zX0)
set_option maxRecDepth 100000 in
theorem l_State_perform_163 {c3 : Int} {K : ZMem → Option ZRes} (hK : ∀ (μ : ZMem), AW cf_State_perform S_State2.length S_State2 S_State2 179 [(0, zR (some 0))] [] μ 0 0 (K μ)) : ∀ (n : Nat) (v5 : Int) (μ : ZMem), AW cf_State_perform S_State2.length S_State2 S_State2 163 [(0, zR (some 0)), (3, zI c3), (5, zI v5)] [] μ 0 0 (L_State_perform_163 c3 K n v5 μ) := by
  intro n
  induction n with
  | zero => intro v5 μ; exact AW.noth
  | succ n ih =>
    intro v5 μ
    rw [L_State_perform_163]
    refine AW.iload (i := 5) (a := v5) (by decide +kernel) rfl (?_ : AW _ _ _ _ 165 _ _ _ _ _ _)
    refine AW.iload_n (i := 3) (a := c3) (by decide +kernel) rfl (?_ : AW _ _ _ _ 166 _ _ _ _ _ _)
    refine AW.icmp_ge (off := 13) (tgt := 179) (by decide +kernel) (by decide) (fun _ => ?_) (fun _ => ?_)
    · refine AW.sub (L' := [(0, zR (some 0))]) [0] rfl ?_
      exact hK  μ
    · refine AW.aload_n (i := 0) (a := 0) (by decide +kernel) rfl (?_ : AW _ _ _ _ 170 _ _ _ _ _ _)
      refine AW.callVw (g := cf_State_passQuarter) (av := []) (b0 := 0) (ci := 5) (idx := 117) (n := 0) (st := []) (by decide +kernel) (fun l hl r hr => c_State_passQuarter l hl  _ r hr) S_State2_wf rfl cal_State_passQuarter rfl (zw4 zm_X5_117 zi_yX5_passQuarter zs_yX5_passQuarter zn_X5) rfl rfl ⟨by decide, by decide, by decide, by decide⟩ (Nat.le_of_ble_eq_true rfl) (Or.inl rfl) (fun v μ26 => AW.kV (?_ : AW _ _ _ _ 173 _ _ _ _ _ _) v)
      refine AW.iincL (i := 5) (n := 1) (a := v5) (L' := fun x28 => [(5, zI x28), (0, zR (some 0)), (3, zI c3)]) (by decide +kernel) rfl (by decide) (fun _ => rfl) (fun x28 => (?_ : AW _ _ _ _ 176 _ _ _ _ _ _))
      refine AW.goto (off := -13) (tgt := 163) (by decide +kernel) (by decide) ?_
      refine AW.sub (L' := [(0, zR (some 0)), (3, zI c3), (5, zI x28)]) [1, 2, 0] rfl ?_
      exact ih x28 μ26
def F_State_perform (a1 : Int) (a2 : Int) (a3 : Int) (a4 : Int) (μ : ZMem) : Option ZRes := zLet (zUp μ 0 4 0) (fun μ1 => zLet (zUp μ1 0 5 0) (fun μ2 => if w32 a1 = 0 then (zCm [7, 8, 9, 10, 11, 12, 13, 14, 15] μ2 (F_Register_weighUncalled a2 (zVw [7, 8, 9, 10, 11, 12, 13, 14, 15] μ2)) (zkV (fun μ4 => zC (F_State_takeIn (w32 a3) μ4) (zkV (fun μ6 => zCm [1, 2, 3, 4, 5, 6] μ6 (F_Books_raise a2 a3 (zVw [1, 2, 3, 4, 5, 6] μ6)) (zkV (fun μ8 => zCm [7, 8, 9, 10, 11, 12, 13, 14, 15] μ8 (F_Register_allOf_2  (zVw [7, 8, 9, 10, 11, 12, 13, 14, 15] μ8)) (zkJ (fun x11 μ10 => some (.inr (some (zJ x11)), μ10))) zX0)) zX0)) zX0)) zX0) else (if w32 a1 = 1 then (if w32 a1 = w32 2 then (J_State_perform_110 a2 1 a3 a2 μ2) else (J_State_perform_110 a2 0 a3 a2 μ2)) else (if w32 a1 = 2 then (if w32 a1 = w32 2 then (J_State_perform_110 a2 1 a3 a2 μ2) else (J_State_perform_110 a2 0 a3 a2 μ2)) else (if w32 a1 = 3 then (zCm [1, 2, 3, 4, 5, 6] μ2 (F_Books_remark a2 a3 (zVw [1, 2, 3, 4, 5, 6] μ2)) (zkI (fun x24 μ23 => some (.inr (some (zJ (w32 x24))), μ23))) zX0) else (if w32 a1 = 4 then (L_State_perform_163 a3 (fun μ29 => some (.inr (some (zJ (w32 (μ29 1 6)))), μ29)) zN 0 μ2) else (if w32 a1 = 5 then (zCm [7, 8, 9, 10, 11, 12, 13, 14, 15] μ2 (F_Register_setFailed a2 (zVw [7, 8, 9, 10, 11, 12, 13, 14, 15] μ2)) (zkI (fun x32 μ31 => some (.inr (some (zJ (w32 x32))), μ31))) zX0) else (if w32 a1 = 6 then (zCm [1, 2, 3, 4, 5, 6] μ2 (F_Books_settle  (zVw [1, 2, 3, 4, 5, 6] μ2)) (zkJ (fun x35 μ34 => zLet (zUp μ34 0 4 x35) (fun μ36 => zC (F_State_handOut (-1) μ36) (zkV (fun μ37 => some (.inr (some (zJ (μ37 0 4))), μ37))) zX0))) zX0) else (if w32 a1 = 7 then (zCm [7, 8, 9, 10, 11, 12, 13, 14, 15] μ2 (F_Register_handOver a2 a4 a3 (zVw [7, 8, 9, 10, 11, 12, 13, 14, 15] μ2)) (zkI (fun x41 μ40 => some (.inr (some (zJ (w32 x41))), μ40))) zX0) else (zCm [1, 2, 3, 4, 5, 6] μ2 (F_Books_settle  (zVw [1, 2, 3, 4, 5, 6] μ2)) (zkJ (fun x43 μ42 => zLet (zUp μ42 0 4 x43) (fun μ44 => zC (F_State_handOut (-1) μ44) (zkV (fun μ45 => some (.inr (some (zJ (μ45 0 4))), μ45))) zX0))) zX0))))))))))
set_option maxRecDepth 100000 in
theorem w_State_perform (a1 : Int) (a2 : Int) (a3 : Int) (a4 : Int) (μ : ZMem) : AW cf_State_perform S_State2.length S_State2 S_State2 0 [(0, zR (some 0)), (1, zI a1), (2, zI a2), (3, zI a3), (4, zI a4)] [] μ 0 0 (F_State_perform a1 a2 a3 a4 μ) := by
  unfold F_State_perform
  refine AW.aload_n (i := 0) (a := 0) (by decide +kernel) rfl (?_ : AW _ _ _ _ 1 _ _ _ _ _ _)
  refine AW.lconst0 (by decide +kernel) (?_ : AW _ _ _ _ 2 _ _ _ _ _ _)
  refine AW.putlL (idx := 75) (ci := 5) (k := 4) (r := 0) (by decide +kernel) rfl rfl rfl (fun μ1 => (?_ : AW _ _ _ _ 5 _ _ _ _ _ _))
  refine AW.aload_n (i := 0) (a := 0) (by decide +kernel) rfl (?_ : AW _ _ _ _ 6 _ _ _ _ _ _)
  refine AW.lconst0 (by decide +kernel) (?_ : AW _ _ _ _ 7 _ _ _ _ _ _)
  refine AW.putlL (idx := 79) (ci := 5) (k := 5) (r := 0) (by decide +kernel) rfl rfl rfl (fun μ2 => (?_ : AW _ _ _ _ 10 _ _ _ _ _ _))
  refine AW.iload_n (i := 1) (a := a1) (by decide +kernel) rfl (?_ : AW _ _ _ _ 11 _ _ _ _ _ _)
  refine AW.tswC (dflt := 200) (lo := 0) (hi := 7) (offs := #[45, 83, 83, 138, 149, 177, 200, 187]) (len := 45) (k := 0) (off := 45) (tgt := 56) (by decide +kernel) (by decide) (by decide) rfl (by decide) (fun _ => ?_) (fun h3 => ?_)
  · refine AW.aload_n (i := 0) (a := 0) (by decide +kernel) rfl (?_ : AW _ _ _ _ 57 _ _ _ _ _ _)
    refine AW.getR (idx := 21) (ci := 5) (k := 1) (r := 0) (by decide +kernel) rfl rfl rfl (?_ : AW _ _ _ _ 60 _ _ _ _ _ _)
    refine AW.iload_n (i := 2) (a := a2) (by decide +kernel) rfl (?_ : AW _ _ _ _ 61 _ _ _ _ _ _)
    refine AW.callVm (g := cf_Register_weighUncalled) (Sg := S_Register2) (pl := [7, 8, 9, 10, 11, 12, 13, 14, 15]) (av := [zI a2]) (b0 := 0) (ci := 4) (idx := 82) (n := 1) (st := []) (by decide +kernel) (fun l hl r hr => c_Register_weighUncalled l hl a2 _ r hr) sb_16 rfl cal_Register_weighUncalled rfl (zw4 zm_X5_82 zi_yX4_weighUncalled zs_yX4_weighUncalled zn_X4) rfl rfl ⟨by decide, by decide, by decide, by decide⟩ (Nat.le_of_ble_eq_true rfl) (Or.inl rfl) (fun v μ4 => AW.rV (?_ : AW _ _ _ _ 64 _ _ _ _ _ _) v)
    refine AW.aload_n (i := 0) (a := 0) (by decide +kernel) rfl (?_ : AW _ _ _ _ 65 _ _ _ _ _ _)
    refine AW.iload_n (i := 3) (a := a3) (by decide +kernel) rfl (?_ : AW _ _ _ _ 66 _ _ _ _ _ _)
    refine AW.i2l (by decide +kernel) (?_ : AW _ _ _ _ 67 _ _ _ _ _ _)
    refine AW.callVw (g := cf_State_takeIn) (av := [zJ (w32 a3)]) (b0 := 0) (ci := 5) (idx := 86) (n := 1) (st := []) (by decide +kernel) (fun l hl r hr => c_State_takeIn l hl (w32 a3) _ r hr) S_State2_wf rfl cal_State_takeIn rfl (zw4 zm_X5_86 zi_yX5_takeIn zs_yX5_takeIn zn_X5) rfl rfl ⟨by decide, by decide, by decide, by decide⟩ (Nat.le_of_ble_eq_true rfl) (Or.inl rfl) (fun v μ6 => AW.kV (?_ : AW _ _ _ _ 70 _ _ _ _ _ _) v)
    refine AW.aload_n (i := 0) (a := 0) (by decide +kernel) rfl (?_ : AW _ _ _ _ 71 _ _ _ _ _ _)
    refine AW.getR (idx := 12) (ci := 5) (k := 0) (r := 0) (by decide +kernel) rfl rfl rfl (?_ : AW _ _ _ _ 74 _ _ _ _ _ _)
    refine AW.iload_n (i := 2) (a := a2) (by decide +kernel) rfl (?_ : AW _ _ _ _ 75 _ _ _ _ _ _)
    refine AW.iload_n (i := 3) (a := a3) (by decide +kernel) rfl (?_ : AW _ _ _ _ 76 _ _ _ _ _ _)
    refine AW.callVm (g := cf_Books_raise) (Sg := S_Books3) (pl := [1, 2, 3, 4, 5, 6]) (av := [zI a2, zI a3]) (b0 := 0) (ci := 0) (idx := 90) (n := 2) (st := []) (by decide +kernel) (fun l hl r hr => c_Books_raise l hl a2 a3 _ r hr) sb_15 rfl cal_Books_raise rfl (zw4 zm_X5_90 zi_yX0_raise zs_yX0_raise zn_X0) rfl rfl ⟨by decide, by decide, by decide, by decide⟩ (Nat.le_of_ble_eq_true rfl) (Or.inl rfl) (fun v μ8 => AW.rV (?_ : AW _ _ _ _ 79 _ _ _ _ _ _) v)
    refine AW.aload_n (i := 0) (a := 0) (by decide +kernel) rfl (?_ : AW _ _ _ _ 80 _ _ _ _ _ _)
    refine AW.getR (idx := 21) (ci := 5) (k := 1) (r := 0) (by decide +kernel) rfl rfl rfl (?_ : AW _ _ _ _ 83 _ _ _ _ _ _)
    refine AW.aload_n (i := 0) (a := 0) (by decide +kernel) rfl (?_ : AW _ _ _ _ 84 _ _ _ _ _ _)
    refine AW.getR (idx := 21) (ci := 5) (k := 1) (r := 0) (by decide +kernel) rfl rfl rfl (?_ : AW _ _ _ _ 87 _ _ _ _ _ _)
    refine AW.getR (idx := 94) (ci := 4) (k := 1) (r := 7) (by decide +kernel) rfl rfl rfl (?_ : AW _ _ _ _ 90 _ _ _ _ _ _)
    refine AW.callVm (g := cf_Register_allOf_2) (Sg := S_Register2) (pl := [7, 8, 9, 10, 11, 12, 13, 14, 15]) (av := [zR (some 2)]) (b0 := 0) (ci := 4) (idx := 98) (n := 1) (st := []) (by decide +kernel) (fun l hl r hr => c_Register_allOf_2 l hl  _ r hr) sb_16 rfl cal_Register_allOf_2 rfl (zw4 zm_X5_98 zi_yX4_allOf zs_yX4_allOf zn_X4) rfl rfl ⟨by decide, by decide, by decide, by decide⟩ (Nat.le_of_ble_eq_true rfl) (Or.inl rfl) (fun v μ10 => AW.rJ (fun x11 => (?_ : AW _ _ _ _ 93 _ _ _ _ _ _)) v)
    exact AW.retl (by decide +kernel) rfl (by decide) (by decide)
  refine AW.tswC (dflt := 200) (lo := 0) (hi := 7) (offs := #[45, 83, 83, 138, 149, 177, 200, 187]) (len := 45) (k := 1) (off := 83) (tgt := 94) (by decide +kernel) (by decide) (by decide) rfl (by decide) (fun _ => ?_) (fun h12 => ?_)
  · refine AW.aload_n (i := 0) (a := 0) (by decide +kernel) rfl (?_ : AW _ _ _ _ 95 _ _ _ _ _ _)
    refine AW.getR (idx := 12) (ci := 5) (k := 0) (r := 0) (by decide +kernel) rfl rfl rfl (?_ : AW _ _ _ _ 98 _ _ _ _ _ _)
    refine AW.iload_n (i := 2) (a := a2) (by decide +kernel) rfl (?_ : AW _ _ _ _ 99 _ _ _ _ _ _)
    refine AW.iload_n (i := 3) (a := a3) (by decide +kernel) rfl (?_ : AW _ _ _ _ 100 _ _ _ _ _ _)
    refine AW.iload_n (i := 1) (a := a1) (by decide +kernel) rfl (?_ : AW _ _ _ _ 101 _ _ _ _ _ _)
    refine AW.iconst (n := 2) (by decide +kernel) (?_ : AW _ _ _ _ 102 _ _ _ _ _ _)
    refine AW.icmp_ne (off := 7) (tgt := 109) (by decide +kernel) (by decide) (fun _ => ?_) (fun _ => ?_)
    · refine AW.iconst (n := 1) (by decide +kernel) (?_ : AW _ _ _ _ 106 _ _ _ _ _ _)
      refine AW.goto (off := 4) (tgt := 110) (by decide +kernel) (by decide) ?_
      refine AW.sub (L' := [(0, zR (some 0)), (2, zI a2)]) [0, 2] rfl ?_
      exact j_State_perform_110 a2 1 a3 a2 μ2
    · refine AW.iconst (n := 0) (by decide +kernel) (?_ : AW _ _ _ _ 110 _ _ _ _ _ _)
      refine AW.sub (L' := [(0, zR (some 0)), (2, zI a2)]) [0, 2] rfl ?_
      exact j_State_perform_110 a2 0 a3 a2 μ2
  refine AW.tswC (dflt := 200) (lo := 0) (hi := 7) (offs := #[45, 83, 83, 138, 149, 177, 200, 187]) (len := 45) (k := 2) (off := 83) (tgt := 94) (by decide +kernel) (by decide) (by decide) rfl (by decide) (fun _ => ?_) (fun h21 => ?_)
  · refine AW.aload_n (i := 0) (a := 0) (by decide +kernel) rfl (?_ : AW _ _ _ _ 95 _ _ _ _ _ _)
    refine AW.getR (idx := 12) (ci := 5) (k := 0) (r := 0) (by decide +kernel) rfl rfl rfl (?_ : AW _ _ _ _ 98 _ _ _ _ _ _)
    refine AW.iload_n (i := 2) (a := a2) (by decide +kernel) rfl (?_ : AW _ _ _ _ 99 _ _ _ _ _ _)
    refine AW.iload_n (i := 3) (a := a3) (by decide +kernel) rfl (?_ : AW _ _ _ _ 100 _ _ _ _ _ _)
    refine AW.iload_n (i := 1) (a := a1) (by decide +kernel) rfl (?_ : AW _ _ _ _ 101 _ _ _ _ _ _)
    refine AW.iconst (n := 2) (by decide +kernel) (?_ : AW _ _ _ _ 102 _ _ _ _ _ _)
    refine AW.icmp_ne (off := 7) (tgt := 109) (by decide +kernel) (by decide) (fun _ => ?_) (fun _ => ?_)
    · refine AW.iconst (n := 1) (by decide +kernel) (?_ : AW _ _ _ _ 106 _ _ _ _ _ _)
      refine AW.goto (off := 4) (tgt := 110) (by decide +kernel) (by decide) ?_
      refine AW.sub (L' := [(0, zR (some 0)), (2, zI a2)]) [0, 2] rfl ?_
      exact j_State_perform_110 a2 1 a3 a2 μ2
    · refine AW.iconst (n := 0) (by decide +kernel) (?_ : AW _ _ _ _ 110 _ _ _ _ _ _)
      refine AW.sub (L' := [(0, zR (some 0)), (2, zI a2)]) [0, 2] rfl ?_
      exact j_State_perform_110 a2 0 a3 a2 μ2
  refine AW.tswC (dflt := 200) (lo := 0) (hi := 7) (offs := #[45, 83, 83, 138, 149, 177, 200, 187]) (len := 45) (k := 3) (off := 138) (tgt := 149) (by decide +kernel) (by decide) (by decide) rfl (by decide) (fun _ => ?_) (fun h22 => ?_)
  · refine AW.aload_n (i := 0) (a := 0) (by decide +kernel) rfl (?_ : AW _ _ _ _ 150 _ _ _ _ _ _)
    refine AW.getR (idx := 12) (ci := 5) (k := 0) (r := 0) (by decide +kernel) rfl rfl rfl (?_ : AW _ _ _ _ 153 _ _ _ _ _ _)
    refine AW.iload_n (i := 2) (a := a2) (by decide +kernel) rfl (?_ : AW _ _ _ _ 154 _ _ _ _ _ _)
    refine AW.iload_n (i := 3) (a := a3) (by decide +kernel) rfl (?_ : AW _ _ _ _ 155 _ _ _ _ _ _)
    refine AW.callVm (g := cf_Books_remark) (Sg := S_Books3) (pl := [1, 2, 3, 4, 5, 6]) (av := [zI a2, zI a3]) (b0 := 0) (ci := 0) (idx := 113) (n := 2) (st := []) (by decide +kernel) (fun l hl r hr => c_Books_remark l hl a2 a3 _ r hr) sb_15 rfl cal_Books_remark rfl (zw4 zm_X5_113 zi_yX0_remark zs_yX0_remark zn_X0) rfl rfl ⟨by decide, by decide, by decide, by decide⟩ (Nat.le_of_ble_eq_true rfl) (Or.inl rfl) (fun v μ23 => AW.rI (fun x24 => (?_ : AW _ _ _ _ 158 _ _ _ _ _ _)) v)
    refine AW.i2l (by decide +kernel) (?_ : AW _ _ _ _ 159 _ _ _ _ _ _)
    exact AW.retl (by decide +kernel) rfl (by decide) (by decide)
  refine AW.tswC (dflt := 200) (lo := 0) (hi := 7) (offs := #[45, 83, 83, 138, 149, 177, 200, 187]) (len := 45) (k := 4) (off := 149) (tgt := 160) (by decide +kernel) (by decide) (by decide) rfl (by decide) (fun _ => ?_) (fun h25 => ?_)
  · refine AW.iconst (n := 0) (by decide +kernel) (?_ : AW _ _ _ _ 161 _ _ _ _ _ _)
    refine AW.istore' (i := 5) (L' := [(5, zI 0), (0, zR (some 0)), (1, zI a1), (2, zI a2), (3, zI a3), (4, zI a4)]) (by decide +kernel) (by decide) rfl (?_ : AW _ _ _ _ 163 _ _ _ _ _ _)
    refine AW.sub (L' := [(0, zR (some 0)), (3, zI a3), (5, zI 0)]) [1, 4, 0] rfl ?_
    refine l_State_perform_163 (fun μ29 => ?_) zN _ _
    refine AW.aload_n (i := 0) (a := 0) (by decide +kernel) rfl (?_ : AW _ _ _ _ 180 _ _ _ _ _ _)
    refine AW.getR (idx := 12) (ci := 5) (k := 0) (r := 0) (by decide +kernel) rfl rfl rfl (?_ : AW _ _ _ _ 183 _ _ _ _ _ _)
    refine AW.getI (idx := 61) (ci := 0) (k := 6) (r := 1) (by decide +kernel) rfl rfl rfl (?_ : AW _ _ _ _ 186 _ _ _ _ _ _)
    refine AW.i2l (by decide +kernel) (?_ : AW _ _ _ _ 187 _ _ _ _ _ _)
    exact AW.retl (by decide +kernel) rfl (by decide) (by decide)
  refine AW.tswC (dflt := 200) (lo := 0) (hi := 7) (offs := #[45, 83, 83, 138, 149, 177, 200, 187]) (len := 45) (k := 5) (off := 177) (tgt := 188) (by decide +kernel) (by decide) (by decide) rfl (by decide) (fun _ => ?_) (fun h30 => ?_)
  · refine AW.aload_n (i := 0) (a := 0) (by decide +kernel) rfl (?_ : AW _ _ _ _ 189 _ _ _ _ _ _)
    refine AW.getR (idx := 21) (ci := 5) (k := 1) (r := 0) (by decide +kernel) rfl rfl rfl (?_ : AW _ _ _ _ 192 _ _ _ _ _ _)
    refine AW.iload_n (i := 2) (a := a2) (by decide +kernel) rfl (?_ : AW _ _ _ _ 193 _ _ _ _ _ _)
    refine AW.callVm (g := cf_Register_setFailed) (Sg := S_Register2) (pl := [7, 8, 9, 10, 11, 12, 13, 14, 15]) (av := [zI a2]) (b0 := 0) (ci := 4) (idx := 120) (n := 1) (st := []) (by decide +kernel) (fun l hl r hr => c_Register_setFailed l hl a2 _ r hr) sb_16 rfl cal_Register_setFailed rfl (zw4 zm_X5_120 zi_yX4_setFailed zs_yX4_setFailed zn_X4) rfl rfl ⟨by decide, by decide, by decide, by decide⟩ (Nat.le_of_ble_eq_true rfl) (Or.inl rfl) (fun v μ31 => AW.rI (fun x32 => (?_ : AW _ _ _ _ 196 _ _ _ _ _ _)) v)
    refine AW.i2l (by decide +kernel) (?_ : AW _ _ _ _ 197 _ _ _ _ _ _)
    exact AW.retl (by decide +kernel) rfl (by decide) (by decide)
  refine AW.tswC (dflt := 200) (lo := 0) (hi := 7) (offs := #[45, 83, 83, 138, 149, 177, 200, 187]) (len := 45) (k := 6) (off := 200) (tgt := 211) (by decide +kernel) (by decide) (by decide) rfl (by decide) (fun _ => ?_) (fun h33 => ?_)
  · refine AW.aload_n (i := 0) (a := 0) (by decide +kernel) rfl (?_ : AW _ _ _ _ 212 _ _ _ _ _ _)
    refine AW.aload_n (i := 0) (a := 0) (by decide +kernel) rfl (?_ : AW _ _ _ _ 213 _ _ _ _ _ _)
    refine AW.getR (idx := 12) (ci := 5) (k := 0) (r := 0) (by decide +kernel) rfl rfl rfl (?_ : AW _ _ _ _ 216 _ _ _ _ _ _)
    refine AW.callVm (g := cf_Books_settle) (Sg := S_Books3) (pl := [1, 2, 3, 4, 5, 6]) (av := []) (b0 := 0) (ci := 0) (idx := 128) (n := 0) (st := [zR (some 0)]) (by decide +kernel) (fun l hl r hr => c_Books_settle l hl  _ r hr) sb_15 rfl cal_Books_settle rfl (zw4 zm_X5_128 zi_yX0_settle zs_yX0_settle zn_X0) rfl rfl ⟨by decide, by decide, by decide, by decide⟩ (Nat.le_of_ble_eq_true rfl) (Or.inl rfl) (fun v μ34 => AW.rJ (fun x35 => (?_ : AW _ _ _ _ 219 _ _ _ _ _ _)) v)
    refine AW.putlL (idx := 75) (ci := 5) (k := 4) (r := 0) (by decide +kernel) rfl rfl rfl (fun μ36 => (?_ : AW _ _ _ _ 222 _ _ _ _ _ _))
    refine AW.aload_n (i := 0) (a := 0) (by decide +kernel) rfl (?_ : AW _ _ _ _ 223 _ _ _ _ _ _)
    refine AW.iconst (n := -1) (by decide +kernel) (?_ : AW _ _ _ _ 224 _ _ _ _ _ _)
    refine AW.callVw (g := cf_State_handOut) (av := [zI (-1)]) (b0 := 0) (ci := 5) (idx := 110) (n := 1) (st := []) (by decide +kernel) (fun l hl r hr => c_State_handOut l hl (-1) _ r hr) S_State2_wf rfl cal_State_handOut rfl (zw4 zm_X5_110 zi_yX5_handOut zs_yX5_handOut zn_X5) rfl rfl ⟨by decide, by decide, by decide, by decide⟩ (Nat.le_of_ble_eq_true rfl) (Or.inl rfl) (fun v μ37 => AW.kV (?_ : AW _ _ _ _ 227 _ _ _ _ _ _) v)
    refine AW.aload_n (i := 0) (a := 0) (by decide +kernel) rfl (?_ : AW _ _ _ _ 228 _ _ _ _ _ _)
    refine AW.getJ (idx := 75) (ci := 5) (k := 4) (r := 0) (by decide +kernel) rfl rfl rfl (?_ : AW _ _ _ _ 231 _ _ _ _ _ _)
    exact AW.retl (by decide +kernel) rfl (by decide) (by decide)
  refine AW.tswC (dflt := 200) (lo := 0) (hi := 7) (offs := #[45, 83, 83, 138, 149, 177, 200, 187]) (len := 45) (k := 7) (off := 187) (tgt := 198) (by decide +kernel) (by decide) (by decide) rfl (by decide) (fun _ => ?_) (fun h39 => ?_)
  · refine AW.aload_n (i := 0) (a := 0) (by decide +kernel) rfl (?_ : AW _ _ _ _ 199 _ _ _ _ _ _)
    refine AW.getR (idx := 21) (ci := 5) (k := 1) (r := 0) (by decide +kernel) rfl rfl rfl (?_ : AW _ _ _ _ 202 _ _ _ _ _ _)
    refine AW.iload_n (i := 2) (a := a2) (by decide +kernel) rfl (?_ : AW _ _ _ _ 203 _ _ _ _ _ _)
    refine AW.iload (i := 4) (a := a4) (by decide +kernel) rfl (?_ : AW _ _ _ _ 205 _ _ _ _ _ _)
    refine AW.iload_n (i := 3) (a := a3) (by decide +kernel) rfl (?_ : AW _ _ _ _ 206 _ _ _ _ _ _)
    refine AW.callVm (g := cf_Register_handOver) (Sg := S_Register2) (pl := [7, 8, 9, 10, 11, 12, 13, 14, 15]) (av := [zI a2, zI a4, zI a3]) (b0 := 0) (ci := 4) (idx := 124) (n := 3) (st := []) (by decide +kernel) (fun l hl r hr => c_Register_handOver l hl a2 a4 a3 _ r hr) sb_16 rfl cal_Register_handOver rfl (zw4 zm_X5_124 zi_yX4_handOver zs_yX4_handOver zn_X4) rfl rfl ⟨by decide, by decide, by decide, by decide⟩ (Nat.le_of_ble_eq_true rfl) (Or.inl rfl) (fun v μ40 => AW.rI (fun x41 => (?_ : AW _ _ _ _ 209 _ _ _ _ _ _)) v)
    refine AW.i2l (by decide +kernel) (?_ : AW _ _ _ _ 210 _ _ _ _ _ _)
    exact AW.retl (by decide +kernel) rfl (by decide) (by decide)
  refine AW.tswD (dflt := 200) (lo := 0) (hi := 7) (offs := #[45, 83, 83, 138, 149, 177, 200, 187]) (len := 45) (tgt := 211) (by decide +kernel) (by omega) (by decide) ?_
  refine AW.aload_n (i := 0) (a := 0) (by decide +kernel) rfl (?_ : AW _ _ _ _ 212 _ _ _ _ _ _)
  refine AW.aload_n (i := 0) (a := 0) (by decide +kernel) rfl (?_ : AW _ _ _ _ 213 _ _ _ _ _ _)
  refine AW.getR (idx := 12) (ci := 5) (k := 0) (r := 0) (by decide +kernel) rfl rfl rfl (?_ : AW _ _ _ _ 216 _ _ _ _ _ _)
  refine AW.callVm (g := cf_Books_settle) (Sg := S_Books3) (pl := [1, 2, 3, 4, 5, 6]) (av := []) (b0 := 0) (ci := 0) (idx := 128) (n := 0) (st := [zR (some 0)]) (by decide +kernel) (fun l hl r hr => c_Books_settle l hl  _ r hr) sb_15 rfl cal_Books_settle rfl (zw4 zm_X5_128 zi_yX0_settle zs_yX0_settle zn_X0) rfl rfl ⟨by decide, by decide, by decide, by decide⟩ (Nat.le_of_ble_eq_true rfl) (Or.inl rfl) (fun v μ42 => AW.rJ (fun x43 => (?_ : AW _ _ _ _ 219 _ _ _ _ _ _)) v)
  refine AW.putlL (idx := 75) (ci := 5) (k := 4) (r := 0) (by decide +kernel) rfl rfl rfl (fun μ44 => (?_ : AW _ _ _ _ 222 _ _ _ _ _ _))
  refine AW.aload_n (i := 0) (a := 0) (by decide +kernel) rfl (?_ : AW _ _ _ _ 223 _ _ _ _ _ _)
  refine AW.iconst (n := -1) (by decide +kernel) (?_ : AW _ _ _ _ 224 _ _ _ _ _ _)
  refine AW.callVw (g := cf_State_handOut) (av := [zI (-1)]) (b0 := 0) (ci := 5) (idx := 110) (n := 1) (st := []) (by decide +kernel) (fun l hl r hr => c_State_handOut l hl (-1) _ r hr) S_State2_wf rfl cal_State_handOut rfl (zw4 zm_X5_110 zi_yX5_handOut zs_yX5_handOut zn_X5) rfl rfl ⟨by decide, by decide, by decide, by decide⟩ (Nat.le_of_ble_eq_true rfl) (Or.inl rfl) (fun v μ45 => AW.kV (?_ : AW _ _ _ _ 227 _ _ _ _ _ _) v)
  refine AW.aload_n (i := 0) (a := 0) (by decide +kernel) rfl (?_ : AW _ _ _ _ 228 _ _ _ _ _ _)
  refine AW.getJ (idx := 75) (ci := 5) (k := 4) (r := 0) (by decide +kernel) rfl rfl rfl (?_ : AW _ _ _ _ 231 _ _ _ _ _ _)
  exact AW.retl (by decide +kernel) rfl (by decide) (by decide)
theorem c_State_perform (l : Launch) (hl : l.stackTraces = false) (a1 : Int) (a2 : Int) (a3 : Int) (a4 : Int) (μ : ZMem) (r : ZRes) (h : F_State_perform a1 a2 a3 a4 μ = some r) : ZC l cf_State_perform S_State2 S_State2 [zR (some 0), zI a1, zI a2, zI a3, zI a4] μ r := ZC.of hl (by decide +kernel) rfl rfl zft_X5_ok (Nat.le_of_ble_eq_true rfl) h (w_State_perform a1 a2 a3 a4 μ)
def S_State3 : List ZSh := [.inl (5, [(2, some 1), (2, some 7), (3, none), (2, some 16), (1, none), (1, none)]), .inl (0, [(2, some 2), (2, some 3), (2, some 4), (2, some 5), (2, some 6), (0, none), (0, none), (3, none)]), .inr (0, 7, []), .inr (1, 32, []), .inr (0, 24, []), .inr (1, 4, []), .inr (1, 6, []), .inl (4, [(2, some 8), (2, some 9), (2, some 10), (2, some 11), (2, some 12), (2, some 13), (2, some 14), (2, some 15), (0, none), (0, none), (1, none)]), .inr (0, 6, []), .inr (0, 6, []), .inr (0, 6, []), .inr (1, 6, []), .inr (0, 6, []), .inr (1, 6, []), .inr (1, 6, []), .inr (1, 6, []), .inl (7, [(2, some 17), (2, some 18)]), .inr (1, 1407, []), .inr (1, 201, []), .inl (2, [(2, some 20), (0, none)]), .inr (0, 420, [])]
theorem S_State3_wf : zWfS S_State3.length S_State3 = true ∧ Nat.ble S_State3.length 1000 = true := ⟨by decide +kernel, rfl⟩
theorem sb_18 : zSub S_State3 [0, 1, 2, 3, 4, 5, 6, 7, 8, 9, 10, 11, 12, 13, 14, 15, 16, 17, 18] S_State2 := ⟨rfl, by decide +kernel, by decide +kernel, rfl⟩
/-! WeirLedger$State.follow(LWeirLedger$Journal;I)Z -/
def cf_State_follow : ZCf := (yX5_follow, cX5_follow, 9, some .boolean, [], 6, 0, 0, zft_X5, none)
theorem cal_State_follow : zCallee cf_State_follow 2 := ⟨rfl, zc_yX5_follow, by decide, by decide, by decide +kernel⟩
def F_State_follow (a2 : Int) (μ : ZMem) : Option ZRes := zLet ((a2 * 7)) (fun x1 => zRd μ 20 420 (x1 + 0) (fun x2 => zRd μ 20 420 (x1 + 1) (fun x3 => zRd μ 20 420 (x1 + 2) (fun x4 => zRd μ 20 420 (x1 + 4) (fun x5 => zCm [0, 1, 2, 3, 4, 5, 6, 7, 8, 9, 10, 11, 12, 13, 14, 15, 16, 17, 18] μ (F_State_canBe x2 x3 x4 x5 (zVw [0, 1, 2, 3, 4, 5, 6, 7, 8, 9, 10, 11, 12, 13, 14, 15, 16, 17, 18] μ)) (zkI (fun x7 μ6 => if w32 x7 = 0 then (if x7 = 0 ∨ x7 = 1 then some (.inr (some (zI x7)), μ6) else none) else (zCm [0, 1, 2, 3, 4, 5, 6, 7, 8, 9, 10, 11, 12, 13, 14, 15, 16, 17, 18] μ6 (F_State_perform x2 x3 x4 x5 (zVw [0, 1, 2, 3, 4, 5, 6, 7, 8, 9, 10, 11, 12, 13, 14, 15, 16, 17, 18] μ6)) (zkJ (fun x9 μ8 => if x7 = 0 ∨ x7 = 1 then some (.inr (some (zI x7)), μ8) else none)) zX0))) zX0)))))
set_option maxRecDepth 100000 in
theorem w_State_follow (a2 : Int) (μ : ZMem) : AW cf_State_follow S_State3.length S_State3 S_State3 0 [(0, zR (some 0)), (1, zR (some 19)), (2, zI a2)] [] μ 0 0 (F_State_follow a2 μ) := by
  unfold F_State_follow
  refine AW.iload_n (i := 2) (a := a2) (by decide +kernel) rfl (?_ : AW _ _ _ _ 1 _ _ _ _ _ _)
  refine AW.bipush (n := 7) (by decide +kernel) (by decide +kernel) (?_ : AW _ _ _ _ 3 _ _ _ _ _ _)
  refine AW.imul (by decide +kernel) (?_ : AW _ _ _ _ 4 _ _ _ _ _ _)
  refine AW.istoreL_n (i := 3) (L' := fun x1 => [(3, zI x1), (0, zR (some 0)), (1, zR (some 19)), (2, zI a2)]) (by decide +kernel) (by decide) (fun _ => rfl) (fun x1 => (?_ : AW _ _ _ _ 5 _ _ _ _ _ _))
  refine AW.aload_n (i := 1) (a := 19) (by decide +kernel) rfl (?_ : AW _ _ _ _ 6 _ _ _ _ _ _)
  refine AW.getR (idx := 132) (ci := 2) (k := 0) (r := 19) (by decide +kernel) rfl rfl rfl (?_ : AW _ _ _ _ 9 _ _ _ _ _ _)
  refine AW.iload_n (i := 3) (a := x1) (by decide +kernel) rfl (?_ : AW _ _ _ _ 10 _ _ _ _ _ _)
  refine AW.iconst (n := 0) (by decide +kernel) (?_ : AW _ _ _ _ 11 _ _ _ _ _ _)
  refine AW.iadd (by decide +kernel) (?_ : AW _ _ _ _ 12 _ _ _ _ _ _)
  refine AW.iald (r := 20) (by decide +kernel) rfl (fun x2 => (?_ : AW _ _ _ _ 13 _ _ _ _ _ _))
  refine AW.istore' (i := 4) (L' := [(4, zI x2), (3, zI x1), (0, zR (some 0)), (1, zR (some 19)), (2, zI a2)]) (by decide +kernel) (by decide) rfl (?_ : AW _ _ _ _ 15 _ _ _ _ _ _)
  refine AW.aload_n (i := 1) (a := 19) (by decide +kernel) rfl (?_ : AW _ _ _ _ 16 _ _ _ _ _ _)
  refine AW.getR (idx := 132) (ci := 2) (k := 0) (r := 19) (by decide +kernel) rfl rfl rfl (?_ : AW _ _ _ _ 19 _ _ _ _ _ _)
  refine AW.iload_n (i := 3) (a := x1) (by decide +kernel) rfl (?_ : AW _ _ _ _ 20 _ _ _ _ _ _)
  refine AW.iconst (n := 1) (by decide +kernel) (?_ : AW _ _ _ _ 21 _ _ _ _ _ _)
  refine AW.iadd (by decide +kernel) (?_ : AW _ _ _ _ 22 _ _ _ _ _ _)
  refine AW.iald (r := 20) (by decide +kernel) rfl (fun x3 => (?_ : AW _ _ _ _ 23 _ _ _ _ _ _))
  refine AW.istore' (i := 5) (L' := [(5, zI x3), (4, zI x2), (3, zI x1), (0, zR (some 0)), (1, zR (some 19)), (2, zI a2)]) (by decide +kernel) (by decide) rfl (?_ : AW _ _ _ _ 25 _ _ _ _ _ _)
  refine AW.aload_n (i := 1) (a := 19) (by decide +kernel) rfl (?_ : AW _ _ _ _ 26 _ _ _ _ _ _)
  refine AW.getR (idx := 132) (ci := 2) (k := 0) (r := 19) (by decide +kernel) rfl rfl rfl (?_ : AW _ _ _ _ 29 _ _ _ _ _ _)
  refine AW.iload_n (i := 3) (a := x1) (by decide +kernel) rfl (?_ : AW _ _ _ _ 30 _ _ _ _ _ _)
  refine AW.iconst (n := 2) (by decide +kernel) (?_ : AW _ _ _ _ 31 _ _ _ _ _ _)
  refine AW.iadd (by decide +kernel) (?_ : AW _ _ _ _ 32 _ _ _ _ _ _)
  refine AW.iald (r := 20) (by decide +kernel) rfl (fun x4 => (?_ : AW _ _ _ _ 33 _ _ _ _ _ _))
  refine AW.istore' (i := 6) (L' := [(6, zI x4), (5, zI x3), (4, zI x2), (3, zI x1), (0, zR (some 0)), (1, zR (some 19)), (2, zI a2)]) (by decide +kernel) (by decide) rfl (?_ : AW _ _ _ _ 35 _ _ _ _ _ _)
  refine AW.aload_n (i := 1) (a := 19) (by decide +kernel) rfl (?_ : AW _ _ _ _ 36 _ _ _ _ _ _)
  refine AW.getR (idx := 132) (ci := 2) (k := 0) (r := 19) (by decide +kernel) rfl rfl rfl (?_ : AW _ _ _ _ 39 _ _ _ _ _ _)
  refine AW.iload_n (i := 3) (a := x1) (by decide +kernel) rfl (?_ : AW _ _ _ _ 40 _ _ _ _ _ _)
  refine AW.iconst (n := 4) (by decide +kernel) (?_ : AW _ _ _ _ 41 _ _ _ _ _ _)
  refine AW.iadd (by decide +kernel) (?_ : AW _ _ _ _ 42 _ _ _ _ _ _)
  refine AW.iald (r := 20) (by decide +kernel) rfl (fun x5 => (?_ : AW _ _ _ _ 43 _ _ _ _ _ _))
  refine AW.istore' (i := 7) (L' := [(7, zI x5), (6, zI x4), (5, zI x3), (4, zI x2), (3, zI x1), (0, zR (some 0)), (1, zR (some 19)), (2, zI a2)]) (by decide +kernel) (by decide) rfl (?_ : AW _ _ _ _ 45 _ _ _ _ _ _)
  refine AW.aload_n (i := 0) (a := 0) (by decide +kernel) rfl (?_ : AW _ _ _ _ 46 _ _ _ _ _ _)
  refine AW.iload (i := 4) (a := x2) (by decide +kernel) rfl (?_ : AW _ _ _ _ 48 _ _ _ _ _ _)
  refine AW.iload (i := 5) (a := x3) (by decide +kernel) rfl (?_ : AW _ _ _ _ 50 _ _ _ _ _ _)
  refine AW.iload (i := 6) (a := x4) (by decide +kernel) rfl (?_ : AW _ _ _ _ 52 _ _ _ _ _ _)
  refine AW.iload (i := 7) (a := x5) (by decide +kernel) rfl (?_ : AW _ _ _ _ 54 _ _ _ _ _ _)
  refine AW.callVm (g := cf_State_canBe) (Sg := S_State2) (pl := [0, 1, 2, 3, 4, 5, 6, 7, 8, 9, 10, 11, 12, 13, 14, 15, 16, 17, 18]) (av := [zI x2, zI x3, zI x4, zI x5]) (b0 := 0) (ci := 5) (idx := 137) (n := 4) (st := []) (by decide +kernel) (fun l hl r hr => c_State_canBe l hl x2 x3 x4 x5 _ r hr) sb_18 rfl cal_State_canBe rfl (zw4 zm_X5_137 zi_yX5_canBe zs_yX5_canBe zn_X5) rfl rfl ⟨by decide, by decide, by decide, by decide⟩ (Nat.le_of_ble_eq_true rfl) (Or.inl rfl) (fun v μ6 => AW.rI (fun x7 => (?_ : AW _ _ _ _ 57 _ _ _ _ _ _)) v)
  refine AW.istore' (i := 8) (L' := [(8, zI x7), (7, zI x5), (6, zI x4), (5, zI x3), (4, zI x2), (3, zI x1), (0, zR (some 0)), (1, zR (some 19)), (2, zI a2)]) (by decide +kernel) (by decide) rfl (?_ : AW _ _ _ _ 59 _ _ _ _ _ _)
  refine AW.iload (i := 8) (a := x7) (by decide +kernel) rfl (?_ : AW _ _ _ _ 61 _ _ _ _ _ _)
  refine AW.if_eq (off := 16) (tgt := 77) (by decide +kernel) (by decide) (fun _ => ?_) (fun _ => ?_)
  · refine AW.iload (i := 8) (a := x7) (by decide +kernel) rfl (?_ : AW _ _ _ _ 79 _ _ _ _ _ _)
    exact AW.retb (by decide +kernel) rfl (by decide) (by decide)
  · refine AW.aload_n (i := 0) (a := 0) (by decide +kernel) rfl (?_ : AW _ _ _ _ 65 _ _ _ _ _ _)
    refine AW.iload (i := 4) (a := x2) (by decide +kernel) rfl (?_ : AW _ _ _ _ 67 _ _ _ _ _ _)
    refine AW.iload (i := 5) (a := x3) (by decide +kernel) rfl (?_ : AW _ _ _ _ 69 _ _ _ _ _ _)
    refine AW.iload (i := 6) (a := x4) (by decide +kernel) rfl (?_ : AW _ _ _ _ 71 _ _ _ _ _ _)
    refine AW.iload (i := 7) (a := x5) (by decide +kernel) rfl (?_ : AW _ _ _ _ 73 _ _ _ _ _ _)
    refine AW.callVm (g := cf_State_perform) (Sg := S_State2) (pl := [0, 1, 2, 3, 4, 5, 6, 7, 8, 9, 10, 11, 12, 13, 14, 15, 16, 17, 18]) (av := [zI x2, zI x3, zI x4, zI x5]) (b0 := 0) (ci := 5) (idx := 141) (n := 4) (st := []) (by decide +kernel) (fun l hl r hr => c_State_perform l hl x2 x3 x4 x5 _ r hr) sb_18 rfl cal_State_perform rfl (zw4 zm_X5_141 zi_yX5_perform zs_yX5_perform zn_X5) rfl rfl ⟨by decide, by decide, by decide, by decide⟩ (Nat.le_of_ble_eq_true rfl) (Or.inl rfl) (fun v μ8 => AW.rJ (fun x9 => (?_ : AW _ _ _ _ 76 _ _ _ _ _ _)) v)
    refine AW.pop2 (by decide +kernel) rfl (?_ : AW _ _ _ _ 77 _ _ _ _ _ _)
    refine AW.iload (i := 8) (a := x7) (by decide +kernel) rfl (?_ : AW _ _ _ _ 79 _ _ _ _ _ _)
    exact AW.retb (by decide +kernel) rfl (by decide) (by decide)
theorem c_State_follow (l : Launch) (hl : l.stackTraces = false) (a2 : Int) (μ : ZMem) (r : ZRes) (h : F_State_follow a2 μ = some r) : ZC l cf_State_follow S_State3 S_State3 [zR (some 0), zR (some 19), zI a2] μ r := ZC.of hl (by decide +kernel) rfl rfl zft_X5_ok (Nat.le_of_ble_eq_true rfl) h (w_State_follow a2 μ)
