def S_A10 : List ZSh := [.inl (8, [(2, some 1), (2, some 3), (2, some 7), (2, some 11), (2, some 13), (2, some 32), (2, some 51), (2, some 97), (2, some 103), (2, some 109), (2, some 113), (3, none)]), .inl (6, [(2, some 2), (0, none), (0, none), (0, none)]), .inr (0, 400, []), .inl (1, [(2, some 4), (2, some 5), (2, some 6), (0, none), (0, none), (3, none)]), .inr (0, 7, []), .inr (0, 6, []), .inr (0, 6, []), .inl (1, [(2, some 8), (2, some 9), (2, some 10), (0, none), (0, none), (3, none)]), .inr (0, 7, []), .inr (0, 6, []), .inr (0, 6, []), .inl (2, [(2, some 12), (0, none)]), .inr (0, 420, []), .inl (5, [(2, some 14), (2, some 20), (3, none), (2, some 29), (1, none), (1, none)]), .inl (0, [(2, some 15), (2, some 16), (2, some 17), (2, some 18), (2, some 19), (0, none), (0, none), (3, none)]), .inr (0, 7, []), .inr (1, 32, []), .inr (0, 24, []), .inr (1, 4, []), .inr (1, 6, []), .inl (4, [(2, some 21), (2, some 22), (2, some 23), (2, some 24), (2, some 25), (2, some 26), (2, some 27), (2, some 28), (0, none), (0, none), (1, none)]), .inr (0, 6, []), .inr (0, 6, []), .inr (0, 6, []), .inr (1, 6, []), .inr (0, 6, []), .inr (1, 6, []), .inr (1, 6, []), .inr (1, 6, []), .inl (7, [(2, some 30), (2, some 31)]), .inr (1, 1407, []), .inr (1, 201, []), .inl (5, [(2, some 33), (2, some 39), (3, none), (2, some 48), (1, none), (1, none)]), .inl (0, [(2, some 34), (2, some 35), (2, some 36), (2, some 37), (2, some 38), (0, none), (0, none), (3, none)]), .inr (0, 7, []), .inr (1, 32, []), .inr (0, 24, []), .inr (1, 4, []), .inr (1, 6, []), .inl (4, [(2, some 40), (2, some 41), (2, some 42), (2, some 43), (2, some 44), (2, some 45), (2, some 46), (2, some 47), (0, none), (0, none), (1, none)]), .inr (0, 6, []), .inr (0, 6, []), .inr (0, 6, []), .inr (1, 6, []), .inr (0, 6, []), .inr (1, 6, []), .inr (1, 6, []), .inr (1, 6, []), .inl (7, [(2, some 49), (2, some 50)]), .inr (1, 0, []), .inr (1, 0, []), .inl (3, [(2, some 52), (2, some 95), (2, some 96), (0, none), (1, none)]), .inr (2, 7, [some 53, some 59, some 65, some 71, some 77, some 83, some 89]), .inl (0, [(2, some 54), (2, some 55), (2, some 56), (2, some 57), (2, some 58), (0, none), (0, none), (3, none)]), .inr (0, 7, []), .inr (1, 32, []), .inr (0, 24, []), .inr (1, 4, []), .inr (1, 6, []), .inl (0, [(2, some 60), (2, some 61), (2, some 62), (2, some 63), (2, some 64), (0, none), (0, none), (3, none)]), .inr (0, 7, []), .inr (1, 32, []), .inr (0, 24, []), .inr (1, 4, []), .inr (1, 6, []), .inl (0, [(2, some 66), (2, some 67), (2, some 68), (2, some 69), (2, some 70), (0, none), (0, none), (3, none)]), .inr (0, 7, []), .inr (1, 32, []), .inr (0, 24, []), .inr (1, 4, []), .inr (1, 6, []), .inl (0, [(2, some 72), (2, some 73), (2, some 74), (2, some 75), (2, some 76), (0, none), (0, none), (3, none)]), .inr (0, 7, []), .inr (1, 32, []), .inr (0, 24, []), .inr (1, 4, []), .inr (1, 6, []), .inl (0, [(2, some 78), (2, some 79), (2, some 80), (2, some 81), (2, some 82), (0, none), (0, none), (3, none)]), .inr (0, 7, []), .inr (1, 32, []), .inr (0, 24, []), .inr (1, 4, []), .inr (1, 6, []), .inl (0, [(2, some 84), (2, some 85), (2, some 86), (2, some 87), (2, some 88), (0, none), (0, none), (3, none)]), .inr (0, 7, []), .inr (1, 32, []), .inr (0, 24, []), .inr (1, 4, []), .inr (1, 6, []), .inl (0, [(2, some 90), (2, some 91), (2, some 92), (2, some 93), (2, some 94), (0, none), (0, none), (3, none)]), .inr (0, 7, []), .inr (1, 32, []), .inr (0, 24, []), .inr (1, 4, []), .inr (1, 6, []), .inr (0, 6, []), .inr (0, 6, []), .inl (0, [(2, some 98), (2, some 99), (2, some 100), (2, some 101), (2, some 102), (0, none), (0, none), (3, none)]), .inr (0, 7, []), .inr (1, 32, []), .inr (0, 24, []), .inr (1, 4, []), .inr (1, 6, []), .inl (0, [(2, some 104), (2, some 105), (2, some 106), (2, some 107), (2, some 108), (0, none), (0, none), (3, none)]), .inr (0, 7, []), .inr (1, 32, []), .inr (0, 24, []), .inr (1, 4, []), .inr (1, 6, []), .inl (1, [(2, some 110), (2, some 111), (2, some 112), (0, none), (0, none), (3, none)]), .inr (0, 7, []), .inr (0, 6, []), .inr (0, 6, []), .inl (2, [(2, some 114), (0, none)]), .inr (0, 420, []), .inr (1, 1, [])]
theorem S_A10_wf : zWfS S_A10.length S_A10 = true ∧ Nat.ble S_A10.length 1000 = true := ⟨by decide +kernel, rfl⟩
def pl_0 : List Nat := [0, 1, 2, 3, 4, 5, 6, 7, 8, 9, 10, 11, 12, 13, 14, 15, 16, 17, 18, 19, 20, 21, 22, 23, 24, 25, 26, 27, 28, 29, 30, 31, 32, 33, 34, 35, 36, 37, 38, 39, 40, 41, 42, 43, 44, 45, 46, 47, 48, 49, 50, 51, 52, 53, 54, 55, 56, 57, 58, 59, 60, 61, 62, 63, 64, 65, 66, 67, 68, 69, 70, 71, 72, 73, 74, 75, 76, 77, 78, 79, 80, 81, 82, 83, 84, 85, 86, 87, 88, 89, 90, 91, 92, 93, 94, 95, 96, 97, 98, 99, 100, 101, 102, 103, 104, 105, 106, 107, 108, 109, 110, 111, 112, 113, 114]
theorem sb_115 : zSub S_A10 pl_0 S_Ledger := ⟨rfl, by decide +kernel, by decide +kernel, rfl⟩
/-! WeirLedgerLaw.fund(LWeirLedger;[J)I -/
def cf_Law_fund : ZCf := (yL_fund, cL_fund, 3, some .int, [(0, 8, 11, 13)], 14, 1, 6, [], none)
theorem cal_Law_fund : zCalleeH cf_Law_fund 2 := ⟨List.cons_ne_nil _ _, zc_yL_fund, by decide, by decide, by decide +kernel⟩
def F_Law_fund (μ : ZMem) : Option ZRes := zCm pl_0 μ (F_Ledger_fund  (zVw pl_0 μ)) (zkI (fun x2 μ1 => zWr μ1 115 1 0 (w32 x2) (fun μ3 => some (.inr (some (zI 0)), μ3)))) (zXh [("java/lang/IllegalArgumentException", 1)])
set_option maxRecDepth 100000 in
theorem w_Law_fund (μ : ZMem) : AW cf_Law_fund S_A10.length S_A10 S_A10 0 [(0, zR (some 0)), (1, zR (some 115))] [] μ 0 0 (F_Law_fund μ) := by
  unfold F_Law_fund
  refine AW.aload_n (i := 1) (a := 115) (by decide +kernel) rfl (?_ : AW _ _ _ _ 1 _ _ _ _ _ _)
  refine AW.iconst (n := 0) (by decide +kernel) (?_ : AW _ _ _ _ 2 _ _ _ _ _ _)
  refine AW.aload_n (i := 0) (a := 0) (by decide +kernel) rfl (?_ : AW _ _ _ _ 3 _ _ _ _ _ _)
  refine AW.callVh (g := cf_Ledger_fund) (Sg := S_Ledger) (pl := pl_0) (av := []) (b0 := 0) (ci := 8) (idx := 7) (n := 0) (st := [zI 0, zR (some 115)]) (by decide +kernel) (fun l hl r hr => c_Ledger_fund l hl  _ r hr) sb_115 rfl cal_Ledger_fund rfl (zw4 zm_L_7 zi_yX8_fund zs_yX8_fund zn_X8) rfl rfl ⟨by decide, by decide, by decide, by decide⟩ (Nat.le_of_ble_eq_true rfl) (List.forall_mem_cons.mpr ⟨⟨11, 1, 2, ⟨[], [], (0, 8, 11, 13), rfl, (fun _ h => absurd h List.not_mem_nil), by decide, by decide, by decide, zcl_L_13, zcst_IllegalArgumentException, rfl⟩, ⟨by decide, Or.inl ⟨2, (by decide +kernel), rfl, rfl⟩⟩, (by decide +kernel), (by decide +kernel)⟩, (fun _ h => absurd h List.not_mem_nil)⟩) rfl (fun v μ1 => AW.rI (fun x2 => (?_ : AW _ _ _ _ 6 _ _ _ _ _ _)) v)
  refine AW.i2l (by decide +kernel) (?_ : AW _ _ _ _ 7 _ _ _ _ _ _)
  refine AW.lastL (r := 115) (by decide +kernel) rfl (fun μ3 => (?_ : AW _ _ _ _ 8 _ _ _ _ _ _))
  refine AW.goto (off := 6) (tgt := 14) (by decide +kernel) (by decide) ?_
  refine AW.iconst (n := 0) (by decide +kernel) (?_ : AW _ _ _ _ 15 _ _ _ _ _ _)
  exact AW.reti (by decide +kernel) rfl (by decide) (by decide)
theorem c_Law_fund (l : Launch) (hl : l.stackTraces = false) (μ : ZMem) (v : Option ZV) (ν : ZMem) (h : F_Law_fund μ = some (.inr v, ν)) : ZC l cf_Law_fund S_A10 S_A10 [zR (some 0), zR (some 115)] μ (.inr v, ν) := ZC.ofH hl (by decide +kernel) (List.cons_ne_nil _ _) rfl (fun _ h => absurd h List.not_mem_nil) (Nat.le_of_ble_eq_true rfl) h (w_Law_fund μ)
/-! WeirLedgerLaw.acts(LWeirLedger;[J)I -/
def cf_Law_acts : ZCf := (yL_acts, cL_acts, 3, some .int, [(0, 8, 11, 13)], 15, 1, 6, [], none)
theorem cal_Law_acts : zCalleeH cf_Law_acts 2 := ⟨List.cons_ne_nil _ _, zc_yL_acts, by decide, by decide, by decide +kernel⟩
def F_Law_acts (μ : ZMem) : Option ZRes := zCm pl_0 μ (F_Ledger_acts  (zVw pl_0 μ)) (zkI (fun x2 μ1 => zWr μ1 115 1 0 (w32 x2) (fun μ3 => some (.inr (some (zI 0)), μ3)))) (zXh [("java/lang/IllegalArgumentException", 1)])
set_option maxRecDepth 100000 in
theorem w_Law_acts (μ : ZMem) : AW cf_Law_acts S_A10.length S_A10 S_A10 0 [(0, zR (some 0)), (1, zR (some 115))] [] μ 0 0 (F_Law_acts μ) := by
  unfold F_Law_acts
  refine AW.aload_n (i := 1) (a := 115) (by decide +kernel) rfl (?_ : AW _ _ _ _ 1 _ _ _ _ _ _)
  refine AW.iconst (n := 0) (by decide +kernel) (?_ : AW _ _ _ _ 2 _ _ _ _ _ _)
  refine AW.aload_n (i := 0) (a := 0) (by decide +kernel) rfl (?_ : AW _ _ _ _ 3 _ _ _ _ _ _)
  refine AW.callVh (g := cf_Ledger_acts) (Sg := S_Ledger) (pl := pl_0) (av := []) (b0 := 0) (ci := 8) (idx := 15) (n := 0) (st := [zI 0, zR (some 115)]) (by decide +kernel) (fun l hl r hr => c_Ledger_acts l hl  _ r hr) sb_115 rfl cal_Ledger_acts rfl (zw4 zm_L_15 zi_yX8_acts zs_yX8_acts zn_X8) rfl rfl ⟨by decide, by decide, by decide, by decide⟩ (Nat.le_of_ble_eq_true rfl) (List.forall_mem_cons.mpr ⟨⟨11, 1, 2, ⟨[], [], (0, 8, 11, 13), rfl, (fun _ h => absurd h List.not_mem_nil), by decide, by decide, by decide, zcl_L_13, zcst_IllegalArgumentException, rfl⟩, ⟨by decide, Or.inl ⟨2, (by decide +kernel), rfl, rfl⟩⟩, (by decide +kernel), (by decide +kernel)⟩, (fun _ h => absurd h List.not_mem_nil)⟩) rfl (fun v μ1 => AW.rI (fun x2 => (?_ : AW _ _ _ _ 6 _ _ _ _ _ _)) v)
  refine AW.i2l (by decide +kernel) (?_ : AW _ _ _ _ 7 _ _ _ _ _ _)
  refine AW.lastL (r := 115) (by decide +kernel) rfl (fun μ3 => (?_ : AW _ _ _ _ 8 _ _ _ _ _ _))
  refine AW.goto (off := 6) (tgt := 14) (by decide +kernel) (by decide) ?_
  refine AW.iconst (n := 0) (by decide +kernel) (?_ : AW _ _ _ _ 15 _ _ _ _ _ _)
  exact AW.reti (by decide +kernel) rfl (by decide) (by decide)
theorem c_Law_acts (l : Launch) (hl : l.stackTraces = false) (μ : ZMem) (v : Option ZV) (ν : ZMem) (h : F_Law_acts μ = some (.inr v, ν)) : ZC l cf_Law_acts S_A10 S_A10 [zR (some 0), zR (some 115)] μ (.inr v, ν) := ZC.ofH hl (by decide +kernel) (List.cons_ne_nil _ _) rfl (fun _ h => absurd h List.not_mem_nil) (Nat.le_of_ble_eq_true rfl) h (w_Law_acts μ)
/-! WeirLedgerLaw.term(LWeirLedger;I[J)I -/
def cf_Law_term : ZCf := (yL_term, cL_term, 4, some .int, [(0, 9, 12, 22)], 11, 1, 6, [], none)
theorem cal_Law_term : zCalleeH cf_Law_term 3 := ⟨List.cons_ne_nil _ _, zc_yL_term, by decide, by decide, by decide +kernel⟩
def F_Law_term (a1 : Int) (μ : ZMem) : Option ZRes := zCm pl_0 μ (F_Ledger_term a1 (zVw pl_0 μ)) (zkI (fun x2 μ1 => zWr μ1 115 1 0 (w32 x2) (fun μ3 => some (.inr (some (zI 0)), μ3)))) (zXh [("java/util/NoSuchElementException", 1)])
set_option maxRecDepth 100000 in
theorem w_Law_term (a1 : Int) (μ : ZMem) : AW cf_Law_term S_A10.length S_A10 S_A10 0 [(0, zR (some 0)), (1, zI a1), (2, zR (some 115))] [] μ 0 0 (F_Law_term a1 μ) := by
  unfold F_Law_term
  refine AW.aload_n (i := 2) (a := 115) (by decide +kernel) rfl (?_ : AW _ _ _ _ 1 _ _ _ _ _ _)
  refine AW.iconst (n := 0) (by decide +kernel) (?_ : AW _ _ _ _ 2 _ _ _ _ _ _)
  refine AW.aload_n (i := 0) (a := 0) (by decide +kernel) rfl (?_ : AW _ _ _ _ 3 _ _ _ _ _ _)
  refine AW.iload_n (i := 1) (a := a1) (by decide +kernel) rfl (?_ : AW _ _ _ _ 4 _ _ _ _ _ _)
  refine AW.callVh (g := cf_Ledger_term) (Sg := S_Ledger) (pl := pl_0) (av := [zI a1]) (b0 := 0) (ci := 8) (idx := 18) (n := 1) (st := [zI 0, zR (some 115)]) (by decide +kernel) (fun l hl r hr => c_Ledger_term l hl a1 _ r hr) sb_115 rfl cal_Ledger_term rfl (zw4 zm_L_18 zi_yX8_term zs_yX8_term zn_X8) rfl rfl ⟨by decide, by decide, by decide, by decide⟩ (Nat.le_of_ble_eq_true rfl) (List.forall_mem_cons.mpr ⟨⟨12, 1, 3, ⟨[], [], (0, 9, 12, 22), rfl, (fun _ h => absurd h List.not_mem_nil), by decide, by decide, by decide, zcl_L_22, zcst_NoSuchElementException, rfl⟩, ⟨by decide, Or.inl ⟨3, (by decide +kernel), rfl, rfl⟩⟩, (by decide +kernel), (by decide +kernel)⟩, (fun _ h => absurd h List.not_mem_nil)⟩) rfl (fun v μ1 => AW.rI (fun x2 => (?_ : AW _ _ _ _ 7 _ _ _ _ _ _)) v)
  refine AW.i2l (by decide +kernel) (?_ : AW _ _ _ _ 8 _ _ _ _ _ _)
  refine AW.lastL (r := 115) (by decide +kernel) rfl (fun μ3 => (?_ : AW _ _ _ _ 9 _ _ _ _ _ _))
  refine AW.goto (off := 6) (tgt := 15) (by decide +kernel) (by decide) ?_
  refine AW.iconst (n := 0) (by decide +kernel) (?_ : AW _ _ _ _ 16 _ _ _ _ _ _)
  exact AW.reti (by decide +kernel) rfl (by decide) (by decide)
theorem c_Law_term (l : Launch) (hl : l.stackTraces = false) (a1 : Int) (μ : ZMem) (v : Option ZV) (ν : ZMem) (h : F_Law_term a1 μ = some (.inr v, ν)) : ZC l cf_Law_term S_A10 S_A10 [zR (some 0), zI a1, zR (some 115)] μ (.inr v, ν) := ZC.ofH hl (by decide +kernel) (List.cons_ne_nil _ _) rfl (fun _ h => absurd h List.not_mem_nil) (Nat.le_of_ble_eq_true rfl) h (w_Law_term a1 μ)
/-! WeirLedgerLaw.investor(LWeirLedger;II[J)I -/
def cf_Law_investor : ZCf := (yL_investor, cL_investor, 5, some .int, [(0, 9, 12, 28), (0, 9, 16, 22)], 11, 1, 6, [], none)
theorem cal_Law_investor : zCalleeH cf_Law_investor 4 := ⟨List.cons_ne_nil _ _, zc_yL_investor, by decide, by decide, by decide +kernel⟩
def F_Law_investor (a1 : Int) (a2 : Int) (μ : ZMem) : Option ZRes := zCm pl_0 μ (F_Ledger_investor a1 a2 (zVw pl_0 μ)) (zkJ (fun x2 μ1 => zWr μ1 115 1 0 x2 (fun μ3 => some (.inr (some (zI 0)), μ3)))) (zXh [("java/lang/IndexOutOfBoundsException", 1), ("java/util/NoSuchElementException", 2)])
set_option maxRecDepth 100000 in
theorem w_Law_investor (a1 : Int) (a2 : Int) (μ : ZMem) : AW cf_Law_investor S_A10.length S_A10 S_A10 0 [(0, zR (some 0)), (1, zI a1), (2, zI a2), (3, zR (some 115))] [] μ 0 0 (F_Law_investor a1 a2 μ) := by
  unfold F_Law_investor
  refine AW.aload_n (i := 3) (a := 115) (by decide +kernel) rfl (?_ : AW _ _ _ _ 1 _ _ _ _ _ _)
  refine AW.iconst (n := 0) (by decide +kernel) (?_ : AW _ _ _ _ 2 _ _ _ _ _ _)
  refine AW.aload_n (i := 0) (a := 0) (by decide +kernel) rfl (?_ : AW _ _ _ _ 3 _ _ _ _ _ _)
  refine AW.iload_n (i := 1) (a := a1) (by decide +kernel) rfl (?_ : AW _ _ _ _ 4 _ _ _ _ _ _)
  refine AW.iload_n (i := 2) (a := a2) (by decide +kernel) rfl (?_ : AW _ _ _ _ 5 _ _ _ _ _ _)
  refine AW.callVh (g := cf_Ledger_investor) (Sg := S_Ledger) (pl := pl_0) (av := [zI a1, zI a2]) (b0 := 0) (ci := 8) (idx := 24) (n := 2) (st := [zI 0, zR (some 115)]) (by decide +kernel) (fun l hl r hr => c_Ledger_investor l hl a1 a2 _ r hr) sb_115 rfl cal_Ledger_investor rfl (zw4 zm_L_24 zi_yX8_investor zs_yX8_investor zn_X8) rfl rfl ⟨by decide, by decide, by decide, by decide⟩ (Nat.le_of_ble_eq_true rfl) (List.forall_mem_cons.mpr ⟨⟨12, 2, 4, ⟨[], [(0, 9, 16, 22)], (0, 9, 12, 28), rfl, (fun _ h => absurd h List.not_mem_nil), by decide, by decide, by decide, zcl_L_28, zcst_IndexOutOfBoundsException, rfl⟩, ⟨by decide, Or.inr ⟨(by decide +kernel), rfl⟩⟩, (by decide +kernel), (by decide +kernel)⟩, (List.forall_mem_cons.mpr ⟨⟨16, 2, 4, ⟨[(0, 9, 12, 28)], [], (0, 9, 16, 22), rfl, (List.forall_mem_cons.mpr ⟨⟨"java/lang/IndexOutOfBoundsException", by decide, zcl_L_28, by decide +kernel⟩, (fun _ h => absurd h List.not_mem_nil)⟩), by decide, by decide, by decide, zcl_L_22, zcst_NoSuchElementException, rfl⟩, ⟨by decide, Or.inr ⟨(by decide +kernel), rfl⟩⟩, (by decide +kernel), (by decide +kernel)⟩, (fun _ h => absurd h List.not_mem_nil)⟩)⟩) rfl (fun v μ1 => AW.rJ (fun x2 => (?_ : AW _ _ _ _ 8 _ _ _ _ _ _)) v)
  refine AW.lastL (r := 115) (by decide +kernel) rfl (fun μ3 => (?_ : AW _ _ _ _ 9 _ _ _ _ _ _))
  refine AW.goto (off := 11) (tgt := 20) (by decide +kernel) (by decide) ?_
  refine AW.iconst (n := 0) (by decide +kernel) (?_ : AW _ _ _ _ 21 _ _ _ _ _ _)
  exact AW.reti (by decide +kernel) rfl (by decide) (by decide)
theorem c_Law_investor (l : Launch) (hl : l.stackTraces = false) (a1 : Int) (a2 : Int) (μ : ZMem) (v : Option ZV) (ν : ZMem) (h : F_Law_investor a1 a2 μ = some (.inr v, ν)) : ZC l cf_Law_investor S_A10 S_A10 [zR (some 0), zI a1, zI a2, zR (some 115)] μ (.inr v, ν) := ZC.ofH hl (by decide +kernel) (List.cons_ne_nil _ _) rfl (fun _ h => absurd h List.not_mem_nil) (Nat.le_of_ble_eq_true rfl) h (w_Law_investor a1 a2 μ)
/-! WeirLedgerLaw.deal(LWeirLedger;II[J)I -/
def cf_Law_deal : ZCf := (yL_deal, cL_deal, 5, some .int, [(0, 10, 13, 28), (0, 10, 17, 22)], 11, 1, 6, [], none)
theorem cal_Law_deal : zCalleeH cf_Law_deal 4 := ⟨List.cons_ne_nil _ _, zc_yL_deal, by decide, by decide, by decide +kernel⟩
def F_Law_deal (a1 : Int) (a2 : Int) (μ : ZMem) : Option ZRes := zCm pl_0 μ (F_Ledger_deal a1 a2 (zVw pl_0 μ)) (zkI (fun x2 μ1 => zWr μ1 115 1 0 (w32 x2) (fun μ3 => some (.inr (some (zI 0)), μ3)))) (zXh [("java/lang/IndexOutOfBoundsException", 1), ("java/util/NoSuchElementException", 2)])
set_option maxRecDepth 100000 in
theorem w_Law_deal (a1 : Int) (a2 : Int) (μ : ZMem) : AW cf_Law_deal S_A10.length S_A10 S_A10 0 [(0, zR (some 0)), (1, zI a1), (2, zI a2), (3, zR (some 115))] [] μ 0 0 (F_Law_deal a1 a2 μ) := by
  unfold F_Law_deal
  refine AW.aload_n (i := 3) (a := 115) (by decide +kernel) rfl (?_ : AW _ _ _ _ 1 _ _ _ _ _ _)
  refine AW.iconst (n := 0) (by decide +kernel) (?_ : AW _ _ _ _ 2 _ _ _ _ _ _)
  refine AW.aload_n (i := 0) (a := 0) (by decide +kernel) rfl (?_ : AW _ _ _ _ 3 _ _ _ _ _ _)
  refine AW.iload_n (i := 1) (a := a1) (by decide +kernel) rfl (?_ : AW _ _ _ _ 4 _ _ _ _ _ _)
  refine AW.iload_n (i := 2) (a := a2) (by decide +kernel) rfl (?_ : AW _ _ _ _ 5 _ _ _ _ _ _)
  refine AW.callVh (g := cf_Ledger_deal) (Sg := S_Ledger) (pl := pl_0) (av := [zI a1, zI a2]) (b0 := 0) (ci := 8) (idx := 30) (n := 2) (st := [zI 0, zR (some 115)]) (by decide +kernel) (fun l hl r hr => c_Ledger_deal l hl a1 a2 _ r hr) sb_115 rfl cal_Ledger_deal rfl (zw4 zm_L_30 zi_yX8_deal zs_yX8_deal zn_X8) rfl rfl ⟨by decide, by decide, by decide, by decide⟩ (Nat.le_of_ble_eq_true rfl) (List.forall_mem_cons.mpr ⟨⟨13, 2, 4, ⟨[], [(0, 10, 17, 22)], (0, 10, 13, 28), rfl, (fun _ h => absurd h List.not_mem_nil), by decide, by decide, by decide, zcl_L_28, zcst_IndexOutOfBoundsException, rfl⟩, ⟨by decide, Or.inr ⟨(by decide +kernel), rfl⟩⟩, (by decide +kernel), (by decide +kernel)⟩, (List.forall_mem_cons.mpr ⟨⟨17, 2, 4, ⟨[(0, 10, 13, 28)], [], (0, 10, 17, 22), rfl, (List.forall_mem_cons.mpr ⟨⟨"java/lang/IndexOutOfBoundsException", by decide, zcl_L_28, by decide +kernel⟩, (fun _ h => absurd h List.not_mem_nil)⟩), by decide, by decide, by decide, zcl_L_22, zcst_NoSuchElementException, rfl⟩, ⟨by decide, Or.inr ⟨(by decide +kernel), rfl⟩⟩, (by decide +kernel), (by decide +kernel)⟩, (fun _ h => absurd h List.not_mem_nil)⟩)⟩) rfl (fun v μ1 => AW.rI (fun x2 => (?_ : AW _ _ _ _ 8 _ _ _ _ _ _)) v)
  refine AW.i2l (by decide +kernel) (?_ : AW _ _ _ _ 9 _ _ _ _ _ _)
  refine AW.lastL (r := 115) (by decide +kernel) rfl (fun μ3 => (?_ : AW _ _ _ _ 10 _ _ _ _ _ _))
  refine AW.goto (off := 11) (tgt := 21) (by decide +kernel) (by decide) ?_
  refine AW.iconst (n := 0) (by decide +kernel) (?_ : AW _ _ _ _ 22 _ _ _ _ _ _)
  exact AW.reti (by decide +kernel) rfl (by decide) (by decide)
theorem c_Law_deal (l : Launch) (hl : l.stackTraces = false) (a1 : Int) (a2 : Int) (μ : ZMem) (v : Option ZV) (ν : ZMem) (h : F_Law_deal a1 a2 μ = some (.inr v, ν)) : ZC l cf_Law_deal S_A10 S_A10 [zR (some 0), zI a1, zI a2, zR (some 115)] μ (.inr v, ν) := ZC.ofH hl (by decide +kernel) (List.cons_ne_nil _ _) rfl (fun _ h => absurd h List.not_mem_nil) (Nat.le_of_ble_eq_true rfl) h (w_Law_deal a1 a2 μ)
/-! WeirLedgerLaw.ladder(LWeirLedger;II[J)I -/
def cf_Law_ladder : ZCf := (yL_ladder, cL_ladder, 5, some .int, [(0, 9, 12, 28), (0, 9, 16, 22)], 11, 1, 6, [], none)
theorem cal_Law_ladder : zCalleeH cf_Law_ladder 4 := ⟨List.cons_ne_nil _ _, zc_yL_ladder, by decide, by decide, by decide +kernel⟩
def F_Law_ladder (a1 : Int) (a2 : Int) (μ : ZMem) : Option ZRes := zCm pl_0 μ (F_Ledger_ladder a1 a2 (zVw pl_0 μ)) (zkJ (fun x2 μ1 => zWr μ1 115 1 0 x2 (fun μ3 => some (.inr (some (zI 0)), μ3)))) (zXh [("java/lang/IndexOutOfBoundsException", 1), ("java/util/NoSuchElementException", 2)])
set_option maxRecDepth 100000 in
theorem w_Law_ladder (a1 : Int) (a2 : Int) (μ : ZMem) : AW cf_Law_ladder S_A10.length S_A10 S_A10 0 [(0, zR (some 0)), (1, zI a1), (2, zI a2), (3, zR (some 115))] [] μ 0 0 (F_Law_ladder a1 a2 μ) := by
  unfold F_Law_ladder
  refine AW.aload_n (i := 3) (a := 115) (by decide +kernel) rfl (?_ : AW _ _ _ _ 1 _ _ _ _ _ _)
  refine AW.iconst (n := 0) (by decide +kernel) (?_ : AW _ _ _ _ 2 _ _ _ _ _ _)
  refine AW.aload_n (i := 0) (a := 0) (by decide +kernel) rfl (?_ : AW _ _ _ _ 3 _ _ _ _ _ _)
  refine AW.iload_n (i := 1) (a := a1) (by decide +kernel) rfl (?_ : AW _ _ _ _ 4 _ _ _ _ _ _)
  refine AW.iload_n (i := 2) (a := a2) (by decide +kernel) rfl (?_ : AW _ _ _ _ 5 _ _ _ _ _ _)
  refine AW.callVh (g := cf_Ledger_ladder) (Sg := S_Ledger) (pl := pl_0) (av := [zI a1, zI a2]) (b0 := 0) (ci := 8) (idx := 34) (n := 2) (st := [zI 0, zR (some 115)]) (by decide +kernel) (fun l hl r hr => c_Ledger_ladder l hl a1 a2 _ r hr) sb_115 rfl cal_Ledger_ladder rfl (zw4 zm_L_34 zi_yX8_ladder zs_yX8_ladder zn_X8) rfl rfl ⟨by decide, by decide, by decide, by decide⟩ (Nat.le_of_ble_eq_true rfl) (List.forall_mem_cons.mpr ⟨⟨12, 2, 4, ⟨[], [(0, 9, 16, 22)], (0, 9, 12, 28), rfl, (fun _ h => absurd h List.not_mem_nil), by decide, by decide, by decide, zcl_L_28, zcst_IndexOutOfBoundsException, rfl⟩, ⟨by decide, Or.inr ⟨(by decide +kernel), rfl⟩⟩, (by decide +kernel), (by decide +kernel)⟩, (List.forall_mem_cons.mpr ⟨⟨16, 2, 4, ⟨[(0, 9, 12, 28)], [], (0, 9, 16, 22), rfl, (List.forall_mem_cons.mpr ⟨⟨"java/lang/IndexOutOfBoundsException", by decide, zcl_L_28, by decide +kernel⟩, (fun _ h => absurd h List.not_mem_nil)⟩), by decide, by decide, by decide, zcl_L_22, zcst_NoSuchElementException, rfl⟩, ⟨by decide, Or.inr ⟨(by decide +kernel), rfl⟩⟩, (by decide +kernel), (by decide +kernel)⟩, (fun _ h => absurd h List.not_mem_nil)⟩)⟩) rfl (fun v μ1 => AW.rJ (fun x2 => (?_ : AW _ _ _ _ 8 _ _ _ _ _ _)) v)
  refine AW.lastL (r := 115) (by decide +kernel) rfl (fun μ3 => (?_ : AW _ _ _ _ 9 _ _ _ _ _ _))
  refine AW.goto (off := 11) (tgt := 20) (by decide +kernel) (by decide) ?_
  refine AW.iconst (n := 0) (by decide +kernel) (?_ : AW _ _ _ _ 21 _ _ _ _ _ _)
  exact AW.reti (by decide +kernel) rfl (by decide) (by decide)
theorem c_Law_ladder (l : Launch) (hl : l.stackTraces = false) (a1 : Int) (a2 : Int) (μ : ZMem) (v : Option ZV) (ν : ZMem) (h : F_Law_ladder a1 a2 μ = some (.inr v, ν)) : ZC l cf_Law_ladder S_A10 S_A10 [zR (some 0), zI a1, zI a2, zR (some 115)] μ (.inr v, ν) := ZC.ofH hl (by decide +kernel) (List.cons_ne_nil _ _) rfl (fun _ h => absurd h List.not_mem_nil) (Nat.le_of_ble_eq_true rfl) h (w_Law_ladder a1 a2 μ)
/-! WeirLedgerLaw.manager(LWeirLedger;I[J)I -/
def cf_Law_manager : ZCf := (yL_manager, cL_manager, 4, some .int, [(0, 8, 11, 22)], 11, 1, 6, [], none)
theorem cal_Law_manager : zCalleeH cf_Law_manager 3 := ⟨List.cons_ne_nil _ _, zc_yL_manager, by decide, by decide, by decide +kernel⟩
def F_Law_manager (a1 : Int) (μ : ZMem) : Option ZRes := zCm pl_0 μ (F_Ledger_manager a1 (zVw pl_0 μ)) (zkJ (fun x2 μ1 => zWr μ1 115 1 0 x2 (fun μ3 => some (.inr (some (zI 0)), μ3)))) (zXh [("java/util/NoSuchElementException", 1)])
set_option maxRecDepth 100000 in
theorem w_Law_manager (a1 : Int) (μ : ZMem) : AW cf_Law_manager S_A10.length S_A10 S_A10 0 [(0, zR (some 0)), (1, zI a1), (2, zR (some 115))] [] μ 0 0 (F_Law_manager a1 μ) := by
  unfold F_Law_manager
  refine AW.aload_n (i := 2) (a := 115) (by decide +kernel) rfl (?_ : AW _ _ _ _ 1 _ _ _ _ _ _)
  refine AW.iconst (n := 0) (by decide +kernel) (?_ : AW _ _ _ _ 2 _ _ _ _ _ _)
  refine AW.aload_n (i := 0) (a := 0) (by decide +kernel) rfl (?_ : AW _ _ _ _ 3 _ _ _ _ _ _)
  refine AW.iload_n (i := 1) (a := a1) (by decide +kernel) rfl (?_ : AW _ _ _ _ 4 _ _ _ _ _ _)
  refine AW.callVh (g := cf_Ledger_manager) (Sg := S_Ledger) (pl := pl_0) (av := [zI a1]) (b0 := 0) (ci := 8) (idx := 37) (n := 1) (st := [zI 0, zR (some 115)]) (by decide +kernel) (fun l hl r hr => c_Ledger_manager l hl a1 _ r hr) sb_115 rfl cal_Ledger_manager rfl (zw4 zm_L_37 zi_yX8_manager zs_yX8_manager zn_X8) rfl rfl ⟨by decide, by decide, by decide, by decide⟩ (Nat.le_of_ble_eq_true rfl) (List.forall_mem_cons.mpr ⟨⟨11, 1, 3, ⟨[], [], (0, 8, 11, 22), rfl, (fun _ h => absurd h List.not_mem_nil), by decide, by decide, by decide, zcl_L_22, zcst_NoSuchElementException, rfl⟩, ⟨by decide, Or.inl ⟨3, (by decide +kernel), rfl, rfl⟩⟩, (by decide +kernel), (by decide +kernel)⟩, (fun _ h => absurd h List.not_mem_nil)⟩) rfl (fun v μ1 => AW.rJ (fun x2 => (?_ : AW _ _ _ _ 7 _ _ _ _ _ _)) v)
  refine AW.lastL (r := 115) (by decide +kernel) rfl (fun μ3 => (?_ : AW _ _ _ _ 8 _ _ _ _ _ _))
  refine AW.goto (off := 6) (tgt := 14) (by decide +kernel) (by decide) ?_
  refine AW.iconst (n := 0) (by decide +kernel) (?_ : AW _ _ _ _ 15 _ _ _ _ _ _)
  exact AW.reti (by decide +kernel) rfl (by decide) (by decide)
theorem c_Law_manager (l : Launch) (hl : l.stackTraces = false) (a1 : Int) (μ : ZMem) (v : Option ZV) (ν : ZMem) (h : F_Law_manager a1 μ = some (.inr v, ν)) : ZC l cf_Law_manager S_A10 S_A10 [zR (some 0), zI a1, zR (some 115)] μ (.inr v, ν) := ZC.ofH hl (by decide +kernel) (List.cons_ne_nil _ _) rfl (fun _ h => absurd h List.not_mem_nil) (Nat.le_of_ble_eq_true rfl) h (w_Law_manager a1 μ)
/-! WeirLedgerLaw.call(LWeirLedger;II[J)I -/
def cf_Law_call : ZCf := (yL_call, cL_call, 5, some .int, [(0, 10, 13, 28), (0, 10, 17, 13), (0, 10, 21, 44), (0, 10, 25, 46)], 12, 1, 6, [], none)
theorem cal_Law_call : zCalleeH cf_Law_call 4 := ⟨List.cons_ne_nil _ _, zc_yL_call, by decide, by decide, by decide +kernel⟩
def F_Law_call (a1 : Int) (a2 : Int) (μ : ZMem) : Option ZRes := zCm pl_0 μ (F_Ledger_call a1 a2 (zVw pl_0 μ)) (zkI (fun x2 μ1 => zWr μ1 115 1 0 (w32 x2) (fun μ3 => some (.inr (some (zI 0)), μ3)))) (zXh [("java/lang/IndexOutOfBoundsException", 1), ("java/lang/IllegalArgumentException", 2), ("java/lang/IllegalStateException", 3), ("java/lang/UnsupportedOperationException", 4)])
set_option maxRecDepth 100000 in
theorem w_Law_call (a1 : Int) (a2 : Int) (μ : ZMem) : AW cf_Law_call S_A10.length S_A10 S_A10 0 [(0, zR (some 0)), (1, zI a1), (2, zI a2), (3, zR (some 115))] [] μ 0 0 (F_Law_call a1 a2 μ) := by
  unfold F_Law_call
  refine AW.aload_n (i := 3) (a := 115) (by decide +kernel) rfl (?_ : AW _ _ _ _ 1 _ _ _ _ _ _)
  refine AW.iconst (n := 0) (by decide +kernel) (?_ : AW _ _ _ _ 2 _ _ _ _ _ _)
  refine AW.aload_n (i := 0) (a := 0) (by decide +kernel) rfl (?_ : AW _ _ _ _ 3 _ _ _ _ _ _)
  refine AW.iload_n (i := 1) (a := a1) (by decide +kernel) rfl (?_ : AW _ _ _ _ 4 _ _ _ _ _ _)
  refine AW.iload_n (i := 2) (a := a2) (by decide +kernel) rfl (?_ : AW _ _ _ _ 5 _ _ _ _ _ _)
  refine AW.callVh (g := cf_Ledger_call) (Sg := S_Ledger) (pl := pl_0) (av := [zI a1, zI a2]) (b0 := 0) (ci := 8) (idx := 41) (n := 2) (st := [zI 0, zR (some 115)]) (by decide +kernel) (fun l hl r hr => c_Ledger_call l hl a1 a2 _ r hr) sb_115 rfl cal_Ledger_call rfl (zw4 zm_L_41 zi_yX8_call zs_yX8_call zn_X8) rfl rfl ⟨by decide, by decide, by decide, by decide⟩ (Nat.le_of_ble_eq_true rfl) (List.forall_mem_cons.mpr ⟨⟨13, 2, 4, ⟨[], [(0, 10, 17, 13), (0, 10, 21, 44), (0, 10, 25, 46)], (0, 10, 13, 28), rfl, (fun _ h => absurd h List.not_mem_nil), by decide, by decide, by decide, zcl_L_28, zcst_IndexOutOfBoundsException, rfl⟩, ⟨by decide, Or.inr ⟨(by decide +kernel), rfl⟩⟩, (by decide +kernel), (by decide +kernel)⟩, (List.forall_mem_cons.mpr ⟨⟨17, 2, 4, ⟨[(0, 10, 13, 28)], [(0, 10, 21, 44), (0, 10, 25, 46)], (0, 10, 17, 13), rfl, (List.forall_mem_cons.mpr ⟨⟨"java/lang/IndexOutOfBoundsException", by decide, zcl_L_28, by decide +kernel⟩, (fun _ h => absurd h List.not_mem_nil)⟩), by decide, by decide, by decide, zcl_L_13, zcst_IllegalArgumentException, rfl⟩, ⟨by decide, Or.inr ⟨(by decide +kernel), rfl⟩⟩, (by decide +kernel), (by decide +kernel)⟩, (List.forall_mem_cons.mpr ⟨⟨21, 2, 4, ⟨[(0, 10, 13, 28), (0, 10, 17, 13)], [(0, 10, 25, 46)], (0, 10, 21, 44), rfl, (List.forall_mem_cons.mpr ⟨⟨"java/lang/IndexOutOfBoundsException", by decide, zcl_L_28, by decide +kernel⟩, (List.forall_mem_cons.mpr ⟨⟨"java/lang/IllegalArgumentException", by decide, zcl_L_13, by decide +kernel⟩, (fun _ h => absurd h List.not_mem_nil)⟩)⟩), by decide, by decide, by decide, zcl_L_44, zcst_IllegalStateException, rfl⟩, ⟨by decide, Or.inr ⟨(by decide +kernel), rfl⟩⟩, (by decide +kernel), (by decide +kernel)⟩, (List.forall_mem_cons.mpr ⟨⟨25, 2, 4, ⟨[(0, 10, 13, 28), (0, 10, 17, 13), (0, 10, 21, 44)], [], (0, 10, 25, 46), rfl, (List.forall_mem_cons.mpr ⟨⟨"java/lang/IndexOutOfBoundsException", by decide, zcl_L_28, by decide +kernel⟩, (List.forall_mem_cons.mpr ⟨⟨"java/lang/IllegalArgumentException", by decide, zcl_L_13, by decide +kernel⟩, (List.forall_mem_cons.mpr ⟨⟨"java/lang/IllegalStateException", by decide, zcl_L_44, by decide +kernel⟩, (fun _ h => absurd h List.not_mem_nil)⟩)⟩)⟩), by decide, by decide, by decide, zcl_L_46, zcst_UnsupportedOperationException, rfl⟩, ⟨by decide, Or.inr ⟨(by decide +kernel), rfl⟩⟩, (by decide +kernel), (by decide +kernel)⟩, (fun _ h => absurd h List.not_mem_nil)⟩)⟩)⟩)⟩) rfl (fun v μ1 => AW.rI (fun x2 => (?_ : AW _ _ _ _ 8 _ _ _ _ _ _)) v)
  refine AW.i2l (by decide +kernel) (?_ : AW _ _ _ _ 9 _ _ _ _ _ _)
  refine AW.lastL (r := 115) (by decide +kernel) rfl (fun μ3 => (?_ : AW _ _ _ _ 10 _ _ _ _ _ _))
  refine AW.goto (off := 19) (tgt := 29) (by decide +kernel) (by decide) ?_
  refine AW.iconst (n := 0) (by decide +kernel) (?_ : AW _ _ _ _ 30 _ _ _ _ _ _)
  exact AW.reti (by decide +kernel) rfl (by decide) (by decide)
theorem c_Law_call (l : Launch) (hl : l.stackTraces = false) (a1 : Int) (a2 : Int) (μ : ZMem) (v : Option ZV) (ν : ZMem) (h : F_Law_call a1 a2 μ = some (.inr v, ν)) : ZC l cf_Law_call S_A10 S_A10 [zR (some 0), zI a1, zI a2, zR (some 115)] μ (.inr v, ν) := ZC.ofH hl (by decide +kernel) (List.cons_ne_nil _ _) rfl (fun _ h => absurd h List.not_mem_nil) (Nat.le_of_ble_eq_true rfl) h (w_Law_call a1 a2 μ)
/-! WeirLedgerLaw.sell(LWeirLedger;IIZ[J)I -/
def cf_Law_sell : ZCf := (yL_sell, cL_sell, 6, some .int, [(0, 12, 15, 28), (0, 12, 19, 13), (0, 12, 23, 44), (0, 12, 27, 46)], 12, 1, 6, [], none)
theorem cal_Law_sell : zCalleeH cf_Law_sell 5 := ⟨List.cons_ne_nil _ _, zc_yL_sell, by decide, by decide, by decide +kernel⟩
def F_Law_sell (a1 : Int) (a2 : Int) (a3 : Int) (μ : ZMem) : Option ZRes := zCm pl_0 μ (F_Ledger_sell a1 a2 a3 (zVw pl_0 μ)) (zkI (fun x2 μ1 => zWr μ1 115 1 0 (w32 x2) (fun μ3 => some (.inr (some (zI 0)), μ3)))) (zXh [("java/lang/IndexOutOfBoundsException", 1), ("java/lang/IllegalArgumentException", 2), ("java/lang/IllegalStateException", 3), ("java/lang/UnsupportedOperationException", 4)])
set_option maxRecDepth 100000 in
theorem w_Law_sell (a1 : Int) (a2 : Int) (a3 : Int) (μ : ZMem) : AW cf_Law_sell S_A10.length S_A10 S_A10 0 [(0, zR (some 0)), (1, zI a1), (2, zI a2), (3, zI a3), (4, zR (some 115))] [] μ 0 0 (F_Law_sell a1 a2 a3 μ) := by
  unfold F_Law_sell
  refine AW.aload (i := 4) (a := 115) (by decide +kernel) rfl (?_ : AW _ _ _ _ 2 _ _ _ _ _ _)
  refine AW.iconst (n := 0) (by decide +kernel) (?_ : AW _ _ _ _ 3 _ _ _ _ _ _)
  refine AW.aload_n (i := 0) (a := 0) (by decide +kernel) rfl (?_ : AW _ _ _ _ 4 _ _ _ _ _ _)
  refine AW.iload_n (i := 1) (a := a1) (by decide +kernel) rfl (?_ : AW _ _ _ _ 5 _ _ _ _ _ _)
  refine AW.iload_n (i := 2) (a := a2) (by decide +kernel) rfl (?_ : AW _ _ _ _ 6 _ _ _ _ _ _)
  refine AW.iload_n (i := 3) (a := a3) (by decide +kernel) rfl (?_ : AW _ _ _ _ 7 _ _ _ _ _ _)
  refine AW.callVh (g := cf_Ledger_sell) (Sg := S_Ledger) (pl := pl_0) (av := [zI a1, zI a2, zI a3]) (b0 := 0) (ci := 8) (idx := 48) (n := 3) (st := [zI 0, zR (some 115)]) (by decide +kernel) (fun l hl r hr => c_Ledger_sell l hl a1 a2 a3 _ r hr) sb_115 rfl cal_Ledger_sell rfl (zw4 zm_L_48 zi_yX8_sell zs_yX8_sell zn_X8) rfl rfl ⟨by decide, by decide, by decide, by decide⟩ (Nat.le_of_ble_eq_true rfl) (List.forall_mem_cons.mpr ⟨⟨15, 2, 5, ⟨[], [(0, 12, 19, 13), (0, 12, 23, 44), (0, 12, 27, 46)], (0, 12, 15, 28), rfl, (fun _ h => absurd h List.not_mem_nil), by decide, by decide, by decide, zcl_L_28, zcst_IndexOutOfBoundsException, rfl⟩, ⟨by decide, Or.inr ⟨(by decide +kernel), rfl⟩⟩, (by decide +kernel), (by decide +kernel)⟩, (List.forall_mem_cons.mpr ⟨⟨19, 2, 5, ⟨[(0, 12, 15, 28)], [(0, 12, 23, 44), (0, 12, 27, 46)], (0, 12, 19, 13), rfl, (List.forall_mem_cons.mpr ⟨⟨"java/lang/IndexOutOfBoundsException", by decide, zcl_L_28, by decide +kernel⟩, (fun _ h => absurd h List.not_mem_nil)⟩), by decide, by decide, by decide, zcl_L_13, zcst_IllegalArgumentException, rfl⟩, ⟨by decide, Or.inr ⟨(by decide +kernel), rfl⟩⟩, (by decide +kernel), (by decide +kernel)⟩, (List.forall_mem_cons.mpr ⟨⟨23, 2, 5, ⟨[(0, 12, 15, 28), (0, 12, 19, 13)], [(0, 12, 27, 46)], (0, 12, 23, 44), rfl, (List.forall_mem_cons.mpr ⟨⟨"java/lang/IndexOutOfBoundsException", by decide, zcl_L_28, by decide +kernel⟩, (List.forall_mem_cons.mpr ⟨⟨"java/lang/IllegalArgumentException", by decide, zcl_L_13, by decide +kernel⟩, (fun _ h => absurd h List.not_mem_nil)⟩)⟩), by decide, by decide, by decide, zcl_L_44, zcst_IllegalStateException, rfl⟩, ⟨by decide, Or.inr ⟨(by decide +kernel), rfl⟩⟩, (by decide +kernel), (by decide +kernel)⟩, (List.forall_mem_cons.mpr ⟨⟨27, 2, 5, ⟨[(0, 12, 15, 28), (0, 12, 19, 13), (0, 12, 23, 44)], [], (0, 12, 27, 46), rfl, (List.forall_mem_cons.mpr ⟨⟨"java/lang/IndexOutOfBoundsException", by decide, zcl_L_28, by decide +kernel⟩, (List.forall_mem_cons.mpr ⟨⟨"java/lang/IllegalArgumentException", by decide, zcl_L_13, by decide +kernel⟩, (List.forall_mem_cons.mpr ⟨⟨"java/lang/IllegalStateException", by decide, zcl_L_44, by decide +kernel⟩, (fun _ h => absurd h List.not_mem_nil)⟩)⟩)⟩), by decide, by decide, by decide, zcl_L_46, zcst_UnsupportedOperationException, rfl⟩, ⟨by decide, Or.inr ⟨(by decide +kernel), rfl⟩⟩, (by decide +kernel), (by decide +kernel)⟩, (fun _ h => absurd h List.not_mem_nil)⟩)⟩)⟩)⟩) rfl (fun v μ1 => AW.rI (fun x2 => (?_ : AW _ _ _ _ 10 _ _ _ _ _ _)) v)
  refine AW.i2l (by decide +kernel) (?_ : AW _ _ _ _ 11 _ _ _ _ _ _)
  refine AW.lastL (r := 115) (by decide +kernel) rfl (fun μ3 => (?_ : AW _ _ _ _ 12 _ _ _ _ _ _))
  refine AW.goto (off := 19) (tgt := 31) (by decide +kernel) (by decide) ?_
  refine AW.iconst (n := 0) (by decide +kernel) (?_ : AW _ _ _ _ 32 _ _ _ _ _ _)
  exact AW.reti (by decide +kernel) rfl (by decide) (by decide)
theorem c_Law_sell (l : Launch) (hl : l.stackTraces = false) (a1 : Int) (a2 : Int) (a3 : Int) (μ : ZMem) (v : Option ZV) (ν : ZMem) (h : F_Law_sell a1 a2 a3 μ = some (.inr v, ν)) : ZC l cf_Law_sell S_A10 S_A10 [zR (some 0), zI a1, zI a2, zI a3, zR (some 115)] μ (.inr v, ν) := ZC.ofH hl (by decide +kernel) (List.cons_ne_nil _ _) rfl (fun _ h => absurd h List.not_mem_nil) (Nat.le_of_ble_eq_true rfl) h (w_Law_sell a1 a2 a3 μ)
/-! WeirLedgerLaw.mark(LWeirLedger;II[J)I -/
def cf_Law_mark : ZCf := (yL_mark, cL_mark, 5, some .int, [(0, 10, 13, 28), (0, 10, 17, 13), (0, 10, 21, 44), (0, 10, 25, 46)], 12, 1, 6, [], none)
theorem cal_Law_mark : zCalleeH cf_Law_mark 4 := ⟨List.cons_ne_nil _ _, zc_yL_mark, by decide, by decide, by decide +kernel⟩
def F_Law_mark (a1 : Int) (a2 : Int) (μ : ZMem) : Option ZRes := zCm pl_0 μ (F_Ledger_mark a1 a2 (zVw pl_0 μ)) (zkI (fun x2 μ1 => zWr μ1 115 1 0 (w32 x2) (fun μ3 => some (.inr (some (zI 0)), μ3)))) (zXh [("java/lang/IndexOutOfBoundsException", 1), ("java/lang/IllegalArgumentException", 2), ("java/lang/IllegalStateException", 3), ("java/lang/UnsupportedOperationException", 4)])
set_option maxRecDepth 100000 in
theorem w_Law_mark (a1 : Int) (a2 : Int) (μ : ZMem) : AW cf_Law_mark S_A10.length S_A10 S_A10 0 [(0, zR (some 0)), (1, zI a1), (2, zI a2), (3, zR (some 115))] [] μ 0 0 (F_Law_mark a1 a2 μ) := by
  unfold F_Law_mark
  refine AW.aload_n (i := 3) (a := 115) (by decide +kernel) rfl (?_ : AW _ _ _ _ 1 _ _ _ _ _ _)
  refine AW.iconst (n := 0) (by decide +kernel) (?_ : AW _ _ _ _ 2 _ _ _ _ _ _)
  refine AW.aload_n (i := 0) (a := 0) (by decide +kernel) rfl (?_ : AW _ _ _ _ 3 _ _ _ _ _ _)
  refine AW.iload_n (i := 1) (a := a1) (by decide +kernel) rfl (?_ : AW _ _ _ _ 4 _ _ _ _ _ _)
  refine AW.iload_n (i := 2) (a := a2) (by decide +kernel) rfl (?_ : AW _ _ _ _ 5 _ _ _ _ _ _)
  refine AW.callVh (g := cf_Ledger_mark) (Sg := S_Ledger) (pl := pl_0) (av := [zI a1, zI a2]) (b0 := 0) (ci := 8) (idx := 52) (n := 2) (st := [zI 0, zR (some 115)]) (by decide +kernel) (fun l hl r hr => c_Ledger_mark l hl a1 a2 _ r hr) sb_115 rfl cal_Ledger_mark rfl (zw4 zm_L_52 zi_yX8_mark zs_yX8_mark zn_X8) rfl rfl ⟨by decide, by decide, by decide, by decide⟩ (Nat.le_of_ble_eq_true rfl) (List.forall_mem_cons.mpr ⟨⟨13, 2, 4, ⟨[], [(0, 10, 17, 13), (0, 10, 21, 44), (0, 10, 25, 46)], (0, 10, 13, 28), rfl, (fun _ h => absurd h List.not_mem_nil), by decide, by decide, by decide, zcl_L_28, zcst_IndexOutOfBoundsException, rfl⟩, ⟨by decide, Or.inr ⟨(by decide +kernel), rfl⟩⟩, (by decide +kernel), (by decide +kernel)⟩, (List.forall_mem_cons.mpr ⟨⟨17, 2, 4, ⟨[(0, 10, 13, 28)], [(0, 10, 21, 44), (0, 10, 25, 46)], (0, 10, 17, 13), rfl, (List.forall_mem_cons.mpr ⟨⟨"java/lang/IndexOutOfBoundsException", by decide, zcl_L_28, by decide +kernel⟩, (fun _ h => absurd h List.not_mem_nil)⟩), by decide, by decide, by decide, zcl_L_13, zcst_IllegalArgumentException, rfl⟩, ⟨by decide, Or.inr ⟨(by decide +kernel), rfl⟩⟩, (by decide +kernel), (by decide +kernel)⟩, (List.forall_mem_cons.mpr ⟨⟨21, 2, 4, ⟨[(0, 10, 13, 28), (0, 10, 17, 13)], [(0, 10, 25, 46)], (0, 10, 21, 44), rfl, (List.forall_mem_cons.mpr ⟨⟨"java/lang/IndexOutOfBoundsException", by decide, zcl_L_28, by decide +kernel⟩, (List.forall_mem_cons.mpr ⟨⟨"java/lang/IllegalArgumentException", by decide, zcl_L_13, by decide +kernel⟩, (fun _ h => absurd h List.not_mem_nil)⟩)⟩), by decide, by decide, by decide, zcl_L_44, zcst_IllegalStateException, rfl⟩, ⟨by decide, Or.inr ⟨(by decide +kernel), rfl⟩⟩, (by decide +kernel), (by decide +kernel)⟩, (List.forall_mem_cons.mpr ⟨⟨25, 2, 4, ⟨[(0, 10, 13, 28), (0, 10, 17, 13), (0, 10, 21, 44)], [], (0, 10, 25, 46), rfl, (List.forall_mem_cons.mpr ⟨⟨"java/lang/IndexOutOfBoundsException", by decide, zcl_L_28, by decide +kernel⟩, (List.forall_mem_cons.mpr ⟨⟨"java/lang/IllegalArgumentException", by decide, zcl_L_13, by decide +kernel⟩, (List.forall_mem_cons.mpr ⟨⟨"java/lang/IllegalStateException", by decide, zcl_L_44, by decide +kernel⟩, (fun _ h => absurd h List.not_mem_nil)⟩)⟩)⟩), by decide, by decide, by decide, zcl_L_46, zcst_UnsupportedOperationException, rfl⟩, ⟨by decide, Or.inr ⟨(by decide +kernel), rfl⟩⟩, (by decide +kernel), (by decide +kernel)⟩, (fun _ h => absurd h List.not_mem_nil)⟩)⟩)⟩)⟩) rfl (fun v μ1 => AW.rI (fun x2 => (?_ : AW _ _ _ _ 8 _ _ _ _ _ _)) v)
  refine AW.i2l (by decide +kernel) (?_ : AW _ _ _ _ 9 _ _ _ _ _ _)
  refine AW.lastL (r := 115) (by decide +kernel) rfl (fun μ3 => (?_ : AW _ _ _ _ 10 _ _ _ _ _ _))
  refine AW.goto (off := 19) (tgt := 29) (by decide +kernel) (by decide) ?_
  refine AW.iconst (n := 0) (by decide +kernel) (?_ : AW _ _ _ _ 30 _ _ _ _ _ _)
  exact AW.reti (by decide +kernel) rfl (by decide) (by decide)
theorem c_Law_mark (l : Launch) (hl : l.stackTraces = false) (a1 : Int) (a2 : Int) (μ : ZMem) (v : Option ZV) (ν : ZMem) (h : F_Law_mark a1 a2 μ = some (.inr v, ν)) : ZC l cf_Law_mark S_A10 S_A10 [zR (some 0), zI a1, zI a2, zR (some 115)] μ (.inr v, ν) := ZC.ofH hl (by decide +kernel) (List.cons_ne_nil _ _) rfl (fun _ h => absurd h List.not_mem_nil) (Nat.le_of_ble_eq_true rfl) h (w_Law_mark a1 a2 μ)
/-! WeirLedgerLaw.quarters(LWeirLedger;I[J)I -/
def cf_Law_quarters : ZCf := (yL_quarters, cL_quarters, 4, some .int, [(0, 9, 12, 13), (0, 9, 15, 44), (0, 9, 18, 46)], 12, 1, 6, [], none)
theorem cal_Law_quarters : zCalleeH cf_Law_quarters 3 := ⟨List.cons_ne_nil _ _, zc_yL_quarters, by decide, by decide, by decide +kernel⟩
def F_Law_quarters (a1 : Int) (μ : ZMem) : Option ZRes := zCm pl_0 μ (F_Ledger_quarters a1 (zVw pl_0 μ)) (zkI (fun x2 μ1 => zWr μ1 115 1 0 (w32 x2) (fun μ3 => some (.inr (some (zI 0)), μ3)))) (zXh [("java/lang/IllegalArgumentException", 1), ("java/lang/IllegalStateException", 2), ("java/lang/UnsupportedOperationException", 3)])
set_option maxRecDepth 100000 in
theorem w_Law_quarters (a1 : Int) (μ : ZMem) : AW cf_Law_quarters S_A10.length S_A10 S_A10 0 [(0, zR (some 0)), (1, zI a1), (2, zR (some 115))] [] μ 0 0 (F_Law_quarters a1 μ) := by
  unfold F_Law_quarters
  refine AW.aload_n (i := 2) (a := 115) (by decide +kernel) rfl (?_ : AW _ _ _ _ 1 _ _ _ _ _ _)
  refine AW.iconst (n := 0) (by decide +kernel) (?_ : AW _ _ _ _ 2 _ _ _ _ _ _)
  refine AW.aload_n (i := 0) (a := 0) (by decide +kernel) rfl (?_ : AW _ _ _ _ 3 _ _ _ _ _ _)
  refine AW.iload_n (i := 1) (a := a1) (by decide +kernel) rfl (?_ : AW _ _ _ _ 4 _ _ _ _ _ _)
  refine AW.callVh (g := cf_Ledger_quarters) (Sg := S_Ledger) (pl := pl_0) (av := [zI a1]) (b0 := 0) (ci := 8) (idx := 55) (n := 1) (st := [zI 0, zR (some 115)]) (by decide +kernel) (fun l hl r hr => c_Ledger_quarters l hl a1 _ r hr) sb_115 rfl cal_Ledger_quarters rfl (zw4 zm_L_55 zi_yX8_quarters zs_yX8_quarters zn_X8) rfl rfl ⟨by decide, by decide, by decide, by decide⟩ (Nat.le_of_ble_eq_true rfl) (List.forall_mem_cons.mpr ⟨⟨12, 1, 3, ⟨[], [(0, 9, 15, 44), (0, 9, 18, 46)], (0, 9, 12, 13), rfl, (fun _ h => absurd h List.not_mem_nil), by decide, by decide, by decide, zcl_L_13, zcst_IllegalArgumentException, rfl⟩, ⟨by decide, Or.inl ⟨3, (by decide +kernel), rfl, rfl⟩⟩, (by decide +kernel), (by decide +kernel)⟩, (List.forall_mem_cons.mpr ⟨⟨15, 1, 3, ⟨[(0, 9, 12, 13)], [(0, 9, 18, 46)], (0, 9, 15, 44), rfl, (List.forall_mem_cons.mpr ⟨⟨"java/lang/IllegalArgumentException", by decide, zcl_L_13, by decide +kernel⟩, (fun _ h => absurd h List.not_mem_nil)⟩), by decide, by decide, by decide, zcl_L_44, zcst_IllegalStateException, rfl⟩, ⟨by decide, Or.inl ⟨3, (by decide +kernel), rfl, rfl⟩⟩, (by decide +kernel), (by decide +kernel)⟩, (List.forall_mem_cons.mpr ⟨⟨18, 1, 3, ⟨[(0, 9, 12, 13), (0, 9, 15, 44)], [], (0, 9, 18, 46), rfl, (List.forall_mem_cons.mpr ⟨⟨"java/lang/IllegalArgumentException", by decide, zcl_L_13, by decide +kernel⟩, (List.forall_mem_cons.mpr ⟨⟨"java/lang/IllegalStateException", by decide, zcl_L_44, by decide +kernel⟩, (fun _ h => absurd h List.not_mem_nil)⟩)⟩), by decide, by decide, by decide, zcl_L_46, zcst_UnsupportedOperationException, rfl⟩, ⟨by decide, Or.inl ⟨3, (by decide +kernel), rfl, rfl⟩⟩, (by decide +kernel), (by decide +kernel)⟩, (fun _ h => absurd h List.not_mem_nil)⟩)⟩)⟩) rfl (fun v μ1 => AW.rI (fun x2 => (?_ : AW _ _ _ _ 7 _ _ _ _ _ _)) v)
  refine AW.i2l (by decide +kernel) (?_ : AW _ _ _ _ 8 _ _ _ _ _ _)
  refine AW.lastL (r := 115) (by decide +kernel) rfl (fun μ3 => (?_ : AW _ _ _ _ 9 _ _ _ _ _ _))
  refine AW.goto (off := 12) (tgt := 21) (by decide +kernel) (by decide) ?_
  refine AW.iconst (n := 0) (by decide +kernel) (?_ : AW _ _ _ _ 22 _ _ _ _ _ _)
  exact AW.reti (by decide +kernel) rfl (by decide) (by decide)
theorem c_Law_quarters (l : Launch) (hl : l.stackTraces = false) (a1 : Int) (μ : ZMem) (v : Option ZV) (ν : ZMem) (h : F_Law_quarters a1 μ = some (.inr v, ν)) : ZC l cf_Law_quarters S_A10 S_A10 [zR (some 0), zI a1, zR (some 115)] μ (.inr v, ν) := ZC.ofH hl (by decide +kernel) (List.cons_ne_nil _ _) rfl (fun _ h => absurd h List.not_mem_nil) (Nat.le_of_ble_eq_true rfl) h (w_Law_quarters a1 μ)
/-! WeirLedgerLaw.fail(LWeirLedger;I[J)I -/
def cf_Law_fail : ZCf := (yL_fail, cL_fail, 4, some .int, [(0, 9, 12, 28), (0, 9, 15, 44), (0, 9, 18, 46)], 12, 1, 6, [], none)
theorem cal_Law_fail : zCalleeH cf_Law_fail 3 := ⟨List.cons_ne_nil _ _, zc_yL_fail, by decide, by decide, by decide +kernel⟩
def F_Law_fail (a1 : Int) (μ : ZMem) : Option ZRes := zCm pl_0 μ (F_Ledger_fail a1 (zVw pl_0 μ)) (zkI (fun x2 μ1 => zWr μ1 115 1 0 (w32 x2) (fun μ3 => some (.inr (some (zI 0)), μ3)))) (zXh [("java/lang/IndexOutOfBoundsException", 1), ("java/lang/IllegalStateException", 2), ("java/lang/UnsupportedOperationException", 3)])
set_option maxRecDepth 100000 in
theorem w_Law_fail (a1 : Int) (μ : ZMem) : AW cf_Law_fail S_A10.length S_A10 S_A10 0 [(0, zR (some 0)), (1, zI a1), (2, zR (some 115))] [] μ 0 0 (F_Law_fail a1 μ) := by
  unfold F_Law_fail
  refine AW.aload_n (i := 2) (a := 115) (by decide +kernel) rfl (?_ : AW _ _ _ _ 1 _ _ _ _ _ _)
  refine AW.iconst (n := 0) (by decide +kernel) (?_ : AW _ _ _ _ 2 _ _ _ _ _ _)
  refine AW.aload_n (i := 0) (a := 0) (by decide +kernel) rfl (?_ : AW _ _ _ _ 3 _ _ _ _ _ _)
  refine AW.iload_n (i := 1) (a := a1) (by decide +kernel) rfl (?_ : AW _ _ _ _ 4 _ _ _ _ _ _)
  refine AW.callVh (g := cf_Ledger_fail) (Sg := S_Ledger) (pl := pl_0) (av := [zI a1]) (b0 := 0) (ci := 8) (idx := 58) (n := 1) (st := [zI 0, zR (some 115)]) (by decide +kernel) (fun l hl r hr => c_Ledger_fail l hl a1 _ r hr) sb_115 rfl cal_Ledger_fail rfl (zw4 zm_L_58 zi_yX8_fail zs_yX8_fail zn_X8) rfl rfl ⟨by decide, by decide, by decide, by decide⟩ (Nat.le_of_ble_eq_true rfl) (List.forall_mem_cons.mpr ⟨⟨12, 1, 3, ⟨[], [(0, 9, 15, 44), (0, 9, 18, 46)], (0, 9, 12, 28), rfl, (fun _ h => absurd h List.not_mem_nil), by decide, by decide, by decide, zcl_L_28, zcst_IndexOutOfBoundsException, rfl⟩, ⟨by decide, Or.inl ⟨3, (by decide +kernel), rfl, rfl⟩⟩, (by decide +kernel), (by decide +kernel)⟩, (List.forall_mem_cons.mpr ⟨⟨15, 1, 3, ⟨[(0, 9, 12, 28)], [(0, 9, 18, 46)], (0, 9, 15, 44), rfl, (List.forall_mem_cons.mpr ⟨⟨"java/lang/IndexOutOfBoundsException", by decide, zcl_L_28, by decide +kernel⟩, (fun _ h => absurd h List.not_mem_nil)⟩), by decide, by decide, by decide, zcl_L_44, zcst_IllegalStateException, rfl⟩, ⟨by decide, Or.inl ⟨3, (by decide +kernel), rfl, rfl⟩⟩, (by decide +kernel), (by decide +kernel)⟩, (List.forall_mem_cons.mpr ⟨⟨18, 1, 3, ⟨[(0, 9, 12, 28), (0, 9, 15, 44)], [], (0, 9, 18, 46), rfl, (List.forall_mem_cons.mpr ⟨⟨"java/lang/IndexOutOfBoundsException", by decide, zcl_L_28, by decide +kernel⟩, (List.forall_mem_cons.mpr ⟨⟨"java/lang/IllegalStateException", by decide, zcl_L_44, by decide +kernel⟩, (fun _ h => absurd h List.not_mem_nil)⟩)⟩), by decide, by decide, by decide, zcl_L_46, zcst_UnsupportedOperationException, rfl⟩, ⟨by decide, Or.inl ⟨3, (by decide +kernel), rfl, rfl⟩⟩, (by decide +kernel), (by decide +kernel)⟩, (fun _ h => absurd h List.not_mem_nil)⟩)⟩)⟩) rfl (fun v μ1 => AW.rI (fun x2 => (?_ : AW _ _ _ _ 7 _ _ _ _ _ _)) v)
  refine AW.i2l (by decide +kernel) (?_ : AW _ _ _ _ 8 _ _ _ _ _ _)
  refine AW.lastL (r := 115) (by decide +kernel) rfl (fun μ3 => (?_ : AW _ _ _ _ 9 _ _ _ _ _ _))
  refine AW.goto (off := 12) (tgt := 21) (by decide +kernel) (by decide) ?_
  refine AW.iconst (n := 0) (by decide +kernel) (?_ : AW _ _ _ _ 22 _ _ _ _ _ _)
  exact AW.reti (by decide +kernel) rfl (by decide) (by decide)
theorem c_Law_fail (l : Launch) (hl : l.stackTraces = false) (a1 : Int) (μ : ZMem) (v : Option ZV) (ν : ZMem) (h : F_Law_fail a1 μ = some (.inr v, ν)) : ZC l cf_Law_fail S_A10 S_A10 [zR (some 0), zI a1, zR (some 115)] μ (.inr v, ν) := ZC.ofH hl (by decide +kernel) (List.cons_ne_nil _ _) rfl (fun _ h => absurd h List.not_mem_nil) (Nat.le_of_ble_eq_true rfl) h (w_Law_fail a1 μ)
/-! WeirLedgerLaw.move(LWeirLedger;III[J)I -/
def cf_Law_move : ZCf := (yL_move, cL_move, 6, some .int, [(0, 12, 15, 28), (0, 12, 19, 13), (0, 12, 23, 44), (0, 12, 27, 46)], 12, 1, 6, [], none)
theorem cal_Law_move : zCalleeH cf_Law_move 5 := ⟨List.cons_ne_nil _ _, zc_yL_move, by decide, by decide, by decide +kernel⟩
def F_Law_move (a1 : Int) (a2 : Int) (a3 : Int) (μ : ZMem) : Option ZRes := zCm pl_0 μ (F_Ledger_move a1 a2 a3 (zVw pl_0 μ)) (zkI (fun x2 μ1 => zWr μ1 115 1 0 (w32 x2) (fun μ3 => some (.inr (some (zI 0)), μ3)))) (zXh [("java/lang/IndexOutOfBoundsException", 1), ("java/lang/IllegalArgumentException", 2), ("java/lang/IllegalStateException", 3), ("java/lang/UnsupportedOperationException", 4)])
set_option maxRecDepth 100000 in
theorem w_Law_move (a1 : Int) (a2 : Int) (a3 : Int) (μ : ZMem) : AW cf_Law_move S_A10.length S_A10 S_A10 0 [(0, zR (some 0)), (1, zI a1), (2, zI a2), (3, zI a3), (4, zR (some 115))] [] μ 0 0 (F_Law_move a1 a2 a3 μ) := by
  unfold F_Law_move
  refine AW.aload (i := 4) (a := 115) (by decide +kernel) rfl (?_ : AW _ _ _ _ 2 _ _ _ _ _ _)
  refine AW.iconst (n := 0) (by decide +kernel) (?_ : AW _ _ _ _ 3 _ _ _ _ _ _)
  refine AW.aload_n (i := 0) (a := 0) (by decide +kernel) rfl (?_ : AW _ _ _ _ 4 _ _ _ _ _ _)
  refine AW.iload_n (i := 1) (a := a1) (by decide +kernel) rfl (?_ : AW _ _ _ _ 5 _ _ _ _ _ _)
  refine AW.iload_n (i := 2) (a := a2) (by decide +kernel) rfl (?_ : AW _ _ _ _ 6 _ _ _ _ _ _)
  refine AW.iload_n (i := 3) (a := a3) (by decide +kernel) rfl (?_ : AW _ _ _ _ 7 _ _ _ _ _ _)
  refine AW.callVh (g := cf_Ledger_move) (Sg := S_Ledger) (pl := pl_0) (av := [zI a1, zI a2, zI a3]) (b0 := 0) (ci := 8) (idx := 61) (n := 3) (st := [zI 0, zR (some 115)]) (by decide +kernel) (fun l hl r hr => c_Ledger_move l hl a1 a2 a3 _ r hr) sb_115 rfl cal_Ledger_move rfl (zw4 zm_L_61 zi_yX8_move zs_yX8_move zn_X8) rfl rfl ⟨by decide, by decide, by decide, by decide⟩ (Nat.le_of_ble_eq_true rfl) (List.forall_mem_cons.mpr ⟨⟨15, 2, 5, ⟨[], [(0, 12, 19, 13), (0, 12, 23, 44), (0, 12, 27, 46)], (0, 12, 15, 28), rfl, (fun _ h => absurd h List.not_mem_nil), by decide, by decide, by decide, zcl_L_28, zcst_IndexOutOfBoundsException, rfl⟩, ⟨by decide, Or.inr ⟨(by decide +kernel), rfl⟩⟩, (by decide +kernel), (by decide +kernel)⟩, (List.forall_mem_cons.mpr ⟨⟨19, 2, 5, ⟨[(0, 12, 15, 28)], [(0, 12, 23, 44), (0, 12, 27, 46)], (0, 12, 19, 13), rfl, (List.forall_mem_cons.mpr ⟨⟨"java/lang/IndexOutOfBoundsException", by decide, zcl_L_28, by decide +kernel⟩, (fun _ h => absurd h List.not_mem_nil)⟩), by decide, by decide, by decide, zcl_L_13, zcst_IllegalArgumentException, rfl⟩, ⟨by decide, Or.inr ⟨(by decide +kernel), rfl⟩⟩, (by decide +kernel), (by decide +kernel)⟩, (List.forall_mem_cons.mpr ⟨⟨23, 2, 5, ⟨[(0, 12, 15, 28), (0, 12, 19, 13)], [(0, 12, 27, 46)], (0, 12, 23, 44), rfl, (List.forall_mem_cons.mpr ⟨⟨"java/lang/IndexOutOfBoundsException", by decide, zcl_L_28, by decide +kernel⟩, (List.forall_mem_cons.mpr ⟨⟨"java/lang/IllegalArgumentException", by decide, zcl_L_13, by decide +kernel⟩, (fun _ h => absurd h List.not_mem_nil)⟩)⟩), by decide, by decide, by decide, zcl_L_44, zcst_IllegalStateException, rfl⟩, ⟨by decide, Or.inr ⟨(by decide +kernel), rfl⟩⟩, (by decide +kernel), (by decide +kernel)⟩, (List.forall_mem_cons.mpr ⟨⟨27, 2, 5, ⟨[(0, 12, 15, 28), (0, 12, 19, 13), (0, 12, 23, 44)], [], (0, 12, 27, 46), rfl, (List.forall_mem_cons.mpr ⟨⟨"java/lang/IndexOutOfBoundsException", by decide, zcl_L_28, by decide +kernel⟩, (List.forall_mem_cons.mpr ⟨⟨"java/lang/IllegalArgumentException", by decide, zcl_L_13, by decide +kernel⟩, (List.forall_mem_cons.mpr ⟨⟨"java/lang/IllegalStateException", by decide, zcl_L_44, by decide +kernel⟩, (fun _ h => absurd h List.not_mem_nil)⟩)⟩)⟩), by decide, by decide, by decide, zcl_L_46, zcst_UnsupportedOperationException, rfl⟩, ⟨by decide, Or.inr ⟨(by decide +kernel), rfl⟩⟩, (by decide +kernel), (by decide +kernel)⟩, (fun _ h => absurd h List.not_mem_nil)⟩)⟩)⟩)⟩) rfl (fun v μ1 => AW.rI (fun x2 => (?_ : AW _ _ _ _ 10 _ _ _ _ _ _)) v)
  refine AW.i2l (by decide +kernel) (?_ : AW _ _ _ _ 11 _ _ _ _ _ _)
  refine AW.lastL (r := 115) (by decide +kernel) rfl (fun μ3 => (?_ : AW _ _ _ _ 12 _ _ _ _ _ _))
  refine AW.goto (off := 19) (tgt := 31) (by decide +kernel) (by decide) ?_
  refine AW.iconst (n := 0) (by decide +kernel) (?_ : AW _ _ _ _ 32 _ _ _ _ _ _)
  exact AW.reti (by decide +kernel) rfl (by decide) (by decide)
theorem c_Law_move (l : Launch) (hl : l.stackTraces = false) (a1 : Int) (a2 : Int) (a3 : Int) (μ : ZMem) (v : Option ZV) (ν : ZMem) (h : F_Law_move a1 a2 a3 μ = some (.inr v, ν)) : ZC l cf_Law_move S_A10 S_A10 [zR (some 0), zI a1, zI a2, zI a3, zR (some 115)] μ (.inr v, ν) := ZC.ofH hl (by decide +kernel) (List.cons_ne_nil _ _) rfl (fun _ h => absurd h List.not_mem_nil) (Nat.le_of_ble_eq_true rfl) h (w_Law_move a1 a2 a3 μ)
/-! WeirLedgerLaw.close(LWeirLedger;[J)I -/
def cf_Law_close : ZCf := (yL_close, cL_close, 3, some .int, [(0, 7, 10, 44), (0, 7, 13, 46)], 12, 1, 6, [], none)
theorem cal_Law_close : zCalleeH cf_Law_close 2 := ⟨List.cons_ne_nil _ _, zc_yL_close, by decide, by decide, by decide +kernel⟩
def F_Law_close (μ : ZMem) : Option ZRes := zCm pl_0 μ (F_Ledger_close  (zVw pl_0 μ)) (zkJ (fun x2 μ1 => zWr μ1 115 1 0 x2 (fun μ3 => some (.inr (some (zI 0)), μ3)))) (zXh [("java/lang/IllegalStateException", 1), ("java/lang/UnsupportedOperationException", 2)])
set_option maxRecDepth 100000 in
theorem w_Law_close (μ : ZMem) : AW cf_Law_close S_A10.length S_A10 S_A10 0 [(0, zR (some 0)), (1, zR (some 115))] [] μ 0 0 (F_Law_close μ) := by
  unfold F_Law_close
  refine AW.aload_n (i := 1) (a := 115) (by decide +kernel) rfl (?_ : AW _ _ _ _ 1 _ _ _ _ _ _)
  refine AW.iconst (n := 0) (by decide +kernel) (?_ : AW _ _ _ _ 2 _ _ _ _ _ _)
  refine AW.aload_n (i := 0) (a := 0) (by decide +kernel) rfl (?_ : AW _ _ _ _ 3 _ _ _ _ _ _)
  refine AW.callVh (g := cf_Ledger_close) (Sg := S_Ledger) (pl := pl_0) (av := []) (b0 := 0) (ci := 8) (idx := 65) (n := 0) (st := [zI 0, zR (some 115)]) (by decide +kernel) (fun l hl r hr => c_Ledger_close l hl  _ r hr) sb_115 rfl cal_Ledger_close rfl (zw4 zm_L_65 zi_yX8_close zs_yX8_close zn_X8) rfl rfl ⟨by decide, by decide, by decide, by decide⟩ (Nat.le_of_ble_eq_true rfl) (List.forall_mem_cons.mpr ⟨⟨10, 1, 2, ⟨[], [(0, 7, 13, 46)], (0, 7, 10, 44), rfl, (fun _ h => absurd h List.not_mem_nil), by decide, by decide, by decide, zcl_L_44, zcst_IllegalStateException, rfl⟩, ⟨by decide, Or.inl ⟨2, (by decide +kernel), rfl, rfl⟩⟩, (by decide +kernel), (by decide +kernel)⟩, (List.forall_mem_cons.mpr ⟨⟨13, 1, 2, ⟨[(0, 7, 10, 44)], [], (0, 7, 13, 46), rfl, (List.forall_mem_cons.mpr ⟨⟨"java/lang/IllegalStateException", by decide, zcl_L_44, by decide +kernel⟩, (fun _ h => absurd h List.not_mem_nil)⟩), by decide, by decide, by decide, zcl_L_46, zcst_UnsupportedOperationException, rfl⟩, ⟨by decide, Or.inl ⟨2, (by decide +kernel), rfl, rfl⟩⟩, (by decide +kernel), (by decide +kernel)⟩, (fun _ h => absurd h List.not_mem_nil)⟩)⟩) rfl (fun v μ1 => AW.rJ (fun x2 => (?_ : AW _ _ _ _ 6 _ _ _ _ _ _)) v)
  refine AW.lastL (r := 115) (by decide +kernel) rfl (fun μ3 => (?_ : AW _ _ _ _ 7 _ _ _ _ _ _))
  refine AW.goto (off := 9) (tgt := 16) (by decide +kernel) (by decide) ?_
  refine AW.iconst (n := 0) (by decide +kernel) (?_ : AW _ _ _ _ 17 _ _ _ _ _ _)
  exact AW.reti (by decide +kernel) rfl (by decide) (by decide)
theorem c_Law_close (l : Launch) (hl : l.stackTraces = false) (μ : ZMem) (v : Option ZV) (ν : ZMem) (h : F_Law_close μ = some (.inr v, ν)) : ZC l cf_Law_close S_A10 S_A10 [zR (some 0), zR (some 115)] μ (.inr v, ν) := ZC.ofH hl (by decide +kernel) (List.cons_ne_nil _ _) rfl (fun _ h => absurd h List.not_mem_nil) (Nat.le_of_ble_eq_true rfl) h (w_Law_close μ)
/-! WeirLedgerLaw.undo(LWeirLedger;[J)I -/
def cf_Law_undo : ZCf := (yL_undo, cL_undo, 3, some .int, [(0, 8, 11, 44)], 11, 1, 6, [], none)
theorem cal_Law_undo : zCalleeH cf_Law_undo 2 := ⟨List.cons_ne_nil _ _, zc_yL_undo, by decide, by decide, by decide +kernel⟩
def F_Law_undo (μ : ZMem) : Option ZRes := zCm pl_0 μ (F_Ledger_undo  (zVw pl_0 μ)) (zkI (fun x2 μ1 => zWr μ1 115 1 0 (w32 x2) (fun μ3 => some (.inr (some (zI 0)), μ3)))) (zXh [("java/lang/IllegalStateException", 1)])
set_option maxRecDepth 100000 in
theorem w_Law_undo (μ : ZMem) : AW cf_Law_undo S_A10.length S_A10 S_A10 0 [(0, zR (some 0)), (1, zR (some 115))] [] μ 0 0 (F_Law_undo μ) := by
  unfold F_Law_undo
  refine AW.aload_n (i := 1) (a := 115) (by decide +kernel) rfl (?_ : AW _ _ _ _ 1 _ _ _ _ _ _)
  refine AW.iconst (n := 0) (by decide +kernel) (?_ : AW _ _ _ _ 2 _ _ _ _ _ _)
  refine AW.aload_n (i := 0) (a := 0) (by decide +kernel) rfl (?_ : AW _ _ _ _ 3 _ _ _ _ _ _)
  refine AW.callVh (g := cf_Ledger_undo) (Sg := S_Ledger) (pl := pl_0) (av := []) (b0 := 0) (ci := 8) (idx := 69) (n := 0) (st := [zI 0, zR (some 115)]) (by decide +kernel) (fun l hl r hr => c_Ledger_undo l hl  _ r hr) sb_115 rfl cal_Ledger_undo rfl (zw4 zm_L_69 zi_yX8_undo zs_yX8_undo zn_X8) rfl rfl ⟨by decide, by decide, by decide, by decide⟩ (Nat.le_of_ble_eq_true rfl) (List.forall_mem_cons.mpr ⟨⟨11, 1, 2, ⟨[], [], (0, 8, 11, 44), rfl, (fun _ h => absurd h List.not_mem_nil), by decide, by decide, by decide, zcl_L_44, zcst_IllegalStateException, rfl⟩, ⟨by decide, Or.inl ⟨2, (by decide +kernel), rfl, rfl⟩⟩, (by decide +kernel), (by decide +kernel)⟩, (fun _ h => absurd h List.not_mem_nil)⟩) rfl (fun v μ1 => AW.rI (fun x2 => (?_ : AW _ _ _ _ 6 _ _ _ _ _ _)) v)
  refine AW.i2l (by decide +kernel) (?_ : AW _ _ _ _ 7 _ _ _ _ _ _)
  refine AW.lastL (r := 115) (by decide +kernel) rfl (fun μ3 => (?_ : AW _ _ _ _ 8 _ _ _ _ _ _))
  refine AW.goto (off := 6) (tgt := 14) (by decide +kernel) (by decide) ?_
  refine AW.iconst (n := 0) (by decide +kernel) (?_ : AW _ _ _ _ 15 _ _ _ _ _ _)
  exact AW.reti (by decide +kernel) rfl (by decide) (by decide)
theorem c_Law_undo (l : Launch) (hl : l.stackTraces = false) (μ : ZMem) (v : Option ZV) (ν : ZMem) (h : F_Law_undo μ = some (.inr v, ν)) : ZC l cf_Law_undo S_A10 S_A10 [zR (some 0), zR (some 115)] μ (.inr v, ν) := ZC.ofH hl (by decide +kernel) (List.cons_ne_nil _ _) rfl (fun _ h => absurd h List.not_mem_nil) (Nat.le_of_ble_eq_true rfl) h (w_Law_undo μ)
/-! WeirLedgerLaw.filling(LWeirLedger;III[J)I -/
def cf_Law_filling : ZCf := (yL_filling, cL_filling, 6, some .int, [(0, 11, 14, 28), (0, 11, 18, 13), (0, 11, 22, 22)], 11, 1, 6, [], none)
theorem cal_Law_filling : zCalleeH cf_Law_filling 5 := ⟨List.cons_ne_nil _ _, zc_yL_filling, by decide, by decide, by decide +kernel⟩
def F_Law_filling (a1 : Int) (a2 : Int) (a3 : Int) (μ : ZMem) : Option ZRes := zCm pl_0 μ (F_Ledger_filling a1 a2 a3 (zVw pl_0 μ)) (zkJ (fun x2 μ1 => zWr μ1 115 1 0 x2 (fun μ3 => some (.inr (some (zI 0)), μ3)))) (zXh [("java/lang/IndexOutOfBoundsException", 1), ("java/lang/IllegalArgumentException", 2), ("java/util/NoSuchElementException", 3)])
set_option maxRecDepth 100000 in
theorem w_Law_filling (a1 : Int) (a2 : Int) (a3 : Int) (μ : ZMem) : AW cf_Law_filling S_A10.length S_A10 S_A10 0 [(0, zR (some 0)), (1, zI a1), (2, zI a2), (3, zI a3), (4, zR (some 115))] [] μ 0 0 (F_Law_filling a1 a2 a3 μ) := by
  unfold F_Law_filling
  refine AW.aload (i := 4) (a := 115) (by decide +kernel) rfl (?_ : AW _ _ _ _ 2 _ _ _ _ _ _)
  refine AW.iconst (n := 0) (by decide +kernel) (?_ : AW _ _ _ _ 3 _ _ _ _ _ _)
  refine AW.aload_n (i := 0) (a := 0) (by decide +kernel) rfl (?_ : AW _ _ _ _ 4 _ _ _ _ _ _)
  refine AW.iload_n (i := 1) (a := a1) (by decide +kernel) rfl (?_ : AW _ _ _ _ 5 _ _ _ _ _ _)
  refine AW.iload_n (i := 2) (a := a2) (by decide +kernel) rfl (?_ : AW _ _ _ _ 6 _ _ _ _ _ _)
  refine AW.iload_n (i := 3) (a := a3) (by decide +kernel) rfl (?_ : AW _ _ _ _ 7 _ _ _ _ _ _)
  refine AW.callVh (g := cf_Ledger_filling) (Sg := S_Ledger) (pl := pl_0) (av := [zI a1, zI a2, zI a3]) (b0 := 0) (ci := 8) (idx := 72) (n := 3) (st := [zI 0, zR (some 115)]) (by decide +kernel) (fun l hl r hr => c_Ledger_filling l hl a1 a2 a3 _ r hr) sb_115 rfl cal_Ledger_filling rfl (zw4 zm_L_72 zi_yX8_filling zs_yX8_filling zn_X8) rfl rfl ⟨by decide, by decide, by decide, by decide⟩ (Nat.le_of_ble_eq_true rfl) (List.forall_mem_cons.mpr ⟨⟨14, 2, 5, ⟨[], [(0, 11, 18, 13), (0, 11, 22, 22)], (0, 11, 14, 28), rfl, (fun _ h => absurd h List.not_mem_nil), by decide, by decide, by decide, zcl_L_28, zcst_IndexOutOfBoundsException, rfl⟩, ⟨by decide, Or.inr ⟨(by decide +kernel), rfl⟩⟩, (by decide +kernel), (by decide +kernel)⟩, (List.forall_mem_cons.mpr ⟨⟨18, 2, 5, ⟨[(0, 11, 14, 28)], [(0, 11, 22, 22)], (0, 11, 18, 13), rfl, (List.forall_mem_cons.mpr ⟨⟨"java/lang/IndexOutOfBoundsException", by decide, zcl_L_28, by decide +kernel⟩, (fun _ h => absurd h List.not_mem_nil)⟩), by decide, by decide, by decide, zcl_L_13, zcst_IllegalArgumentException, rfl⟩, ⟨by decide, Or.inr ⟨(by decide +kernel), rfl⟩⟩, (by decide +kernel), (by decide +kernel)⟩, (List.forall_mem_cons.mpr ⟨⟨22, 2, 5, ⟨[(0, 11, 14, 28), (0, 11, 18, 13)], [], (0, 11, 22, 22), rfl, (List.forall_mem_cons.mpr ⟨⟨"java/lang/IndexOutOfBoundsException", by decide, zcl_L_28, by decide +kernel⟩, (List.forall_mem_cons.mpr ⟨⟨"java/lang/IllegalArgumentException", by decide, zcl_L_13, by decide +kernel⟩, (fun _ h => absurd h List.not_mem_nil)⟩)⟩), by decide, by decide, by decide, zcl_L_22, zcst_NoSuchElementException, rfl⟩, ⟨by decide, Or.inr ⟨(by decide +kernel), rfl⟩⟩, (by decide +kernel), (by decide +kernel)⟩, (fun _ h => absurd h List.not_mem_nil)⟩)⟩)⟩) rfl (fun v μ1 => AW.rJ (fun x2 => (?_ : AW _ _ _ _ 10 _ _ _ _ _ _)) v)
  refine AW.lastL (r := 115) (by decide +kernel) rfl (fun μ3 => (?_ : AW _ _ _ _ 11 _ _ _ _ _ _))
  refine AW.goto (off := 15) (tgt := 26) (by decide +kernel) (by decide) ?_
  refine AW.iconst (n := 0) (by decide +kernel) (?_ : AW _ _ _ _ 27 _ _ _ _ _ _)
  exact AW.reti (by decide +kernel) rfl (by decide) (by decide)
theorem c_Law_filling (l : Launch) (hl : l.stackTraces = false) (a1 : Int) (a2 : Int) (a3 : Int) (μ : ZMem) (v : Option ZV) (ν : ZMem) (h : F_Law_filling a1 a2 a3 μ = some (.inr v, ν)) : ZC l cf_Law_filling S_A10 S_A10 [zR (some 0), zI a1, zI a2, zI a3, zR (some 115)] μ (.inr v, ν) := ZC.ofH hl (by decide +kernel) (List.cons_ne_nil _ _) rfl (fun _ h => absurd h List.not_mem_nil) (Nat.le_of_ble_eq_true rfl) h (w_Law_filling a1 a2 a3 μ)
/-! WeirLedgerLaw.needed(LWeirLedger;II[J)I -/
def cf_Law_needed : ZCf := (yL_needed, cL_needed, 5, some .int, [(0, 10, 13, 28), (0, 10, 17, 22)], 11, 1, 6, [], none)
theorem cal_Law_needed : zCalleeH cf_Law_needed 4 := ⟨List.cons_ne_nil _ _, zc_yL_needed, by decide, by decide, by decide +kernel⟩
def F_Law_needed (a1 : Int) (a2 : Int) (μ : ZMem) : Option ZRes := zCm pl_0 μ (F_Ledger_needed a1 a2 (zVw pl_0 μ)) (zkI (fun x2 μ1 => zWr μ1 115 1 0 (w32 x2) (fun μ3 => some (.inr (some (zI 0)), μ3)))) (zXh [("java/lang/IndexOutOfBoundsException", 1), ("java/util/NoSuchElementException", 2)])
set_option maxRecDepth 100000 in
theorem w_Law_needed (a1 : Int) (a2 : Int) (μ : ZMem) : AW cf_Law_needed S_A10.length S_A10 S_A10 0 [(0, zR (some 0)), (1, zI a1), (2, zI a2), (3, zR (some 115))] [] μ 0 0 (F_Law_needed a1 a2 μ) := by
  unfold F_Law_needed
  refine AW.aload_n (i := 3) (a := 115) (by decide +kernel) rfl (?_ : AW _ _ _ _ 1 _ _ _ _ _ _)
  refine AW.iconst (n := 0) (by decide +kernel) (?_ : AW _ _ _ _ 2 _ _ _ _ _ _)
  refine AW.aload_n (i := 0) (a := 0) (by decide +kernel) rfl (?_ : AW _ _ _ _ 3 _ _ _ _ _ _)
  refine AW.iload_n (i := 1) (a := a1) (by decide +kernel) rfl (?_ : AW _ _ _ _ 4 _ _ _ _ _ _)
  refine AW.iload_n (i := 2) (a := a2) (by decide +kernel) rfl (?_ : AW _ _ _ _ 5 _ _ _ _ _ _)
  refine AW.callVh (g := cf_Ledger_needed) (Sg := S_Ledger) (pl := pl_0) (av := [zI a1, zI a2]) (b0 := 0) (ci := 8) (idx := 76) (n := 2) (st := [zI 0, zR (some 115)]) (by decide +kernel) (fun l hl r hr => c_Ledger_needed l hl a1 a2 _ r hr) sb_115 rfl cal_Ledger_needed rfl (zw4 zm_L_76 zi_yX8_needed zs_yX8_needed zn_X8) rfl rfl ⟨by decide, by decide, by decide, by decide⟩ (Nat.le_of_ble_eq_true rfl) (List.forall_mem_cons.mpr ⟨⟨13, 2, 4, ⟨[], [(0, 10, 17, 22)], (0, 10, 13, 28), rfl, (fun _ h => absurd h List.not_mem_nil), by decide, by decide, by decide, zcl_L_28, zcst_IndexOutOfBoundsException, rfl⟩, ⟨by decide, Or.inr ⟨(by decide +kernel), rfl⟩⟩, (by decide +kernel), (by decide +kernel)⟩, (List.forall_mem_cons.mpr ⟨⟨17, 2, 4, ⟨[(0, 10, 13, 28)], [], (0, 10, 17, 22), rfl, (List.forall_mem_cons.mpr ⟨⟨"java/lang/IndexOutOfBoundsException", by decide, zcl_L_28, by decide +kernel⟩, (fun _ h => absurd h List.not_mem_nil)⟩), by decide, by decide, by decide, zcl_L_22, zcst_NoSuchElementException, rfl⟩, ⟨by decide, Or.inr ⟨(by decide +kernel), rfl⟩⟩, (by decide +kernel), (by decide +kernel)⟩, (fun _ h => absurd h List.not_mem_nil)⟩)⟩) rfl (fun v μ1 => AW.rI (fun x2 => (?_ : AW _ _ _ _ 8 _ _ _ _ _ _)) v)
  refine AW.i2l (by decide +kernel) (?_ : AW _ _ _ _ 9 _ _ _ _ _ _)
  refine AW.lastL (r := 115) (by decide +kernel) rfl (fun μ3 => (?_ : AW _ _ _ _ 10 _ _ _ _ _ _))
  refine AW.goto (off := 11) (tgt := 21) (by decide +kernel) (by decide) ?_
  refine AW.iconst (n := 0) (by decide +kernel) (?_ : AW _ _ _ _ 22 _ _ _ _ _ _)
  exact AW.reti (by decide +kernel) rfl (by decide) (by decide)
theorem c_Law_needed (l : Launch) (hl : l.stackTraces = false) (a1 : Int) (a2 : Int) (μ : ZMem) (v : Option ZV) (ν : ZMem) (h : F_Law_needed a1 a2 μ = some (.inr v, ν)) : ZC l cf_Law_needed S_A10 S_A10 [zR (some 0), zI a1, zI a2, zR (some 115)] μ (.inr v, ν) := ZC.ofH hl (by decide +kernel) (List.cons_ne_nil _ _) rfl (fun _ h => absurd h List.not_mem_nil) (Nat.le_of_ble_eq_true rfl) h (w_Law_needed a1 a2 μ)
/-! WeirLedgerLaw.reaches(LWeirLedger;II[J)I -/
def cf_Law_reaches : ZCf := (yL_reaches, cL_reaches, 5, some .int, [(0, 10, 13, 28), (0, 10, 17, 13)], 11, 1, 6, [], none)
theorem cal_Law_reaches : zCalleeH cf_Law_reaches 4 := ⟨List.cons_ne_nil _ _, zc_yL_reaches, by decide, by decide, by decide +kernel⟩
def F_Law_reaches (a1 : Int) (a2 : Int) (μ : ZMem) : Option ZRes := zCm pl_0 μ (F_Ledger_reaches a1 a2 (zVw pl_0 μ)) (zkI (fun x2 μ1 => zWr μ1 115 1 0 (w32 x2) (fun μ3 => some (.inr (some (zI 0)), μ3)))) (zXh [("java/lang/IndexOutOfBoundsException", 1), ("java/lang/IllegalArgumentException", 2)])
set_option maxRecDepth 100000 in
theorem w_Law_reaches (a1 : Int) (a2 : Int) (μ : ZMem) : AW cf_Law_reaches S_A10.length S_A10 S_A10 0 [(0, zR (some 0)), (1, zI a1), (2, zI a2), (3, zR (some 115))] [] μ 0 0 (F_Law_reaches a1 a2 μ) := by
  unfold F_Law_reaches
  refine AW.aload_n (i := 3) (a := 115) (by decide +kernel) rfl (?_ : AW _ _ _ _ 1 _ _ _ _ _ _)
  refine AW.iconst (n := 0) (by decide +kernel) (?_ : AW _ _ _ _ 2 _ _ _ _ _ _)
  refine AW.aload_n (i := 0) (a := 0) (by decide +kernel) rfl (?_ : AW _ _ _ _ 3 _ _ _ _ _ _)
  refine AW.iload_n (i := 1) (a := a1) (by decide +kernel) rfl (?_ : AW _ _ _ _ 4 _ _ _ _ _ _)
  refine AW.iload_n (i := 2) (a := a2) (by decide +kernel) rfl (?_ : AW _ _ _ _ 5 _ _ _ _ _ _)
  refine AW.callVh (g := cf_Ledger_reaches) (Sg := S_Ledger) (pl := pl_0) (av := [zI a1, zI a2]) (b0 := 0) (ci := 8) (idx := 79) (n := 2) (st := [zI 0, zR (some 115)]) (by decide +kernel) (fun l hl r hr => c_Ledger_reaches l hl a1 a2 _ r hr) sb_115 rfl cal_Ledger_reaches rfl (zw4 zm_L_79 zi_yX8_reaches zs_yX8_reaches zn_X8) rfl rfl ⟨by decide, by decide, by decide, by decide⟩ (Nat.le_of_ble_eq_true rfl) (List.forall_mem_cons.mpr ⟨⟨13, 2, 4, ⟨[], [(0, 10, 17, 13)], (0, 10, 13, 28), rfl, (fun _ h => absurd h List.not_mem_nil), by decide, by decide, by decide, zcl_L_28, zcst_IndexOutOfBoundsException, rfl⟩, ⟨by decide, Or.inr ⟨(by decide +kernel), rfl⟩⟩, (by decide +kernel), (by decide +kernel)⟩, (List.forall_mem_cons.mpr ⟨⟨17, 2, 4, ⟨[(0, 10, 13, 28)], [], (0, 10, 17, 13), rfl, (List.forall_mem_cons.mpr ⟨⟨"java/lang/IndexOutOfBoundsException", by decide, zcl_L_28, by decide +kernel⟩, (fun _ h => absurd h List.not_mem_nil)⟩), by decide, by decide, by decide, zcl_L_13, zcst_IllegalArgumentException, rfl⟩, ⟨by decide, Or.inr ⟨(by decide +kernel), rfl⟩⟩, (by decide +kernel), (by decide +kernel)⟩, (fun _ h => absurd h List.not_mem_nil)⟩)⟩) rfl (fun v μ1 => AW.rI (fun x2 => (?_ : AW _ _ _ _ 8 _ _ _ _ _ _)) v)
  refine AW.i2l (by decide +kernel) (?_ : AW _ _ _ _ 9 _ _ _ _ _ _)
  refine AW.lastL (r := 115) (by decide +kernel) rfl (fun μ3 => (?_ : AW _ _ _ _ 10 _ _ _ _ _ _))
  refine AW.goto (off := 11) (tgt := 21) (by decide +kernel) (by decide) ?_
  refine AW.iconst (n := 0) (by decide +kernel) (?_ : AW _ _ _ _ 22 _ _ _ _ _ _)
  exact AW.reti (by decide +kernel) rfl (by decide) (by decide)
theorem c_Law_reaches (l : Launch) (hl : l.stackTraces = false) (a1 : Int) (a2 : Int) (μ : ZMem) (v : Option ZV) (ν : ZMem) (h : F_Law_reaches a1 a2 μ = some (.inr v, ν)) : ZC l cf_Law_reaches S_A10 S_A10 [zR (some 0), zI a1, zI a2, zR (some 115)] μ (.inr v, ν) := ZC.ofH hl (by decide +kernel) (List.cons_ne_nil _ _) rfl (fun _ h => absurd h List.not_mem_nil) (Nat.le_of_ble_eq_true rfl) h (w_Law_reaches a1 a2 μ)
/-! WeirLedgerLaw.share(LWeirLedger;III[J)I -/
def cf_Law_share : ZCf := (yL_share, cL_share, 6, some .int, [(0, 12, 15, 28), (0, 12, 19, 13)], 11, 1, 6, [], none)
theorem cal_Law_share : zCalleeH cf_Law_share 5 := ⟨List.cons_ne_nil _ _, zc_yL_share, by decide, by decide, by decide +kernel⟩
def F_Law_share (a1 : Int) (a2 : Int) (a3 : Int) (μ : ZMem) : Option ZRes := zCm pl_0 μ (F_Ledger_share a1 a2 a3 (zVw pl_0 μ)) (zkI (fun x2 μ1 => zWr μ1 115 1 0 (w32 x2) (fun μ3 => some (.inr (some (zI 0)), μ3)))) (zXh [("java/lang/IndexOutOfBoundsException", 1), ("java/lang/IllegalArgumentException", 2)])
set_option maxRecDepth 100000 in
theorem w_Law_share (a1 : Int) (a2 : Int) (a3 : Int) (μ : ZMem) : AW cf_Law_share S_A10.length S_A10 S_A10 0 [(0, zR (some 0)), (1, zI a1), (2, zI a2), (3, zI a3), (4, zR (some 115))] [] μ 0 0 (F_Law_share a1 a2 a3 μ) := by
  unfold F_Law_share
  refine AW.aload (i := 4) (a := 115) (by decide +kernel) rfl (?_ : AW _ _ _ _ 2 _ _ _ _ _ _)
  refine AW.iconst (n := 0) (by decide +kernel) (?_ : AW _ _ _ _ 3 _ _ _ _ _ _)
  refine AW.aload_n (i := 0) (a := 0) (by decide +kernel) rfl (?_ : AW _ _ _ _ 4 _ _ _ _ _ _)
  refine AW.iload_n (i := 1) (a := a1) (by decide +kernel) rfl (?_ : AW _ _ _ _ 5 _ _ _ _ _ _)
  refine AW.iload_n (i := 2) (a := a2) (by decide +kernel) rfl (?_ : AW _ _ _ _ 6 _ _ _ _ _ _)
  refine AW.iload_n (i := 3) (a := a3) (by decide +kernel) rfl (?_ : AW _ _ _ _ 7 _ _ _ _ _ _)
  refine AW.callVh (g := cf_Ledger_share) (Sg := S_Ledger) (pl := pl_0) (av := [zI a1, zI a2, zI a3]) (b0 := 0) (ci := 8) (idx := 82) (n := 3) (st := [zI 0, zR (some 115)]) (by decide +kernel) (fun l hl r hr => c_Ledger_share l hl a1 a2 a3 _ r hr) sb_115 rfl cal_Ledger_share rfl (zw4 zm_L_82 zi_yX8_share zs_yX8_share zn_X8) rfl rfl ⟨by decide, by decide, by decide, by decide⟩ (Nat.le_of_ble_eq_true rfl) (List.forall_mem_cons.mpr ⟨⟨15, 2, 5, ⟨[], [(0, 12, 19, 13)], (0, 12, 15, 28), rfl, (fun _ h => absurd h List.not_mem_nil), by decide, by decide, by decide, zcl_L_28, zcst_IndexOutOfBoundsException, rfl⟩, ⟨by decide, Or.inr ⟨(by decide +kernel), rfl⟩⟩, (by decide +kernel), (by decide +kernel)⟩, (List.forall_mem_cons.mpr ⟨⟨19, 2, 5, ⟨[(0, 12, 15, 28)], [], (0, 12, 19, 13), rfl, (List.forall_mem_cons.mpr ⟨⟨"java/lang/IndexOutOfBoundsException", by decide, zcl_L_28, by decide +kernel⟩, (fun _ h => absurd h List.not_mem_nil)⟩), by decide, by decide, by decide, zcl_L_13, zcst_IllegalArgumentException, rfl⟩, ⟨by decide, Or.inr ⟨(by decide +kernel), rfl⟩⟩, (by decide +kernel), (by decide +kernel)⟩, (fun _ h => absurd h List.not_mem_nil)⟩)⟩) rfl (fun v μ1 => AW.rI (fun x2 => (?_ : AW _ _ _ _ 10 _ _ _ _ _ _)) v)
  refine AW.i2l (by decide +kernel) (?_ : AW _ _ _ _ 11 _ _ _ _ _ _)
  refine AW.lastL (r := 115) (by decide +kernel) rfl (fun μ3 => (?_ : AW _ _ _ _ 12 _ _ _ _ _ _))
  refine AW.goto (off := 11) (tgt := 23) (by decide +kernel) (by decide) ?_
  refine AW.iconst (n := 0) (by decide +kernel) (?_ : AW _ _ _ _ 24 _ _ _ _ _ _)
  exact AW.reti (by decide +kernel) rfl (by decide) (by decide)
theorem c_Law_share (l : Launch) (hl : l.stackTraces = false) (a1 : Int) (a2 : Int) (a3 : Int) (μ : ZMem) (v : Option ZV) (ν : ZMem) (h : F_Law_share a1 a2 a3 μ = some (.inr v, ν)) : ZC l cf_Law_share S_A10 S_A10 [zR (some 0), zI a1, zI a2, zI a3, zR (some 115)] μ (.inr v, ν) := ZC.ofH hl (by decide +kernel) (List.cons_ne_nil _ _) rfl (fun _ h => absurd h List.not_mem_nil) (Nat.le_of_ble_eq_true rfl) h (w_Law_share a1 a2 a3 μ)
/-! WeirLedgerLaw.soldOut(LWeirLedger;I[J)I -/
def cf_Law_soldOut : ZCf := (yL_soldOut, cL_soldOut, 4, some .int, [(0, 8, 11, 22)], 11, 1, 6, [], none)
theorem cal_Law_soldOut : zCalleeH cf_Law_soldOut 3 := ⟨List.cons_ne_nil _ _, zc_yL_soldOut, by decide, by decide, by decide +kernel⟩
def F_Law_soldOut (a1 : Int) (μ : ZMem) : Option ZRes := zCm pl_0 μ (F_Ledger_soldOut a1 (zVw pl_0 μ)) (zkJ (fun x2 μ1 => zWr μ1 115 1 0 x2 (fun μ3 => some (.inr (some (zI 0)), μ3)))) (zXh [("java/util/NoSuchElementException", 1)])
set_option maxRecDepth 100000 in
theorem w_Law_soldOut (a1 : Int) (μ : ZMem) : AW cf_Law_soldOut S_A10.length S_A10 S_A10 0 [(0, zR (some 0)), (1, zI a1), (2, zR (some 115))] [] μ 0 0 (F_Law_soldOut a1 μ) := by
  unfold F_Law_soldOut
  refine AW.aload_n (i := 2) (a := 115) (by decide +kernel) rfl (?_ : AW _ _ _ _ 1 _ _ _ _ _ _)
  refine AW.iconst (n := 0) (by decide +kernel) (?_ : AW _ _ _ _ 2 _ _ _ _ _ _)
  refine AW.aload_n (i := 0) (a := 0) (by decide +kernel) rfl (?_ : AW _ _ _ _ 3 _ _ _ _ _ _)
  refine AW.iload_n (i := 1) (a := a1) (by decide +kernel) rfl (?_ : AW _ _ _ _ 4 _ _ _ _ _ _)
  refine AW.callVh (g := cf_Ledger_soldOut) (Sg := S_Ledger) (pl := pl_0) (av := [zI a1]) (b0 := 0) (ci := 8) (idx := 85) (n := 1) (st := [zI 0, zR (some 115)]) (by decide +kernel) (fun l hl r hr => c_Ledger_soldOut l hl a1 _ r hr) sb_115 rfl cal_Ledger_soldOut rfl (zw4 zm_L_85 zi_yX8_soldOut zs_yX8_soldOut zn_X8) rfl rfl ⟨by decide, by decide, by decide, by decide⟩ (Nat.le_of_ble_eq_true rfl) (List.forall_mem_cons.mpr ⟨⟨11, 1, 3, ⟨[], [], (0, 8, 11, 22), rfl, (fun _ h => absurd h List.not_mem_nil), by decide, by decide, by decide, zcl_L_22, zcst_NoSuchElementException, rfl⟩, ⟨by decide, Or.inl ⟨3, (by decide +kernel), rfl, rfl⟩⟩, (by decide +kernel), (by decide +kernel)⟩, (fun _ h => absurd h List.not_mem_nil)⟩) rfl (fun v μ1 => AW.rJ (fun x2 => (?_ : AW _ _ _ _ 7 _ _ _ _ _ _)) v)
  refine AW.lastL (r := 115) (by decide +kernel) rfl (fun μ3 => (?_ : AW _ _ _ _ 8 _ _ _ _ _ _))
  refine AW.goto (off := 6) (tgt := 14) (by decide +kernel) (by decide) ?_
  refine AW.iconst (n := 0) (by decide +kernel) (?_ : AW _ _ _ _ 15 _ _ _ _ _ _)
  exact AW.reti (by decide +kernel) rfl (by decide) (by decide)
theorem c_Law_soldOut (l : Launch) (hl : l.stackTraces = false) (a1 : Int) (μ : ZMem) (v : Option ZV) (ν : ZMem) (h : F_Law_soldOut a1 μ = some (.inr v, ν)) : ZC l cf_Law_soldOut S_A10 S_A10 [zR (some 0), zI a1, zR (some 115)] μ (.inr v, ν) := ZC.ofH hl (by decide +kernel) (List.cons_ne_nil _ _) rfl (fun _ h => absurd h List.not_mem_nil) (Nat.le_of_ble_eq_true rfl) h (w_Law_soldOut a1 μ)
/-! WeirLedgerLaw.would(LWeirLedger;II[J)I -/
def cf_Law_would : ZCf := (yL_would, cL_would, 5, some .int, [(0, 9, 12, 22), (0, 9, 16, 13)], 11, 1, 6, [], none)
theorem cal_Law_would : zCalleeH cf_Law_would 4 := ⟨List.cons_ne_nil _ _, zc_yL_would, by decide, by decide, by decide +kernel⟩
def F_Law_would (a1 : Int) (a2 : Int) (μ : ZMem) : Option ZRes := zCm pl_0 μ (F_Ledger_would a1 a2 (zVw pl_0 μ)) (zkJ (fun x2 μ1 => zWr μ1 115 1 0 x2 (fun μ3 => some (.inr (some (zI 0)), μ3)))) (zXh [("java/util/NoSuchElementException", 1), ("java/lang/IllegalArgumentException", 2)])
set_option maxRecDepth 100000 in
theorem w_Law_would (a1 : Int) (a2 : Int) (μ : ZMem) : AW cf_Law_would S_A10.length S_A10 S_A10 0 [(0, zR (some 0)), (1, zI a1), (2, zI a2), (3, zR (some 115))] [] μ 0 0 (F_Law_would a1 a2 μ) := by
  unfold F_Law_would
  refine AW.aload_n (i := 3) (a := 115) (by decide +kernel) rfl (?_ : AW _ _ _ _ 1 _ _ _ _ _ _)
  refine AW.iconst (n := 0) (by decide +kernel) (?_ : AW _ _ _ _ 2 _ _ _ _ _ _)
  refine AW.aload_n (i := 0) (a := 0) (by decide +kernel) rfl (?_ : AW _ _ _ _ 3 _ _ _ _ _ _)
  refine AW.iload_n (i := 1) (a := a1) (by decide +kernel) rfl (?_ : AW _ _ _ _ 4 _ _ _ _ _ _)
  refine AW.iload_n (i := 2) (a := a2) (by decide +kernel) rfl (?_ : AW _ _ _ _ 5 _ _ _ _ _ _)
  refine AW.callVh (g := cf_Ledger_would) (Sg := S_Ledger) (pl := pl_0) (av := [zI a1, zI a2]) (b0 := 0) (ci := 8) (idx := 88) (n := 2) (st := [zI 0, zR (some 115)]) (by decide +kernel) (fun l hl r hr => c_Ledger_would l hl a1 a2 _ r hr) sb_115 rfl cal_Ledger_would rfl (zw4 zm_L_88 zi_yX8_would zs_yX8_would zn_X8) rfl rfl ⟨by decide, by decide, by decide, by decide⟩ (Nat.le_of_ble_eq_true rfl) (List.forall_mem_cons.mpr ⟨⟨12, 2, 4, ⟨[], [(0, 9, 16, 13)], (0, 9, 12, 22), rfl, (fun _ h => absurd h List.not_mem_nil), by decide, by decide, by decide, zcl_L_22, zcst_NoSuchElementException, rfl⟩, ⟨by decide, Or.inr ⟨(by decide +kernel), rfl⟩⟩, (by decide +kernel), (by decide +kernel)⟩, (List.forall_mem_cons.mpr ⟨⟨16, 2, 4, ⟨[(0, 9, 12, 22)], [], (0, 9, 16, 13), rfl, (List.forall_mem_cons.mpr ⟨⟨"java/util/NoSuchElementException", by decide, zcl_L_22, by decide +kernel⟩, (fun _ h => absurd h List.not_mem_nil)⟩), by decide, by decide, by decide, zcl_L_13, zcst_IllegalArgumentException, rfl⟩, ⟨by decide, Or.inr ⟨(by decide +kernel), rfl⟩⟩, (by decide +kernel), (by decide +kernel)⟩, (fun _ h => absurd h List.not_mem_nil)⟩)⟩) rfl (fun v μ1 => AW.rJ (fun x2 => (?_ : AW _ _ _ _ 8 _ _ _ _ _ _)) v)
  refine AW.lastL (r := 115) (by decide +kernel) rfl (fun μ3 => (?_ : AW _ _ _ _ 9 _ _ _ _ _ _))
  refine AW.goto (off := 11) (tgt := 20) (by decide +kernel) (by decide) ?_
  refine AW.iconst (n := 0) (by decide +kernel) (?_ : AW _ _ _ _ 21 _ _ _ _ _ _)
  exact AW.reti (by decide +kernel) rfl (by decide) (by decide)
theorem c_Law_would (l : Launch) (hl : l.stackTraces = false) (a1 : Int) (a2 : Int) (μ : ZMem) (v : Option ZV) (ν : ZMem) (h : F_Law_would a1 a2 μ = some (.inr v, ν)) : ZC l cf_Law_would S_A10 S_A10 [zR (some 0), zI a1, zI a2, zR (some 115)] μ (.inr v, ν) := ZC.ofH hl (by decide +kernel) (List.cons_ne_nil _ _) rfl (fun _ h => absurd h List.not_mem_nil) (Nat.le_of_ble_eq_true rfl) h (w_Law_would a1 a2 μ)
/-! WeirLedgerLaw.bar(LWeirLedger;I[J)I -/
def cf_Law_bar : ZCf := (yL_bar, cL_bar, 4, some .int, [(0, 9, 12, 13)], 11, 1, 6, [], none)
theorem cal_Law_bar : zCalleeH cf_Law_bar 3 := ⟨List.cons_ne_nil _ _, zc_yL_bar, by decide, by decide, by decide +kernel⟩
def F_Law_bar (a1 : Int) (μ : ZMem) : Option ZRes := zCm pl_0 μ (F_Ledger_bar a1 (zVw pl_0 μ)) (zkI (fun x2 μ1 => zWr μ1 115 1 0 (w32 x2) (fun μ3 => some (.inr (some (zI 0)), μ3)))) (zXh [("java/lang/IllegalArgumentException", 1)])
set_option maxRecDepth 100000 in
theorem w_Law_bar (a1 : Int) (μ : ZMem) : AW cf_Law_bar S_A10.length S_A10 S_A10 0 [(0, zR (some 0)), (1, zI a1), (2, zR (some 115))] [] μ 0 0 (F_Law_bar a1 μ) := by
  unfold F_Law_bar
  refine AW.aload_n (i := 2) (a := 115) (by decide +kernel) rfl (?_ : AW _ _ _ _ 1 _ _ _ _ _ _)
  refine AW.iconst (n := 0) (by decide +kernel) (?_ : AW _ _ _ _ 2 _ _ _ _ _ _)
  refine AW.aload_n (i := 0) (a := 0) (by decide +kernel) rfl (?_ : AW _ _ _ _ 3 _ _ _ _ _ _)
  refine AW.iload_n (i := 1) (a := a1) (by decide +kernel) rfl (?_ : AW _ _ _ _ 4 _ _ _ _ _ _)
  refine AW.callVh (g := cf_Ledger_bar) (Sg := S_Ledger) (pl := pl_0) (av := [zI a1]) (b0 := 0) (ci := 8) (idx := 91) (n := 1) (st := [zI 0, zR (some 115)]) (by decide +kernel) (fun l hl r hr => c_Ledger_bar l hl a1 _ r hr) sb_115 rfl cal_Ledger_bar rfl (zw4 zm_L_91 zi_yX8_bar zs_yX8_bar zn_X8) rfl rfl ⟨by decide, by decide, by decide, by decide⟩ (Nat.le_of_ble_eq_true rfl) (List.forall_mem_cons.mpr ⟨⟨12, 1, 3, ⟨[], [], (0, 9, 12, 13), rfl, (fun _ h => absurd h List.not_mem_nil), by decide, by decide, by decide, zcl_L_13, zcst_IllegalArgumentException, rfl⟩, ⟨by decide, Or.inl ⟨3, (by decide +kernel), rfl, rfl⟩⟩, (by decide +kernel), (by decide +kernel)⟩, (fun _ h => absurd h List.not_mem_nil)⟩) rfl (fun v μ1 => AW.rI (fun x2 => (?_ : AW _ _ _ _ 7 _ _ _ _ _ _)) v)
  refine AW.i2l (by decide +kernel) (?_ : AW _ _ _ _ 8 _ _ _ _ _ _)
  refine AW.lastL (r := 115) (by decide +kernel) rfl (fun μ3 => (?_ : AW _ _ _ _ 9 _ _ _ _ _ _))
  refine AW.goto (off := 6) (tgt := 15) (by decide +kernel) (by decide) ?_
  refine AW.iconst (n := 0) (by decide +kernel) (?_ : AW _ _ _ _ 16 _ _ _ _ _ _)
  exact AW.reti (by decide +kernel) rfl (by decide) (by decide)
theorem c_Law_bar (l : Launch) (hl : l.stackTraces = false) (a1 : Int) (μ : ZMem) (v : Option ZV) (ν : ZMem) (h : F_Law_bar a1 μ = some (.inr v, ν)) : ZC l cf_Law_bar S_A10 S_A10 [zR (some 0), zI a1, zR (some 115)] μ (.inr v, ν) := ZC.ofH hl (by decide +kernel) (List.cons_ne_nil _ _) rfl (fun _ h => absurd h List.not_mem_nil) (Nat.le_of_ble_eq_true rfl) h (w_Law_bar a1 μ)
/-! WeirLedgerLaw.drift(LWeirLedger;I[J)I -/
def cf_Law_drift : ZCf := (yL_drift, cL_drift, 4, some .int, [(0, 8, 11, 28)], 11, 1, 6, [], none)
theorem cal_Law_drift : zCalleeH cf_Law_drift 3 := ⟨List.cons_ne_nil _ _, zc_yL_drift, by decide, by decide, by decide +kernel⟩
def F_Law_drift (a1 : Int) (μ : ZMem) : Option ZRes := zCm pl_0 μ (F_Ledger_drift a1 (zVw pl_0 μ)) (zkJ (fun x2 μ1 => zWr μ1 115 1 0 x2 (fun μ3 => some (.inr (some (zI 0)), μ3)))) (zXh [("java/lang/IndexOutOfBoundsException", 1)])
set_option maxRecDepth 100000 in
theorem w_Law_drift (a1 : Int) (μ : ZMem) : AW cf_Law_drift S_A10.length S_A10 S_A10 0 [(0, zR (some 0)), (1, zI a1), (2, zR (some 115))] [] μ 0 0 (F_Law_drift a1 μ) := by
  unfold F_Law_drift
  refine AW.aload_n (i := 2) (a := 115) (by decide +kernel) rfl (?_ : AW _ _ _ _ 1 _ _ _ _ _ _)
  refine AW.iconst (n := 0) (by decide +kernel) (?_ : AW _ _ _ _ 2 _ _ _ _ _ _)
  refine AW.aload_n (i := 0) (a := 0) (by decide +kernel) rfl (?_ : AW _ _ _ _ 3 _ _ _ _ _ _)
  refine AW.iload_n (i := 1) (a := a1) (by decide +kernel) rfl (?_ : AW _ _ _ _ 4 _ _ _ _ _ _)
  refine AW.callVh (g := cf_Ledger_drift) (Sg := S_Ledger) (pl := pl_0) (av := [zI a1]) (b0 := 0) (ci := 8) (idx := 94) (n := 1) (st := [zI 0, zR (some 115)]) (by decide +kernel) (fun l hl r hr => c_Ledger_drift l hl a1 _ r hr) sb_115 rfl cal_Ledger_drift rfl (zw4 zm_L_94 zi_yX8_drift zs_yX8_drift zn_X8) rfl rfl ⟨by decide, by decide, by decide, by decide⟩ (Nat.le_of_ble_eq_true rfl) (List.forall_mem_cons.mpr ⟨⟨11, 1, 3, ⟨[], [], (0, 8, 11, 28), rfl, (fun _ h => absurd h List.not_mem_nil), by decide, by decide, by decide, zcl_L_28, zcst_IndexOutOfBoundsException, rfl⟩, ⟨by decide, Or.inl ⟨3, (by decide +kernel), rfl, rfl⟩⟩, (by decide +kernel), (by decide +kernel)⟩, (fun _ h => absurd h List.not_mem_nil)⟩) rfl (fun v μ1 => AW.rJ (fun x2 => (?_ : AW _ _ _ _ 7 _ _ _ _ _ _)) v)
  refine AW.lastL (r := 115) (by decide +kernel) rfl (fun μ3 => (?_ : AW _ _ _ _ 8 _ _ _ _ _ _))
  refine AW.goto (off := 6) (tgt := 14) (by decide +kernel) (by decide) ?_
  refine AW.iconst (n := 0) (by decide +kernel) (?_ : AW _ _ _ _ 15 _ _ _ _ _ _)
  exact AW.reti (by decide +kernel) rfl (by decide) (by decide)
theorem c_Law_drift (l : Launch) (hl : l.stackTraces = false) (a1 : Int) (μ : ZMem) (v : Option ZV) (ν : ZMem) (h : F_Law_drift a1 μ = some (.inr v, ν)) : ZC l cf_Law_drift S_A10 S_A10 [zR (some 0), zI a1, zR (some 115)] μ (.inr v, ν) := ZC.ofH hl (by decide +kernel) (List.cons_ne_nil _ _) rfl (fun _ h => absurd h List.not_mem_nil) (Nat.le_of_ble_eq_true rfl) h (w_Law_drift a1 μ)
/-! WeirLedgerLaw.swapped(LWeirLedger;I[J)I -/
def cf_Law_swapped : ZCf := (yL_swapped, cL_swapped, 4, some .int, [(0, 8, 11, 28)], 11, 1, 6, [], none)
theorem cal_Law_swapped : zCalleeH cf_Law_swapped 3 := ⟨List.cons_ne_nil _ _, zc_yL_swapped, by decide, by decide, by decide +kernel⟩
def F_Law_swapped (a1 : Int) (μ : ZMem) : Option ZRes := zCm pl_0 μ (F_Ledger_swapped a1 (zVw pl_0 μ)) (zkJ (fun x2 μ1 => zWr μ1 115 1 0 x2 (fun μ3 => some (.inr (some (zI 0)), μ3)))) (zXh [("java/lang/IndexOutOfBoundsException", 1)])
set_option maxRecDepth 100000 in
theorem w_Law_swapped (a1 : Int) (μ : ZMem) : AW cf_Law_swapped S_A10.length S_A10 S_A10 0 [(0, zR (some 0)), (1, zI a1), (2, zR (some 115))] [] μ 0 0 (F_Law_swapped a1 μ) := by
  unfold F_Law_swapped
  refine AW.aload_n (i := 2) (a := 115) (by decide +kernel) rfl (?_ : AW _ _ _ _ 1 _ _ _ _ _ _)
  refine AW.iconst (n := 0) (by decide +kernel) (?_ : AW _ _ _ _ 2 _ _ _ _ _ _)
  refine AW.aload_n (i := 0) (a := 0) (by decide +kernel) rfl (?_ : AW _ _ _ _ 3 _ _ _ _ _ _)
  refine AW.iload_n (i := 1) (a := a1) (by decide +kernel) rfl (?_ : AW _ _ _ _ 4 _ _ _ _ _ _)
  refine AW.callVh (g := cf_Ledger_swapped) (Sg := S_Ledger) (pl := pl_0) (av := [zI a1]) (b0 := 0) (ci := 8) (idx := 97) (n := 1) (st := [zI 0, zR (some 115)]) (by decide +kernel) (fun l hl r hr => c_Ledger_swapped l hl a1 _ r hr) sb_115 rfl cal_Ledger_swapped rfl (zw4 zm_L_97 zi_yX8_swapped zs_yX8_swapped zn_X8) rfl rfl ⟨by decide, by decide, by decide, by decide⟩ (Nat.le_of_ble_eq_true rfl) (List.forall_mem_cons.mpr ⟨⟨11, 1, 3, ⟨[], [], (0, 8, 11, 28), rfl, (fun _ h => absurd h List.not_mem_nil), by decide, by decide, by decide, zcl_L_28, zcst_IndexOutOfBoundsException, rfl⟩, ⟨by decide, Or.inl ⟨3, (by decide +kernel), rfl, rfl⟩⟩, (by decide +kernel), (by decide +kernel)⟩, (fun _ h => absurd h List.not_mem_nil)⟩) rfl (fun v μ1 => AW.rJ (fun x2 => (?_ : AW _ _ _ _ 7 _ _ _ _ _ _)) v)
  refine AW.lastL (r := 115) (by decide +kernel) rfl (fun μ3 => (?_ : AW _ _ _ _ 8 _ _ _ _ _ _))
  refine AW.goto (off := 6) (tgt := 14) (by decide +kernel) (by decide) ?_
  refine AW.iconst (n := 0) (by decide +kernel) (?_ : AW _ _ _ _ 15 _ _ _ _ _ _)
  exact AW.reti (by decide +kernel) rfl (by decide) (by decide)
theorem c_Law_swapped (l : Launch) (hl : l.stackTraces = false) (a1 : Int) (μ : ZMem) (v : Option ZV) (ν : ZMem) (h : F_Law_swapped a1 μ = some (.inr v, ν)) : ZC l cf_Law_swapped S_A10 S_A10 [zR (some 0), zI a1, zR (some 115)] μ (.inr v, ν) := ZC.ofH hl (by decide +kernel) (List.cons_ne_nil _ _) rfl (fun _ h => absurd h List.not_mem_nil) (Nat.le_of_ble_eq_true rfl) h (w_Law_swapped a1 μ)
/-! WeirLedgerLaw.without(LWeirLedger;I[J)I -/
def cf_Law_without : ZCf := (yL_without, cL_without, 4, some .int, [(0, 8, 11, 28)], 11, 1, 6, [], none)
theorem cal_Law_without : zCalleeH cf_Law_without 3 := ⟨List.cons_ne_nil _ _, zc_yL_without, by decide, by decide, by decide +kernel⟩
def F_Law_without (a1 : Int) (μ : ZMem) : Option ZRes := zCm pl_0 μ (F_Ledger_without a1 (zVw pl_0 μ)) (zkJ (fun x2 μ1 => zWr μ1 115 1 0 x2 (fun μ3 => some (.inr (some (zI 0)), μ3)))) (zXh [("java/lang/IndexOutOfBoundsException", 1)])
set_option maxRecDepth 100000 in
theorem w_Law_without (a1 : Int) (μ : ZMem) : AW cf_Law_without S_A10.length S_A10 S_A10 0 [(0, zR (some 0)), (1, zI a1), (2, zR (some 115))] [] μ 0 0 (F_Law_without a1 μ) := by
  unfold F_Law_without
  refine AW.aload_n (i := 2) (a := 115) (by decide +kernel) rfl (?_ : AW _ _ _ _ 1 _ _ _ _ _ _)
  refine AW.iconst (n := 0) (by decide +kernel) (?_ : AW _ _ _ _ 2 _ _ _ _ _ _)
  refine AW.aload_n (i := 0) (a := 0) (by decide +kernel) rfl (?_ : AW _ _ _ _ 3 _ _ _ _ _ _)
  refine AW.iload_n (i := 1) (a := a1) (by decide +kernel) rfl (?_ : AW _ _ _ _ 4 _ _ _ _ _ _)
  refine AW.callVh (g := cf_Ledger_without) (Sg := S_Ledger) (pl := pl_0) (av := [zI a1]) (b0 := 0) (ci := 8) (idx := 100) (n := 1) (st := [zI 0, zR (some 115)]) (by decide +kernel) (fun l hl r hr => c_Ledger_without l hl a1 _ r hr) sb_115 rfl cal_Ledger_without rfl (zw4 zm_L_100 zi_yX8_without zs_yX8_without zn_X8) rfl rfl ⟨by decide, by decide, by decide, by decide⟩ (Nat.le_of_ble_eq_true rfl) (List.forall_mem_cons.mpr ⟨⟨11, 1, 3, ⟨[], [], (0, 8, 11, 28), rfl, (fun _ h => absurd h List.not_mem_nil), by decide, by decide, by decide, zcl_L_28, zcst_IndexOutOfBoundsException, rfl⟩, ⟨by decide, Or.inl ⟨3, (by decide +kernel), rfl, rfl⟩⟩, (by decide +kernel), (by decide +kernel)⟩, (fun _ h => absurd h List.not_mem_nil)⟩) rfl (fun v μ1 => AW.rJ (fun x2 => (?_ : AW _ _ _ _ 7 _ _ _ _ _ _)) v)
  refine AW.lastL (r := 115) (by decide +kernel) rfl (fun μ3 => (?_ : AW _ _ _ _ 8 _ _ _ _ _ _))
  refine AW.goto (off := 6) (tgt := 14) (by decide +kernel) (by decide) ?_
  refine AW.iconst (n := 0) (by decide +kernel) (?_ : AW _ _ _ _ 15 _ _ _ _ _ _)
  exact AW.reti (by decide +kernel) rfl (by decide) (by decide)
theorem c_Law_without (l : Launch) (hl : l.stackTraces = false) (a1 : Int) (μ : ZMem) (v : Option ZV) (ν : ZMem) (h : F_Law_without a1 μ = some (.inr v, ν)) : ZC l cf_Law_without S_A10 S_A10 [zR (some 0), zI a1, zR (some 115)] μ (.inr v, ν) := ZC.ofH hl (by decide +kernel) (List.cons_ne_nil _ _) rfl (fun _ h => absurd h List.not_mem_nil) (Nat.le_of_ble_eq_true rfl) h (w_Law_without a1 μ)
/-! WeirLedgerLaw.behind(LWeirLedger;II[J)I -/
def cf_Law_behind : ZCf := (yL_behind, cL_behind, 5, some .int, [(0, 9, 12, 28), (0, 9, 16, 22)], 11, 1, 6, [], none)
theorem cal_Law_behind : zCalleeH cf_Law_behind 4 := ⟨List.cons_ne_nil _ _, zc_yL_behind, by decide, by decide, by decide +kernel⟩
def F_Law_behind (a1 : Int) (a2 : Int) (μ : ZMem) : Option ZRes := zCm pl_0 μ (F_Ledger_behind a1 a2 (zVw pl_0 μ)) (zkJ (fun x2 μ1 => zWr μ1 115 1 0 x2 (fun μ3 => some (.inr (some (zI 0)), μ3)))) (zXh [("java/lang/IndexOutOfBoundsException", 1), ("java/util/NoSuchElementException", 2)])
set_option maxRecDepth 100000 in
theorem w_Law_behind (a1 : Int) (a2 : Int) (μ : ZMem) : AW cf_Law_behind S_A10.length S_A10 S_A10 0 [(0, zR (some 0)), (1, zI a1), (2, zI a2), (3, zR (some 115))] [] μ 0 0 (F_Law_behind a1 a2 μ) := by
  unfold F_Law_behind
  refine AW.aload_n (i := 3) (a := 115) (by decide +kernel) rfl (?_ : AW _ _ _ _ 1 _ _ _ _ _ _)
  refine AW.iconst (n := 0) (by decide +kernel) (?_ : AW _ _ _ _ 2 _ _ _ _ _ _)
  refine AW.aload_n (i := 0) (a := 0) (by decide +kernel) rfl (?_ : AW _ _ _ _ 3 _ _ _ _ _ _)
  refine AW.iload_n (i := 1) (a := a1) (by decide +kernel) rfl (?_ : AW _ _ _ _ 4 _ _ _ _ _ _)
  refine AW.iload_n (i := 2) (a := a2) (by decide +kernel) rfl (?_ : AW _ _ _ _ 5 _ _ _ _ _ _)
  refine AW.callVh (g := cf_Ledger_behind) (Sg := S_Ledger) (pl := pl_0) (av := [zI a1, zI a2]) (b0 := 0) (ci := 8) (idx := 103) (n := 2) (st := [zI 0, zR (some 115)]) (by decide +kernel) (fun l hl r hr => c_Ledger_behind l hl a1 a2 _ r hr) sb_115 rfl cal_Ledger_behind rfl (zw4 zm_L_103 zi_yX8_behind zs_yX8_behind zn_X8) rfl rfl ⟨by decide, by decide, by decide, by decide⟩ (Nat.le_of_ble_eq_true rfl) (List.forall_mem_cons.mpr ⟨⟨12, 2, 4, ⟨[], [(0, 9, 16, 22)], (0, 9, 12, 28), rfl, (fun _ h => absurd h List.not_mem_nil), by decide, by decide, by decide, zcl_L_28, zcst_IndexOutOfBoundsException, rfl⟩, ⟨by decide, Or.inr ⟨(by decide +kernel), rfl⟩⟩, (by decide +kernel), (by decide +kernel)⟩, (List.forall_mem_cons.mpr ⟨⟨16, 2, 4, ⟨[(0, 9, 12, 28)], [], (0, 9, 16, 22), rfl, (List.forall_mem_cons.mpr ⟨⟨"java/lang/IndexOutOfBoundsException", by decide, zcl_L_28, by decide +kernel⟩, (fun _ h => absurd h List.not_mem_nil)⟩), by decide, by decide, by decide, zcl_L_22, zcst_NoSuchElementException, rfl⟩, ⟨by decide, Or.inr ⟨(by decide +kernel), rfl⟩⟩, (by decide +kernel), (by decide +kernel)⟩, (fun _ h => absurd h List.not_mem_nil)⟩)⟩) rfl (fun v μ1 => AW.rJ (fun x2 => (?_ : AW _ _ _ _ 8 _ _ _ _ _ _)) v)
  refine AW.lastL (r := 115) (by decide +kernel) rfl (fun μ3 => (?_ : AW _ _ _ _ 9 _ _ _ _ _ _))
  refine AW.goto (off := 11) (tgt := 20) (by decide +kernel) (by decide) ?_
  refine AW.iconst (n := 0) (by decide +kernel) (?_ : AW _ _ _ _ 21 _ _ _ _ _ _)
  exact AW.reti (by decide +kernel) rfl (by decide) (by decide)
theorem c_Law_behind (l : Launch) (hl : l.stackTraces = false) (a1 : Int) (a2 : Int) (μ : ZMem) (v : Option ZV) (ν : ZMem) (h : F_Law_behind a1 a2 μ = some (.inr v, ν)) : ZC l cf_Law_behind S_A10 S_A10 [zR (some 0), zI a1, zI a2, zR (some 115)] μ (.inr v, ν) := ZC.ofH hl (by decide +kernel) (List.cons_ne_nil _ _) rfl (fun _ h => absurd h List.not_mem_nil) (Nat.le_of_ble_eq_true rfl) h (w_Law_behind a1 a2 μ)
/-! WeirLedgerLaw.owed(LWeirLedger;II[J)I -/
def cf_Law_owed : ZCf := (yL_owed, cL_owed, 5, some .int, [(0, 9, 12, 28), (0, 9, 16, 13)], 11, 1, 6, [], none)
theorem cal_Law_owed : zCalleeH cf_Law_owed 4 := ⟨List.cons_ne_nil _ _, zc_yL_owed, by decide, by decide, by decide +kernel⟩
def F_Law_owed (a1 : Int) (a2 : Int) (μ : ZMem) : Option ZRes := zCm pl_0 μ (F_Ledger_owed a1 a2 (zVw pl_0 μ)) (zkJ (fun x2 μ1 => zWr μ1 115 1 0 x2 (fun μ3 => some (.inr (some (zI 0)), μ3)))) (zXh [("java/lang/IndexOutOfBoundsException", 1), ("java/lang/IllegalArgumentException", 2)])
set_option maxRecDepth 100000 in
theorem w_Law_owed (a1 : Int) (a2 : Int) (μ : ZMem) : AW cf_Law_owed S_A10.length S_A10 S_A10 0 [(0, zR (some 0)), (1, zI a1), (2, zI a2), (3, zR (some 115))] [] μ 0 0 (F_Law_owed a1 a2 μ) := by
  unfold F_Law_owed
  refine AW.aload_n (i := 3) (a := 115) (by decide +kernel) rfl (?_ : AW _ _ _ _ 1 _ _ _ _ _ _)
  refine AW.iconst (n := 0) (by decide +kernel) (?_ : AW _ _ _ _ 2 _ _ _ _ _ _)
  refine AW.aload_n (i := 0) (a := 0) (by decide +kernel) rfl (?_ : AW _ _ _ _ 3 _ _ _ _ _ _)
  refine AW.iload_n (i := 1) (a := a1) (by decide +kernel) rfl (?_ : AW _ _ _ _ 4 _ _ _ _ _ _)
  refine AW.iload_n (i := 2) (a := a2) (by decide +kernel) rfl (?_ : AW _ _ _ _ 5 _ _ _ _ _ _)
  refine AW.callVh (g := cf_Ledger_owed) (Sg := S_Ledger) (pl := pl_0) (av := [zI a1, zI a2]) (b0 := 0) (ci := 8) (idx := 106) (n := 2) (st := [zI 0, zR (some 115)]) (by decide +kernel) (fun l hl r hr => c_Ledger_owed l hl a1 a2 _ r hr) sb_115 rfl cal_Ledger_owed rfl (zw4 zm_L_106 zi_yX8_owed zs_yX8_owed zn_X8) rfl rfl ⟨by decide, by decide, by decide, by decide⟩ (Nat.le_of_ble_eq_true rfl) (List.forall_mem_cons.mpr ⟨⟨12, 2, 4, ⟨[], [(0, 9, 16, 13)], (0, 9, 12, 28), rfl, (fun _ h => absurd h List.not_mem_nil), by decide, by decide, by decide, zcl_L_28, zcst_IndexOutOfBoundsException, rfl⟩, ⟨by decide, Or.inr ⟨(by decide +kernel), rfl⟩⟩, (by decide +kernel), (by decide +kernel)⟩, (List.forall_mem_cons.mpr ⟨⟨16, 2, 4, ⟨[(0, 9, 12, 28)], [], (0, 9, 16, 13), rfl, (List.forall_mem_cons.mpr ⟨⟨"java/lang/IndexOutOfBoundsException", by decide, zcl_L_28, by decide +kernel⟩, (fun _ h => absurd h List.not_mem_nil)⟩), by decide, by decide, by decide, zcl_L_13, zcst_IllegalArgumentException, rfl⟩, ⟨by decide, Or.inr ⟨(by decide +kernel), rfl⟩⟩, (by decide +kernel), (by decide +kernel)⟩, (fun _ h => absurd h List.not_mem_nil)⟩)⟩) rfl (fun v μ1 => AW.rJ (fun x2 => (?_ : AW _ _ _ _ 8 _ _ _ _ _ _)) v)
  refine AW.lastL (r := 115) (by decide +kernel) rfl (fun μ3 => (?_ : AW _ _ _ _ 9 _ _ _ _ _ _))
  refine AW.goto (off := 11) (tgt := 20) (by decide +kernel) (by decide) ?_
  refine AW.iconst (n := 0) (by decide +kernel) (?_ : AW _ _ _ _ 21 _ _ _ _ _ _)
  exact AW.reti (by decide +kernel) rfl (by decide) (by decide)
theorem c_Law_owed (l : Launch) (hl : l.stackTraces = false) (a1 : Int) (a2 : Int) (μ : ZMem) (v : Option ZV) (ν : ZMem) (h : F_Law_owed a1 a2 μ = some (.inr v, ν)) : ZC l cf_Law_owed S_A10 S_A10 [zR (some 0), zI a1, zI a2, zR (some 115)] μ (.inr v, ν) := ZC.ofH hl (by decide +kernel) (List.cons_ne_nil _ _) rfl (fun _ h => absurd h List.not_mem_nil) (Nat.le_of_ble_eq_true rfl) h (w_Law_owed a1 a2 μ)
/-! WeirLedgerLaw.patience(LWeirLedger;I[J)I -/
def cf_Law_patience : ZCf := (yL_patience, cL_patience, 4, some .int, [(0, 9, 12, 13)], 11, 1, 6, [], none)
theorem cal_Law_patience : zCalleeH cf_Law_patience 3 := ⟨List.cons_ne_nil _ _, zc_yL_patience, by decide, by decide, by decide +kernel⟩
def F_Law_patience (a1 : Int) (μ : ZMem) : Option ZRes := zCm pl_0 μ (F_Ledger_patience a1 (zVw pl_0 μ)) (zkI (fun x2 μ1 => zWr μ1 115 1 0 (w32 x2) (fun μ3 => some (.inr (some (zI 0)), μ3)))) (zXh [("java/lang/IllegalArgumentException", 1)])
set_option maxRecDepth 100000 in
theorem w_Law_patience (a1 : Int) (μ : ZMem) : AW cf_Law_patience S_A10.length S_A10 S_A10 0 [(0, zR (some 0)), (1, zI a1), (2, zR (some 115))] [] μ 0 0 (F_Law_patience a1 μ) := by
  unfold F_Law_patience
  refine AW.aload_n (i := 2) (a := 115) (by decide +kernel) rfl (?_ : AW _ _ _ _ 1 _ _ _ _ _ _)
  refine AW.iconst (n := 0) (by decide +kernel) (?_ : AW _ _ _ _ 2 _ _ _ _ _ _)
  refine AW.aload_n (i := 0) (a := 0) (by decide +kernel) rfl (?_ : AW _ _ _ _ 3 _ _ _ _ _ _)
  refine AW.iload_n (i := 1) (a := a1) (by decide +kernel) rfl (?_ : AW _ _ _ _ 4 _ _ _ _ _ _)
  refine AW.callVh (g := cf_Ledger_patience) (Sg := S_Ledger) (pl := pl_0) (av := [zI a1]) (b0 := 0) (ci := 8) (idx := 109) (n := 1) (st := [zI 0, zR (some 115)]) (by decide +kernel) (fun l hl r hr => c_Ledger_patience l hl a1 _ r hr) sb_115 rfl cal_Ledger_patience rfl (zw4 zm_L_109 zi_yX8_patience zs_yX8_patience zn_X8) rfl rfl ⟨by decide, by decide, by decide, by decide⟩ (Nat.le_of_ble_eq_true rfl) (List.forall_mem_cons.mpr ⟨⟨12, 1, 3, ⟨[], [], (0, 9, 12, 13), rfl, (fun _ h => absurd h List.not_mem_nil), by decide, by decide, by decide, zcl_L_13, zcst_IllegalArgumentException, rfl⟩, ⟨by decide, Or.inl ⟨3, (by decide +kernel), rfl, rfl⟩⟩, (by decide +kernel), (by decide +kernel)⟩, (fun _ h => absurd h List.not_mem_nil)⟩) rfl (fun v μ1 => AW.rI (fun x2 => (?_ : AW _ _ _ _ 7 _ _ _ _ _ _)) v)
  refine AW.i2l (by decide +kernel) (?_ : AW _ _ _ _ 8 _ _ _ _ _ _)
  refine AW.lastL (r := 115) (by decide +kernel) rfl (fun μ3 => (?_ : AW _ _ _ _ 9 _ _ _ _ _ _))
  refine AW.goto (off := 6) (tgt := 15) (by decide +kernel) (by decide) ?_
  refine AW.iconst (n := 0) (by decide +kernel) (?_ : AW _ _ _ _ 16 _ _ _ _ _ _)
  exact AW.reti (by decide +kernel) rfl (by decide) (by decide)
theorem c_Law_patience (l : Launch) (hl : l.stackTraces = false) (a1 : Int) (μ : ZMem) (v : Option ZV) (ν : ZMem) (h : F_Law_patience a1 μ = some (.inr v, ν)) : ZC l cf_Law_patience S_A10 S_A10 [zR (some 0), zI a1, zR (some 115)] μ (.inr v, ν) := ZC.ofH hl (by decide +kernel) (List.cons_ne_nil _ _) rfl (fun _ h => absurd h List.not_mem_nil) (Nat.le_of_ble_eq_true rfl) h (w_Law_patience a1 μ)
/-! WeirLedgerLaw.deals(LWeirLedger;I[J)I -/
def cf_Law_deals : ZCf := (yL_deals, cL_deals, 4, some .int, [(0, 9, 12, 22)], 11, 1, 6, [], none)
theorem cal_Law_deals : zCalleeH cf_Law_deals 3 := ⟨List.cons_ne_nil _ _, zc_yL_deals, by decide, by decide, by decide +kernel⟩
def F_Law_deals (a1 : Int) (μ : ZMem) : Option ZRes := zCm pl_0 μ (F_Ledger_deals a1 (zVw pl_0 μ)) (zkI (fun x2 μ1 => zWr μ1 115 1 0 (w32 x2) (fun μ3 => some (.inr (some (zI 0)), μ3)))) (zXh [("java/util/NoSuchElementException", 1)])
set_option maxRecDepth 100000 in
theorem w_Law_deals (a1 : Int) (μ : ZMem) : AW cf_Law_deals S_A10.length S_A10 S_A10 0 [(0, zR (some 0)), (1, zI a1), (2, zR (some 115))] [] μ 0 0 (F_Law_deals a1 μ) := by
  unfold F_Law_deals
  refine AW.aload_n (i := 2) (a := 115) (by decide +kernel) rfl (?_ : AW _ _ _ _ 1 _ _ _ _ _ _)
  refine AW.iconst (n := 0) (by decide +kernel) (?_ : AW _ _ _ _ 2 _ _ _ _ _ _)
  refine AW.aload_n (i := 0) (a := 0) (by decide +kernel) rfl (?_ : AW _ _ _ _ 3 _ _ _ _ _ _)
  refine AW.iload_n (i := 1) (a := a1) (by decide +kernel) rfl (?_ : AW _ _ _ _ 4 _ _ _ _ _ _)
  refine AW.callVh (g := cf_Ledger_deals) (Sg := S_Ledger) (pl := pl_0) (av := [zI a1]) (b0 := 0) (ci := 8) (idx := 112) (n := 1) (st := [zI 0, zR (some 115)]) (by decide +kernel) (fun l hl r hr => c_Ledger_deals l hl a1 _ r hr) sb_115 rfl cal_Ledger_deals rfl (zw4 zm_L_112 zi_yX8_deals zs_yX8_deals zn_X8) rfl rfl ⟨by decide, by decide, by decide, by decide⟩ (Nat.le_of_ble_eq_true rfl) (List.forall_mem_cons.mpr ⟨⟨12, 1, 3, ⟨[], [], (0, 9, 12, 22), rfl, (fun _ h => absurd h List.not_mem_nil), by decide, by decide, by decide, zcl_L_22, zcst_NoSuchElementException, rfl⟩, ⟨by decide, Or.inl ⟨3, (by decide +kernel), rfl, rfl⟩⟩, (by decide +kernel), (by decide +kernel)⟩, (fun _ h => absurd h List.not_mem_nil)⟩) rfl (fun v μ1 => AW.rI (fun x2 => (?_ : AW _ _ _ _ 7 _ _ _ _ _ _)) v)
  refine AW.i2l (by decide +kernel) (?_ : AW _ _ _ _ 8 _ _ _ _ _ _)
  refine AW.lastL (r := 115) (by decide +kernel) rfl (fun μ3 => (?_ : AW _ _ _ _ 9 _ _ _ _ _ _))
  refine AW.goto (off := 6) (tgt := 15) (by decide +kernel) (by decide) ?_
  refine AW.iconst (n := 0) (by decide +kernel) (?_ : AW _ _ _ _ 16 _ _ _ _ _ _)
  exact AW.reti (by decide +kernel) rfl (by decide) (by decide)
theorem c_Law_deals (l : Launch) (hl : l.stackTraces = false) (a1 : Int) (μ : ZMem) (v : Option ZV) (ν : ZMem) (h : F_Law_deals a1 μ = some (.inr v, ν)) : ZC l cf_Law_deals S_A10 S_A10 [zR (some 0), zI a1, zR (some 115)] μ (.inr v, ν) := ZC.ofH hl (by decide +kernel) (List.cons_ne_nil _ _) rfl (fun _ h => absurd h List.not_mem_nil) (Nat.le_of_ble_eq_true rfl) h (w_Law_deals a1 μ)
/-! WeirLedgerLaw.curve(LWeirLedger;I[J)I -/
def cf_Law_curve : ZCf := (yL_curve, cL_curve, 4, some .int, [(0, 8, 11, 13)], 11, 1, 6, [], none)
theorem cal_Law_curve : zCalleeH cf_Law_curve 3 := ⟨List.cons_ne_nil _ _, zc_yL_curve, by decide, by decide, by decide +kernel⟩
def F_Law_curve (a1 : Int) (μ : ZMem) : Option ZRes := zCm pl_0 μ (F_Ledger_curve a1 (zVw pl_0 μ)) (zkJ (fun x2 μ1 => zWr μ1 115 1 0 x2 (fun μ3 => some (.inr (some (zI 0)), μ3)))) (zXh [("java/lang/IllegalArgumentException", 1)])
set_option maxRecDepth 100000 in
theorem w_Law_curve (a1 : Int) (μ : ZMem) : AW cf_Law_curve S_A10.length S_A10 S_A10 0 [(0, zR (some 0)), (1, zI a1), (2, zR (some 115))] [] μ 0 0 (F_Law_curve a1 μ) := by
  unfold F_Law_curve
  refine AW.aload_n (i := 2) (a := 115) (by decide +kernel) rfl (?_ : AW _ _ _ _ 1 _ _ _ _ _ _)
  refine AW.iconst (n := 0) (by decide +kernel) (?_ : AW _ _ _ _ 2 _ _ _ _ _ _)
  refine AW.aload_n (i := 0) (a := 0) (by decide +kernel) rfl (?_ : AW _ _ _ _ 3 _ _ _ _ _ _)
  refine AW.iload_n (i := 1) (a := a1) (by decide +kernel) rfl (?_ : AW _ _ _ _ 4 _ _ _ _ _ _)
  refine AW.callVh (g := cf_Ledger_curve) (Sg := S_Ledger) (pl := pl_0) (av := [zI a1]) (b0 := 0) (ci := 8) (idx := 115) (n := 1) (st := [zI 0, zR (some 115)]) (by decide +kernel) (fun l hl r hr => c_Ledger_curve l hl a1 _ r hr) sb_115 rfl cal_Ledger_curve rfl (zw4 zm_L_115 zi_yX8_curve zs_yX8_curve zn_X8) rfl rfl ⟨by decide, by decide, by decide, by decide⟩ (Nat.le_of_ble_eq_true rfl) (List.forall_mem_cons.mpr ⟨⟨11, 1, 3, ⟨[], [], (0, 8, 11, 13), rfl, (fun _ h => absurd h List.not_mem_nil), by decide, by decide, by decide, zcl_L_13, zcst_IllegalArgumentException, rfl⟩, ⟨by decide, Or.inl ⟨3, (by decide +kernel), rfl, rfl⟩⟩, (by decide +kernel), (by decide +kernel)⟩, (fun _ h => absurd h List.not_mem_nil)⟩) rfl (fun v μ1 => AW.rJ (fun x2 => (?_ : AW _ _ _ _ 7 _ _ _ _ _ _)) v)
  refine AW.lastL (r := 115) (by decide +kernel) rfl (fun μ3 => (?_ : AW _ _ _ _ 8 _ _ _ _ _ _))
  refine AW.goto (off := 6) (tgt := 14) (by decide +kernel) (by decide) ?_
  refine AW.iconst (n := 0) (by decide +kernel) (?_ : AW _ _ _ _ 15 _ _ _ _ _ _)
  exact AW.reti (by decide +kernel) rfl (by decide) (by decide)
theorem c_Law_curve (l : Launch) (hl : l.stackTraces = false) (a1 : Int) (μ : ZMem) (v : Option ZV) (ν : ZMem) (h : F_Law_curve a1 μ = some (.inr v, ν)) : ZC l cf_Law_curve S_A10 S_A10 [zR (some 0), zI a1, zR (some 115)] μ (.inr v, ν) := ZC.ofH hl (by decide +kernel) (List.cons_ne_nil _ _) rfl (fun _ h => absurd h List.not_mem_nil) (Nat.le_of_ble_eq_true rfl) h (w_Law_curve a1 μ)
/-! WeirLedgerLaw.curves(LWeirLedger;I[J)I -/
def cf_Law_curves : ZCf := (yL_curves, cL_curves, 4, some .int, [(0, 9, 12, 22)], 11, 1, 6, [], none)
theorem cal_Law_curves : zCalleeH cf_Law_curves 3 := ⟨List.cons_ne_nil _ _, zc_yL_curves, by decide, by decide, by decide +kernel⟩
def F_Law_curves (a1 : Int) (μ : ZMem) : Option ZRes := zCm pl_0 μ (F_Ledger_curves a1 (zVw pl_0 μ)) (zkI (fun x2 μ1 => zWr μ1 115 1 0 (w32 x2) (fun μ3 => some (.inr (some (zI 0)), μ3)))) (zXh [("java/util/NoSuchElementException", 1)])
set_option maxRecDepth 100000 in
theorem w_Law_curves (a1 : Int) (μ : ZMem) : AW cf_Law_curves S_A10.length S_A10 S_A10 0 [(0, zR (some 0)), (1, zI a1), (2, zR (some 115))] [] μ 0 0 (F_Law_curves a1 μ) := by
  unfold F_Law_curves
  refine AW.aload_n (i := 2) (a := 115) (by decide +kernel) rfl (?_ : AW _ _ _ _ 1 _ _ _ _ _ _)
  refine AW.iconst (n := 0) (by decide +kernel) (?_ : AW _ _ _ _ 2 _ _ _ _ _ _)
  refine AW.aload_n (i := 0) (a := 0) (by decide +kernel) rfl (?_ : AW _ _ _ _ 3 _ _ _ _ _ _)
  refine AW.iload_n (i := 1) (a := a1) (by decide +kernel) rfl (?_ : AW _ _ _ _ 4 _ _ _ _ _ _)
  refine AW.callVh (g := cf_Ledger_curves) (Sg := S_Ledger) (pl := pl_0) (av := [zI a1]) (b0 := 0) (ci := 8) (idx := 118) (n := 1) (st := [zI 0, zR (some 115)]) (by decide +kernel) (fun l hl r hr => c_Ledger_curves l hl a1 _ r hr) sb_115 rfl cal_Ledger_curves rfl (zw4 zm_L_118 zi_yX8_curves zs_yX8_curves zn_X8) rfl rfl ⟨by decide, by decide, by decide, by decide⟩ (Nat.le_of_ble_eq_true rfl) (List.forall_mem_cons.mpr ⟨⟨12, 1, 3, ⟨[], [], (0, 9, 12, 22), rfl, (fun _ h => absurd h List.not_mem_nil), by decide, by decide, by decide, zcl_L_22, zcst_NoSuchElementException, rfl⟩, ⟨by decide, Or.inl ⟨3, (by decide +kernel), rfl, rfl⟩⟩, (by decide +kernel), (by decide +kernel)⟩, (fun _ h => absurd h List.not_mem_nil)⟩) rfl (fun v μ1 => AW.rI (fun x2 => (?_ : AW _ _ _ _ 7 _ _ _ _ _ _)) v)
  refine AW.i2l (by decide +kernel) (?_ : AW _ _ _ _ 8 _ _ _ _ _ _)
  refine AW.lastL (r := 115) (by decide +kernel) rfl (fun μ3 => (?_ : AW _ _ _ _ 9 _ _ _ _ _ _))
  refine AW.goto (off := 6) (tgt := 15) (by decide +kernel) (by decide) ?_
  refine AW.iconst (n := 0) (by decide +kernel) (?_ : AW _ _ _ _ 16 _ _ _ _ _ _)
  exact AW.reti (by decide +kernel) rfl (by decide) (by decide)
theorem c_Law_curves (l : Launch) (hl : l.stackTraces = false) (a1 : Int) (μ : ZMem) (v : Option ZV) (ν : ZMem) (h : F_Law_curves a1 μ = some (.inr v, ν)) : ZC l cf_Law_curves S_A10 S_A10 [zR (some 0), zI a1, zR (some 115)] μ (.inr v, ν) := ZC.ofH hl (by decide +kernel) (List.cons_ne_nil _ _) rfl (fun _ h => absurd h List.not_mem_nil) (Nat.le_of_ble_eq_true rfl) h (w_Law_curves a1 μ)
/-! WeirLedgerLaw.rate(LWeirLedger;I[J)I -/
def cf_Law_rate : ZCf := (yL_rate, cL_rate, 4, some .int, [(0, 9, 12, 28)], 11, 1, 6, [], none)
theorem cal_Law_rate : zCalleeH cf_Law_rate 3 := ⟨List.cons_ne_nil _ _, zc_yL_rate, by decide, by decide, by decide +kernel⟩
def F_Law_rate (a1 : Int) (μ : ZMem) : Option ZRes := zCm pl_0 μ (F_Ledger_rate a1 (zVw pl_0 μ)) (zkI (fun x2 μ1 => zWr μ1 115 1 0 (w32 x2) (fun μ3 => some (.inr (some (zI 0)), μ3)))) (zXh [("java/lang/IndexOutOfBoundsException", 1)])
set_option maxRecDepth 100000 in
theorem w_Law_rate (a1 : Int) (μ : ZMem) : AW cf_Law_rate S_A10.length S_A10 S_A10 0 [(0, zR (some 0)), (1, zI a1), (2, zR (some 115))] [] μ 0 0 (F_Law_rate a1 μ) := by
  unfold F_Law_rate
  refine AW.aload_n (i := 2) (a := 115) (by decide +kernel) rfl (?_ : AW _ _ _ _ 1 _ _ _ _ _ _)
  refine AW.iconst (n := 0) (by decide +kernel) (?_ : AW _ _ _ _ 2 _ _ _ _ _ _)
  refine AW.aload_n (i := 0) (a := 0) (by decide +kernel) rfl (?_ : AW _ _ _ _ 3 _ _ _ _ _ _)
  refine AW.iload_n (i := 1) (a := a1) (by decide +kernel) rfl (?_ : AW _ _ _ _ 4 _ _ _ _ _ _)
  refine AW.callVh (g := cf_Ledger_rate) (Sg := S_Ledger) (pl := pl_0) (av := [zI a1]) (b0 := 0) (ci := 8) (idx := 121) (n := 1) (st := [zI 0, zR (some 115)]) (by decide +kernel) (fun l hl r hr => c_Ledger_rate l hl a1 _ r hr) sb_115 rfl cal_Ledger_rate rfl (zw4 zm_L_121 zi_yX8_rate zs_yX8_rate zn_X8) rfl rfl ⟨by decide, by decide, by decide, by decide⟩ (Nat.le_of_ble_eq_true rfl) (List.forall_mem_cons.mpr ⟨⟨12, 1, 3, ⟨[], [], (0, 9, 12, 28), rfl, (fun _ h => absurd h List.not_mem_nil), by decide, by decide, by decide, zcl_L_28, zcst_IndexOutOfBoundsException, rfl⟩, ⟨by decide, Or.inl ⟨3, (by decide +kernel), rfl, rfl⟩⟩, (by decide +kernel), (by decide +kernel)⟩, (fun _ h => absurd h List.not_mem_nil)⟩) rfl (fun v μ1 => AW.rI (fun x2 => (?_ : AW _ _ _ _ 7 _ _ _ _ _ _)) v)
  refine AW.i2l (by decide +kernel) (?_ : AW _ _ _ _ 8 _ _ _ _ _ _)
  refine AW.lastL (r := 115) (by decide +kernel) rfl (fun μ3 => (?_ : AW _ _ _ _ 9 _ _ _ _ _ _))
  refine AW.goto (off := 6) (tgt := 15) (by decide +kernel) (by decide) ?_
  refine AW.iconst (n := 0) (by decide +kernel) (?_ : AW _ _ _ _ 16 _ _ _ _ _ _)
  exact AW.reti (by decide +kernel) rfl (by decide) (by decide)
theorem c_Law_rate (l : Launch) (hl : l.stackTraces = false) (a1 : Int) (μ : ZMem) (v : Option ZV) (ν : ZMem) (h : F_Law_rate a1 μ = some (.inr v, ν)) : ZC l cf_Law_rate S_A10 S_A10 [zR (some 0), zI a1, zR (some 115)] μ (.inr v, ν) := ZC.ofH hl (by decide +kernel) (List.cons_ne_nil _ _) rfl (fun _ h => absurd h List.not_mem_nil) (Nat.le_of_ble_eq_true rfl) h (w_Law_rate a1 μ)
/-! WeirLedgerLaw.multiple(LWeirLedger;I[J)I -/
def cf_Law_multiple : ZCf := (yL_multiple, cL_multiple, 4, some .int, [(0, 9, 12, 28)], 11, 1, 6, [], none)
theorem cal_Law_multiple : zCalleeH cf_Law_multiple 3 := ⟨List.cons_ne_nil _ _, zc_yL_multiple, by decide, by decide, by decide +kernel⟩
def F_Law_multiple (a1 : Int) (μ : ZMem) : Option ZRes := zCm pl_0 μ (F_Ledger_multiple a1 (zVw pl_0 μ)) (zkI (fun x2 μ1 => zWr μ1 115 1 0 (w32 x2) (fun μ3 => some (.inr (some (zI 0)), μ3)))) (zXh [("java/lang/IndexOutOfBoundsException", 1)])
set_option maxRecDepth 100000 in
theorem w_Law_multiple (a1 : Int) (μ : ZMem) : AW cf_Law_multiple S_A10.length S_A10 S_A10 0 [(0, zR (some 0)), (1, zI a1), (2, zR (some 115))] [] μ 0 0 (F_Law_multiple a1 μ) := by
  unfold F_Law_multiple
  refine AW.aload_n (i := 2) (a := 115) (by decide +kernel) rfl (?_ : AW _ _ _ _ 1 _ _ _ _ _ _)
  refine AW.iconst (n := 0) (by decide +kernel) (?_ : AW _ _ _ _ 2 _ _ _ _ _ _)
  refine AW.aload_n (i := 0) (a := 0) (by decide +kernel) rfl (?_ : AW _ _ _ _ 3 _ _ _ _ _ _)
  refine AW.iload_n (i := 1) (a := a1) (by decide +kernel) rfl (?_ : AW _ _ _ _ 4 _ _ _ _ _ _)
  refine AW.callVh (g := cf_Ledger_multiple) (Sg := S_Ledger) (pl := pl_0) (av := [zI a1]) (b0 := 0) (ci := 8) (idx := 124) (n := 1) (st := [zI 0, zR (some 115)]) (by decide +kernel) (fun l hl r hr => c_Ledger_multiple l hl a1 _ r hr) sb_115 rfl cal_Ledger_multiple rfl (zw4 zm_L_124 zi_yX8_multiple zs_yX8_multiple zn_X8) rfl rfl ⟨by decide, by decide, by decide, by decide⟩ (Nat.le_of_ble_eq_true rfl) (List.forall_mem_cons.mpr ⟨⟨12, 1, 3, ⟨[], [], (0, 9, 12, 28), rfl, (fun _ h => absurd h List.not_mem_nil), by decide, by decide, by decide, zcl_L_28, zcst_IndexOutOfBoundsException, rfl⟩, ⟨by decide, Or.inl ⟨3, (by decide +kernel), rfl, rfl⟩⟩, (by decide +kernel), (by decide +kernel)⟩, (fun _ h => absurd h List.not_mem_nil)⟩) rfl (fun v μ1 => AW.rI (fun x2 => (?_ : AW _ _ _ _ 7 _ _ _ _ _ _)) v)
  refine AW.i2l (by decide +kernel) (?_ : AW _ _ _ _ 8 _ _ _ _ _ _)
  refine AW.lastL (r := 115) (by decide +kernel) rfl (fun μ3 => (?_ : AW _ _ _ _ 9 _ _ _ _ _ _))
  refine AW.goto (off := 6) (tgt := 15) (by decide +kernel) (by decide) ?_
  refine AW.iconst (n := 0) (by decide +kernel) (?_ : AW _ _ _ _ 16 _ _ _ _ _ _)
  exact AW.reti (by decide +kernel) rfl (by decide) (by decide)
theorem c_Law_multiple (l : Launch) (hl : l.stackTraces = false) (a1 : Int) (μ : ZMem) (v : Option ZV) (ν : ZMem) (h : F_Law_multiple a1 μ = some (.inr v, ν)) : ZC l cf_Law_multiple S_A10 S_A10 [zR (some 0), zI a1, zR (some 115)] μ (.inr v, ν) := ZC.ofH hl (by decide +kernel) (List.cons_ne_nil _ _) rfl (fun _ h => absurd h List.not_mem_nil) (Nat.le_of_ble_eq_true rfl) h (w_Law_multiple a1 μ)
/-! WeirLedgerLaw.act(LWeirLedger;II[J)I -/
def cf_Law_act : ZCf := (yL_act, cL_act, 5, some .int, [(0, 10, 13, 28), (0, 10, 17, 22)], 11, 1, 6, [], none)
theorem cal_Law_act : zCalleeH cf_Law_act 4 := ⟨List.cons_ne_nil _ _, zc_yL_act, by decide, by decide, by decide +kernel⟩
def F_Law_act (a1 : Int) (a2 : Int) (μ : ZMem) : Option ZRes := zCm pl_0 μ (F_Ledger_act a1 a2 (zVw pl_0 μ)) (zkI (fun x2 μ1 => zWr μ1 115 1 0 (w32 x2) (fun μ3 => some (.inr (some (zI 0)), μ3)))) (zXh [("java/lang/IndexOutOfBoundsException", 1), ("java/util/NoSuchElementException", 2)])
set_option maxRecDepth 100000 in
theorem w_Law_act (a1 : Int) (a2 : Int) (μ : ZMem) : AW cf_Law_act S_A10.length S_A10 S_A10 0 [(0, zR (some 0)), (1, zI a1), (2, zI a2), (3, zR (some 115))] [] μ 0 0 (F_Law_act a1 a2 μ) := by
  unfold F_Law_act
  refine AW.aload_n (i := 3) (a := 115) (by decide +kernel) rfl (?_ : AW _ _ _ _ 1 _ _ _ _ _ _)
  refine AW.iconst (n := 0) (by decide +kernel) (?_ : AW _ _ _ _ 2 _ _ _ _ _ _)
  refine AW.aload_n (i := 0) (a := 0) (by decide +kernel) rfl (?_ : AW _ _ _ _ 3 _ _ _ _ _ _)
  refine AW.iload_n (i := 1) (a := a1) (by decide +kernel) rfl (?_ : AW _ _ _ _ 4 _ _ _ _ _ _)
  refine AW.iload_n (i := 2) (a := a2) (by decide +kernel) rfl (?_ : AW _ _ _ _ 5 _ _ _ _ _ _)
  refine AW.callVh (g := cf_Ledger_act) (Sg := S_Ledger) (pl := pl_0) (av := [zI a1, zI a2]) (b0 := 0) (ci := 8) (idx := 127) (n := 2) (st := [zI 0, zR (some 115)]) (by decide +kernel) (fun l hl r hr => c_Ledger_act l hl a1 a2 _ r hr) sb_115 rfl cal_Ledger_act rfl (zw4 zm_L_127 zi_yX8_act zs_yX8_act zn_X8) rfl rfl ⟨by decide, by decide, by decide, by decide⟩ (Nat.le_of_ble_eq_true rfl) (List.forall_mem_cons.mpr ⟨⟨13, 2, 4, ⟨[], [(0, 10, 17, 22)], (0, 10, 13, 28), rfl, (fun _ h => absurd h List.not_mem_nil), by decide, by decide, by decide, zcl_L_28, zcst_IndexOutOfBoundsException, rfl⟩, ⟨by decide, Or.inr ⟨(by decide +kernel), rfl⟩⟩, (by decide +kernel), (by decide +kernel)⟩, (List.forall_mem_cons.mpr ⟨⟨17, 2, 4, ⟨[(0, 10, 13, 28)], [], (0, 10, 17, 22), rfl, (List.forall_mem_cons.mpr ⟨⟨"java/lang/IndexOutOfBoundsException", by decide, zcl_L_28, by decide +kernel⟩, (fun _ h => absurd h List.not_mem_nil)⟩), by decide, by decide, by decide, zcl_L_22, zcst_NoSuchElementException, rfl⟩, ⟨by decide, Or.inr ⟨(by decide +kernel), rfl⟩⟩, (by decide +kernel), (by decide +kernel)⟩, (fun _ h => absurd h List.not_mem_nil)⟩)⟩) rfl (fun v μ1 => AW.rI (fun x2 => (?_ : AW _ _ _ _ 8 _ _ _ _ _ _)) v)
  refine AW.i2l (by decide +kernel) (?_ : AW _ _ _ _ 9 _ _ _ _ _ _)
  refine AW.lastL (r := 115) (by decide +kernel) rfl (fun μ3 => (?_ : AW _ _ _ _ 10 _ _ _ _ _ _))
  refine AW.goto (off := 11) (tgt := 21) (by decide +kernel) (by decide) ?_
  refine AW.iconst (n := 0) (by decide +kernel) (?_ : AW _ _ _ _ 22 _ _ _ _ _ _)
  exact AW.reti (by decide +kernel) rfl (by decide) (by decide)
theorem c_Law_act (l : Launch) (hl : l.stackTraces = false) (a1 : Int) (a2 : Int) (μ : ZMem) (v : Option ZV) (ν : ZMem) (h : F_Law_act a1 a2 μ = some (.inr v, ν)) : ZC l cf_Law_act S_A10 S_A10 [zR (some 0), zI a1, zI a2, zR (some 115)] μ (.inr v, ν) := ZC.ofH hl (by decide +kernel) (List.cons_ne_nil _ _) rfl (fun _ h => absurd h List.not_mem_nil) (Nat.le_of_ble_eq_true rfl) h (w_Law_act a1 a2 μ)
